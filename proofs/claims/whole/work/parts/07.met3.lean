section W3
variable {p : Program} {l : Launch} {e : Env} {s : State} {m : MethodId} {args : Array Value} {below : List Frame} {meth : Method} {c : Code} {B : Nat} {D : va_G} {Y : Nat → ClassId} {o : Ou}
set_option maxRecDepth 100000 in
theorem w_X7_mostOf_L5 {M : Mem} {x1 : Int32} {x2 : Int32} {r : Int32} (C : Cx p s m args c cX7_mostOf 6 RX7 B D Y) (hr : meth.sig.returnType = (some .int)) (hk : meth.locks = false)  : ∀ (n : Nat) (x3 : Int32) (x4 : Int32), f_X7_mostOf_L5 M x1 x2 n (x3, x4) = some r → At p l e rm_X7_mostOf s m args below meth c 6 0 0 (QQ below args s B D Y M o (some (.int r))) B D Y o 5 M [(0, .ref (B + 47)), (1, .int x1), (2, .int x2), (3, .int x3), (4, .int x4)] [] := by
  intro n
  induction n with
  | zero => intro x3 x4 hf; exact nomatch (show (none : Option Int32) = some r from hf)
  | succ n hk5 =>
    intro x3 x4 hf
    replace hf : g_X7_mostOf_L5 M x1 x2 (f_X7_mostOf_L5 M x1 x2 n) (x3, x4) = some r := hf
    dsimp only [g_X7_mostOf_L5] at hf
    refine A_iload C (pc := 5) 4 rfl dX7_mostOf_5 ?_
    refine A_iconst C (pc := 7) ic_1 dX7_mostOf_7 ?_
    refine A_aload_n C (pc := 8) 0 rfl dX7_mostOf_8 ?_
    refine A_g7_0 C (pc := 9) kf_X7_9 dX7_mostOf_9 ?_
    refine A_iload_n C (pc := 12) 1 rfl dX7_mostOf_12 ?_
    obtain ⟨c13, hf⟩ := chk_i hf
    refine A_iald C (pc := 13) (show IA 48 5 from ⟨rfl, rfl⟩) c13 dX7_mostOf_13 ?_
    refine A_ishl C (pc := 14) dX7_mostOf_14 ?_
    refine A_icmp_ge C (pc := 15) 55 (by decide) dX7_mostOf_15 hf (fun _ hf => ?_) (fun _ hf => ?_)
    · refine A_iload_n C (pc := 55) 3 rfl dX7_mostOf_55 ?_
      exact R_iP C (pc := 56) hr hk rfl dX7_mostOf_56 hf
    · refine A_iload C (pc := 18) 4 rfl dX7_mostOf_18 ?_
      obtain ⟨z20, h20, hf⟩ := bd_i hf
      refine A_callS1 C (pc := 20) (A := [.int x4]) (rest := []) k_X7_108 ky_X7_manyIn ks_X7_manyIn (m_X7_manyIn l B D Y o  h20) rfl rfl (Nat.le_of_ble_eq_true rfl) ⟨rfl, rfl, Nat.le_of_ble_eq_true rfl, Nat.le_of_ble_eq_true rfl⟩ ⟨Nat.zero_le _, Nat.zero_le _⟩ dX7_mostOf_20 ?_
      refine A_istore C (pc := 23) [(0, .ref (B + 47)), (1, .int x1), (2, .int x2), (3, .int x3), (4, .int x4), (5, .int z20)] (by decide) [1, 2, 3, 4, 5, 0] rfl dX7_mostOf_23 ?_
      refine A_iload C (pc := 25) 5 rfl dX7_mostOf_25 ?_
      refine A_iload_n C (pc := 27) 3 rfl dX7_mostOf_27 ?_
      refine A_icmp_le C (pc := 28) 47 (by decide) dX7_mostOf_28 hf (fun _ hf => ?_) (fun _ hf => ?_)
      · refine A_iload_n C (pc := 47) 3 rfl dX7_mostOf_47 ?_
        refine A_istore_n C (pc := 48) [(0, .ref (B + 47)), (1, .int x1), (2, .int x2), (3, .int x3), (4, .int x4)] rfl (by decide) [1, 2, 3, 0, 4] rfl dX7_mostOf_48 ?_
        refine A_iinc C (pc := 49) (k0 := 4) [(0, .ref (B + 47)), (1, .int x1), (2, .int x2), (3, .int x3), (4, .int (x4 + 1))] rfl ic_1 (by decide) [1, 2, 3, 4, 0] rfl dX7_mostOf_49 ?_
        refine A_goto C (pc := 52) 5 (by decide) dX7_mostOf_52 ?_
        exact hk5 _ _ hf
      · refine A_aload_n C (pc := 31) 0 rfl dX7_mostOf_31 ?_
        refine A_iload_n C (pc := 32) 1 rfl dX7_mostOf_32 ?_
        refine A_iload C (pc := 33) 4 rfl dX7_mostOf_33 ?_
        refine A_iload_n C (pc := 35) 2 rfl dX7_mostOf_35 ?_
        obtain ⟨z36, h36, hf⟩ := bd_i hf
        refine A_callV1 C (pc := 36) (A := [.int x1, .int x4, .int x2]) (rest := []) k_X7_101 ky_X7_isAll kv_X7_isAll (m_X7_isAll l B D Y o  h36) (by decide) rfl rfl rfl rfl (Nat.le_of_ble_eq_true rfl) ⟨rfl, rfl, Nat.le_of_ble_eq_true rfl, Nat.le_of_ble_eq_true rfl⟩ ⟨Nat.zero_le _, Nat.zero_le _⟩ dX7_mostOf_36 ?_
        refine A_if_eq C (pc := 39) 47 (by decide) dX7_mostOf_39 hf (fun _ hf => ?_) (fun _ hf => ?_)
        · refine A_iload_n C (pc := 47) 3 rfl dX7_mostOf_47 ?_
          refine A_istore_n C (pc := 48) [(0, .ref (B + 47)), (1, .int x1), (2, .int x2), (3, .int x3), (4, .int x4)] rfl (by decide) [1, 2, 3, 0, 4] rfl dX7_mostOf_48 ?_
          refine A_iinc C (pc := 49) (k0 := 4) [(0, .ref (B + 47)), (1, .int x1), (2, .int x2), (3, .int x3), (4, .int (x4 + 1))] rfl ic_1 (by decide) [1, 2, 3, 4, 0] rfl dX7_mostOf_49 ?_
          refine A_goto C (pc := 52) 5 (by decide) dX7_mostOf_52 ?_
          exact hk5 _ _ hf
        · refine A_iload C (pc := 42) 5 rfl dX7_mostOf_42 ?_
          refine A_goto C (pc := 44) 48 (by decide) dX7_mostOf_44 ?_
          refine A_istore_n C (pc := 48) [(0, .ref (B + 47)), (1, .int x1), (2, .int x2), (3, .int z20), (4, .int x4)] rfl (by decide) [1, 2, 3, 0, 4] rfl dX7_mostOf_48 ?_
          refine A_iinc C (pc := 49) (k0 := 4) [(0, .ref (B + 47)), (1, .int x1), (2, .int x2), (3, .int z20), (4, .int (x4 + 1))] rfl ic_1 (by decide) [1, 2, 3, 4, 0] rfl dX7_mostOf_49 ?_
          refine A_goto C (pc := 52) 5 (by decide) dX7_mostOf_52 ?_
          exact hk5 _ _ hf
set_option maxRecDepth 100000 in
theorem m_X7_mostOf (l : Launch) (B : Nat) (D : va_G) (Y : Nat → ClassId) (o : Ou) {M : Mem} {x1 : Int32} {x2 : Int32} {r : Int32}  (hf : f_X7_mostOf M x1 x2 = some r) : MW l yX7_mostOf cX7_mostOf 6 (some .int) rm_X7_mostOf B D Y o [.ref (B + 47), .int x1, .int x2] M M (some (.int r)) := by
  refine ofAt (L0 := [(0, .ref (B + 47)), (1, .int x1), (2, .int x2)]) (by decide +kernel) (Nat.le_of_ble_eq_true rfl) rfl (fun p e s m args below meth c C hr hk => ?_)
  dsimp only [f_X7_mostOf] at hf
  refine A_iconst C (pc := 0) ic_0 dX7_mostOf_0 ?_
  refine A_istore_n C (pc := 1) [(0, .ref (B + 47)), (1, .int x1), (2, .int x2), (3, .int 0)] rfl (by decide) [1, 2, 3, 0] rfl dX7_mostOf_1 ?_
  refine A_iconst C (pc := 2) ic_0 dX7_mostOf_2 ?_
  refine A_istore C (pc := 3) [(0, .ref (B + 47)), (1, .int x1), (2, .int x2), (3, .int 0), (4, .int 0)] (by decide) [1, 2, 3, 4, 0] rfl dX7_mostOf_3 ?_
  exact w_X7_mostOf_L5 C hr hk FU _ _  hf
set_option maxRecDepth 100000 in
theorem m_X7_longest (l : Launch) (B : Nat) (D : va_G) (Y : Nat → ClassId) (o : Ou) {M : Mem} {x1 : Int32} {r : Int32 × Mem}  (hf : f_X7_longest M x1 = some r) : MW l yX7_longest cX7_longest 2 (some .int) rm_X7_longest B D Y o [.ref (B + 47), .int x1] M r.2 (some (.int r.1)) := by
  refine ofAt (L0 := [(0, .ref (B + 47)), (1, .int x1)]) (by decide +kernel) (Nat.le_of_ble_eq_true rfl) rfl (fun p e s m args below meth c C hr hk => ?_)
  dsimp only [f_X7_longest] at hf
  refine A_aload_n C (pc := 0) 0 rfl dX7_longest_0 ?_
  refine A_iload_n C (pc := 1) 1 rfl dX7_longest_1 ?_
  obtain ⟨z2, h2, hf⟩ := bd_i hf
  refine A_callS1 C (pc := 2) (A := [.int x1]) (rest := [.ref (B + 47)]) k_X7_43 ky_X7_isOrder ks_X7_isOrder (m_X7_isOrder l B D Y o  h2) rfl rfl (Nat.le_of_ble_eq_true rfl) ⟨rfl, rfl, Nat.le_of_ble_eq_true rfl, Nat.le_of_ble_eq_true rfl⟩ ⟨Nat.zero_le _, Nat.zero_le _⟩ dX7_longest_2 ?_
  refine A_iconst C (pc := 5) ic_1 dX7_longest_5 ?_
  obtain ⟨z6, h6, hf⟩ := bd_i hf
  refine A_callV1 C (pc := 6) (A := [.int z2, .int 1]) (rest := []) k_X7_51 ky_X7_lets kv_X7_lets (m_X7_lets l B D Y o  h6) (by decide) rfl rfl rfl rfl (Nat.le_of_ble_eq_true rfl) ⟨rfl, rfl, Nat.le_of_ble_eq_true rfl, Nat.le_of_ble_eq_true rfl⟩ ⟨Nat.zero_le _, Nat.zero_le _⟩ dX7_longest_6 ?_
  refine A_if_eq C (pc := 9) 21 (by decide) dX7_longest_9 hf (fun _ hf => ?_) (fun _ hf => ?_)
  · refine A_iconst C (pc := 21) ic_0 dX7_longest_21 ?_
    exact R_iM C (pc := 22) hr hk rfl dX7_longest_22 hf
  · refine A_aload_n C (pc := 12) 0 rfl dX7_longest_12 ?_
    refine A_iload_n C (pc := 13) 1 rfl dX7_longest_13 ?_
    refine A_iconst C (pc := 14) ic_1 dX7_longest_14 ?_
    obtain ⟨z15, h15, hf⟩ := bd_i hf
    refine A_callV1 C (pc := 15) (A := [.int x1, .int 1]) (rest := []) k_X7_111 ky_X7_mostOf kv_X7_mostOf (m_X7_mostOf l B D Y o  h15) (by decide) rfl rfl rfl rfl (Nat.le_of_ble_eq_true rfl) ⟨rfl, rfl, Nat.le_of_ble_eq_true rfl, Nat.le_of_ble_eq_true rfl⟩ ⟨Nat.zero_le _, Nat.zero_le _⟩ dX7_longest_15 ?_
    refine A_goto C (pc := 18) 22 (by decide) dX7_longest_18 ?_
    exact R_iM C (pc := 22) hr hk rfl dX7_longest_22 hf
set_option maxRecDepth 100000 in
theorem m_X7_widest (l : Launch) (B : Nat) (D : va_G) (Y : Nat → ClassId) (o : Ou) {M : Mem} {x1 : Int32} {r : Int32 × Mem}  (hf : f_X7_widest M x1 = some r) : MW l yX7_widest cX7_widest 2 (some .int) rm_X7_widest B D Y o [.ref (B + 47), .int x1] M r.2 (some (.int r.1)) := by
  refine ofAt (L0 := [(0, .ref (B + 47)), (1, .int x1)]) (by decide +kernel) (Nat.le_of_ble_eq_true rfl) rfl (fun p e s m args below meth c C hr hk => ?_)
  dsimp only [f_X7_widest] at hf
  refine A_aload_n C (pc := 0) 0 rfl dX7_widest_0 ?_
  refine A_iload_n C (pc := 1) 1 rfl dX7_widest_1 ?_
  obtain ⟨z2, h2, hf⟩ := bd_i hf
  refine A_callS1 C (pc := 2) (A := [.int x1]) (rest := [.ref (B + 47)]) k_X7_43 ky_X7_isOrder ks_X7_isOrder (m_X7_isOrder l B D Y o  h2) rfl rfl (Nat.le_of_ble_eq_true rfl) ⟨rfl, rfl, Nat.le_of_ble_eq_true rfl, Nat.le_of_ble_eq_true rfl⟩ ⟨Nat.zero_le _, Nat.zero_le _⟩ dX7_widest_2 ?_
  refine A_iconst C (pc := 5) ic_1 dX7_widest_5 ?_
  obtain ⟨z6, h6, hf⟩ := bd_i hf
  refine A_callV1 C (pc := 6) (A := [.int z2, .int 1]) (rest := []) k_X7_51 ky_X7_lets kv_X7_lets (m_X7_lets l B D Y o  h6) (by decide) rfl rfl rfl rfl (Nat.le_of_ble_eq_true rfl) ⟨rfl, rfl, Nat.le_of_ble_eq_true rfl, Nat.le_of_ble_eq_true rfl⟩ ⟨Nat.zero_le _, Nat.zero_le _⟩ dX7_widest_6 ?_
  refine A_if_eq C (pc := 9) 21 (by decide) dX7_widest_9 hf (fun _ hf => ?_) (fun _ hf => ?_)
  · refine A_iconst C (pc := 21) ic_0 dX7_widest_21 ?_
    exact R_iM C (pc := 22) hr hk rfl dX7_widest_22 hf
  · refine A_aload_n C (pc := 12) 0 rfl dX7_widest_12 ?_
    refine A_iload_n C (pc := 13) 1 rfl dX7_widest_13 ?_
    refine A_iconst C (pc := 14) ic_0 dX7_widest_14 ?_
    obtain ⟨z15, h15, hf⟩ := bd_i hf
    refine A_callV1 C (pc := 15) (A := [.int x1, .int 0]) (rest := []) k_X7_111 ky_X7_mostOf kv_X7_mostOf (m_X7_mostOf l B D Y o  h15) (by decide) rfl rfl rfl rfl (Nat.le_of_ble_eq_true rfl) ⟨rfl, rfl, Nat.le_of_ble_eq_true rfl, Nat.le_of_ble_eq_true rfl⟩ ⟨Nat.zero_le _, Nat.zero_le _⟩ dX7_widest_15 ?_
    refine A_goto C (pc := 18) 22 (by decide) dX7_widest_18 ?_
    exact R_iM C (pc := 22) hr hk rfl dX7_widest_22 hf
set_option maxRecDepth 100000 in
theorem w_X7_fewestOf_L32 {x1 : Int32} {x2 : Int32} {x3 : Int32} {r : Int32 × Mem} (C : Cx p s m args c cX7_fewestOf 6 RX7 B D Y) (hr : meth.sig.returnType = (some .int)) (hk : meth.locks = false)  {k9 : (Int32 × Mem) → Option (Int32 × Mem)} (hk9 : ∀ (x3 : Int32) (M : Mem), k9 (x3, M) = some r → At p l e rm_X7_fewestOf s m args below meth c 6 0 0 (QQ below args s B D Y r.2 o (some (.int r.1))) B D Y o 9 M [(0, .ref (B + 47)), (1, .int x1), (2, .int x2), (3, .int x3)] []) : ∀ (n : Nat) (x4 : Int32) (M : Mem), f_X7_fewestOf_L32 x1 x2 x3 k9 n (x4, M) = some r → At p l e rm_X7_fewestOf s m args below meth c 6 0 0 (QQ below args s B D Y r.2 o (some (.int r.1))) B D Y o 32 M [(0, .ref (B + 47)), (1, .int x1), (2, .int x2), (3, .int x3), (4, .int x4)] [] := by
  intro n
  induction n with
  | zero => intro x4 M hf; exact nomatch (show (none : Option (Int32 × Mem)) = some r from hf)
  | succ n hk32 =>
    intro x4 M hf
    replace hf : g_X7_fewestOf_L32 x1 x2 x3 k9 (f_X7_fewestOf_L32 x1 x2 x3 k9 n) (x4, M) = some r := hf
    dsimp only [g_X7_fewestOf_L32] at hf
    refine A_iload C (pc := 32) 4 rfl dX7_fewestOf_32 ?_
    refine A_if_le C (pc := 34) 100 (by decide) dX7_fewestOf_34 hf (fun _ hf => ?_) (fun _ hf => ?_)
    · refine A_iinc C (pc := 100) (k0 := 3) [(0, .ref (B + 47)), (1, .int x1), (2, .int x2), (3, .int (x3 + 1))] rfl ic_1 (by decide) [1, 2, 3, 0] rfl dX7_fewestOf_100 ?_
      refine A_goto C (pc := 103) 9 (by decide) dX7_fewestOf_103 ?_
      exact hk9 _ _ hf
    · refine A_aload_n C (pc := 37) 0 rfl dX7_fewestOf_37 ?_
      refine A_g7_5 C (pc := 38) kf_X7_26 dX7_fewestOf_38 ?_
      refine A_iload_n C (pc := 41) 3 rfl dX7_fewestOf_41 ?_
      refine A_iload C (pc := 42) 4 rfl dX7_fewestOf_42 ?_
      refine A_isub C (pc := 44) dX7_fewestOf_44 ?_
      obtain ⟨c45, hf⟩ := chk_i hf
      refine A_iald C (pc := 45) (show IA 107 512 from ⟨rfl, rfl⟩) c45 dX7_fewestOf_45 ?_
      refine A_iconst C (pc := 46) ic_1 dX7_fewestOf_46 ?_
      refine A_iadd C (pc := 47) dX7_fewestOf_47 ?_
      obtain ⟨v48, e48, hf⟩ := bd_i hf
      refine A_nmI e48 ?_
      refine A_istore C (pc := 48) [(0, .ref (B + 47)), (1, .int x1), (2, .int x2), (3, .int x3), (4, .int x4), (5, .int v48)] (by decide) [1, 2, 3, 4, 5, 0] rfl dX7_fewestOf_48 ?_
      refine A_aload_n C (pc := 50) 0 rfl dX7_fewestOf_50 ?_
      refine A_g7_5 C (pc := 51) kf_X7_26 dX7_fewestOf_51 ?_
      refine A_iload_n C (pc := 54) 3 rfl dX7_fewestOf_54 ?_
      refine A_iload C (pc := 55) 5 rfl dX7_fewestOf_55 ?_
      refine A_aload_n C (pc := 57) 0 rfl dX7_fewestOf_57 ?_
      refine A_g7_5 C (pc := 58) kf_X7_26 dX7_fewestOf_58 ?_
      refine A_iload_n C (pc := 61) 3 rfl dX7_fewestOf_61 ?_
      obtain ⟨c62, hf⟩ := chk_i hf
      refine A_iald C (pc := 62) (show IA 107 512 from ⟨rfl, rfl⟩) c62 dX7_fewestOf_62 ?_
      refine A_icmp_ge C (pc := 63) 82 (by decide) dX7_fewestOf_63 hf (fun _ hf => ?_) (fun _ hf => ?_)
      · refine A_aload_n C (pc := 82) 0 rfl dX7_fewestOf_82 ?_
        refine A_g7_5 C (pc := 83) kf_X7_26 dX7_fewestOf_83 ?_
        refine A_iload_n C (pc := 86) 3 rfl dX7_fewestOf_86 ?_
        obtain ⟨c87, hf⟩ := chk_i hf
        refine A_iald C (pc := 87) (show IA 107 512 from ⟨rfl, rfl⟩) c87 dX7_fewestOf_87 ?_
        obtain ⟨c88, hf⟩ := chk_i hf
        obtain ⟨M88, e88, hf⟩ := bd_i hf
        refine A_iast C (pc := 88) (show IA 107 512 from ⟨rfl, rfl⟩) c88 dX7_fewestOf_88 ?_
        refine A_nmM e88 ?_
        refine A_iload C (pc := 89) 4 rfl dX7_fewestOf_89 ?_
        refine A_iconst C (pc := 91) ic_1 dX7_fewestOf_91 ?_
        refine A_isub C (pc := 92) dX7_fewestOf_92 ?_
        refine A_iload_n C (pc := 93) 3 rfl dX7_fewestOf_93 ?_
        refine A_iand C (pc := 94) dX7_fewestOf_94 ?_
        obtain ⟨v95, e95, hf⟩ := bd_i hf
        refine A_nmI e95 ?_
        refine A_istore C (pc := 95) [(0, .ref (B + 47)), (1, .int x1), (2, .int x2), (3, .int x3), (4, .int v95)] (by decide) [1, 2, 3, 4, 0] rfl dX7_fewestOf_95 ?_
        refine A_goto C (pc := 97) 32 (by decide) dX7_fewestOf_97 ?_
        exact hk32 _ _ hf
      · refine A_aload_n C (pc := 66) 0 rfl dX7_fewestOf_66 ?_
        refine A_iload_n C (pc := 67) 1 rfl dX7_fewestOf_67 ?_
        refine A_iload C (pc := 68) 4 rfl dX7_fewestOf_68 ?_
        refine A_iload_n C (pc := 70) 2 rfl dX7_fewestOf_70 ?_
        obtain ⟨z71, h71, hf⟩ := bd_i hf
        refine A_callV1 C (pc := 71) (A := [.int x1, .int x4, .int x2]) (rest := [.int x3, .ref (B + 107)]) k_X7_101 ky_X7_isAll kv_X7_isAll (m_X7_isAll l B D Y o  h71) (by decide) rfl rfl rfl rfl (Nat.le_of_ble_eq_true rfl) ⟨rfl, rfl, Nat.le_of_ble_eq_true rfl, Nat.le_of_ble_eq_true rfl⟩ ⟨Nat.zero_le _, Nat.zero_le _⟩ dX7_fewestOf_71 ?_
        refine A_if_eq C (pc := 74) 82 (by decide) dX7_fewestOf_74 hf (fun _ hf => ?_) (fun _ hf => ?_)
        · refine A_aload_n C (pc := 82) 0 rfl dX7_fewestOf_82 ?_
          refine A_g7_5 C (pc := 83) kf_X7_26 dX7_fewestOf_83 ?_
          refine A_iload_n C (pc := 86) 3 rfl dX7_fewestOf_86 ?_
          obtain ⟨c87, hf⟩ := chk_i hf
          refine A_iald C (pc := 87) (show IA 107 512 from ⟨rfl, rfl⟩) c87 dX7_fewestOf_87 ?_
          obtain ⟨c88, hf⟩ := chk_i hf
          obtain ⟨M88, e88, hf⟩ := bd_i hf
          refine A_iast C (pc := 88) (show IA 107 512 from ⟨rfl, rfl⟩) c88 dX7_fewestOf_88 ?_
          refine A_nmM e88 ?_
          refine A_iload C (pc := 89) 4 rfl dX7_fewestOf_89 ?_
          refine A_iconst C (pc := 91) ic_1 dX7_fewestOf_91 ?_
          refine A_isub C (pc := 92) dX7_fewestOf_92 ?_
          refine A_iload_n C (pc := 93) 3 rfl dX7_fewestOf_93 ?_
          refine A_iand C (pc := 94) dX7_fewestOf_94 ?_
          obtain ⟨v95, e95, hf⟩ := bd_i hf
          refine A_nmI e95 ?_
          refine A_istore C (pc := 95) [(0, .ref (B + 47)), (1, .int x1), (2, .int x2), (3, .int x3), (4, .int v95)] (by decide) [1, 2, 3, 4, 0] rfl dX7_fewestOf_95 ?_
          refine A_goto C (pc := 97) 32 (by decide) dX7_fewestOf_97 ?_
          exact hk32 _ _ hf
        · refine A_iload C (pc := 77) 5 rfl dX7_fewestOf_77 ?_
          refine A_goto C (pc := 79) 88 (by decide) dX7_fewestOf_79 ?_
          obtain ⟨c88, hf⟩ := chk_i hf
          obtain ⟨M88, e88, hf⟩ := bd_i hf
          refine A_iast C (pc := 88) (show IA 107 512 from ⟨rfl, rfl⟩) c88 dX7_fewestOf_88 ?_
          refine A_nmM e88 ?_
          refine A_iload C (pc := 89) 4 rfl dX7_fewestOf_89 ?_
          refine A_iconst C (pc := 91) ic_1 dX7_fewestOf_91 ?_
          refine A_isub C (pc := 92) dX7_fewestOf_92 ?_
          refine A_iload_n C (pc := 93) 3 rfl dX7_fewestOf_93 ?_
          refine A_iand C (pc := 94) dX7_fewestOf_94 ?_
          obtain ⟨v95, e95, hf⟩ := bd_i hf
          refine A_nmI e95 ?_
          refine A_istore C (pc := 95) [(0, .ref (B + 47)), (1, .int x1), (2, .int x2), (3, .int x3), (4, .int v95)] (by decide) [1, 2, 3, 4, 0] rfl dX7_fewestOf_95 ?_
          refine A_goto C (pc := 97) 32 (by decide) dX7_fewestOf_97 ?_
          exact hk32 _ _ hf
set_option maxRecDepth 100000 in
theorem w_X7_fewestOf_L9 {x1 : Int32} {x2 : Int32} {r : Int32 × Mem} (C : Cx p s m args c cX7_fewestOf 6 RX7 B D Y) (hr : meth.sig.returnType = (some .int)) (hk : meth.locks = false)  : ∀ (n : Nat) (x3 : Int32) (M : Mem), f_X7_fewestOf_L9 x1 x2 n (x3, M) = some r → At p l e rm_X7_fewestOf s m args below meth c 6 0 0 (QQ below args s B D Y r.2 o (some (.int r.1))) B D Y o 9 M [(0, .ref (B + 47)), (1, .int x1), (2, .int x2), (3, .int x3)] [] := by
  intro n
  induction n with
  | zero => intro x3 M hf; exact nomatch (show (none : Option (Int32 × Mem)) = some r from hf)
  | succ n hk9 =>
    intro x3 M hf
    replace hf : g_X7_fewestOf_L9 x1 x2 (f_X7_fewestOf_L9 x1 x2 n) (x3, M) = some r := hf
    dsimp only [g_X7_fewestOf_L9] at hf
    refine A_iload_n C (pc := 9) 3 rfl dX7_fewestOf_9 ?_
    refine A_iconst C (pc := 10) ic_1 dX7_fewestOf_10 ?_
    refine A_aload_n C (pc := 11) 0 rfl dX7_fewestOf_11 ?_
    refine A_g7_0 C (pc := 12) kf_X7_9 dX7_fewestOf_12 ?_
    refine A_iload_n C (pc := 15) 1 rfl dX7_fewestOf_15 ?_
    obtain ⟨c16, hf⟩ := chk_i hf
    refine A_iald C (pc := 16) (show IA 48 5 from ⟨rfl, rfl⟩) c16 dX7_fewestOf_16 ?_
    refine A_ishl C (pc := 17) dX7_fewestOf_17 ?_
    refine A_icmp_ge C (pc := 18) 106 (by decide) dX7_fewestOf_18 hf (fun _ hf => ?_) (fun _ hf => ?_)
    · refine A_aload_n C (pc := 106) 0 rfl dX7_fewestOf_106 ?_
      refine A_g7_5 C (pc := 107) kf_X7_26 dX7_fewestOf_107 ?_
      refine A_iconst C (pc := 110) ic_1 dX7_fewestOf_110 ?_
      refine A_aload_n C (pc := 111) 0 rfl dX7_fewestOf_111 ?_
      refine A_g7_0 C (pc := 112) kf_X7_9 dX7_fewestOf_112 ?_
      refine A_iload_n C (pc := 115) 1 rfl dX7_fewestOf_115 ?_
      obtain ⟨c116, hf⟩ := chk_i hf
      refine A_iald C (pc := 116) (show IA 48 5 from ⟨rfl, rfl⟩) c116 dX7_fewestOf_116 ?_
      refine A_ishl C (pc := 117) dX7_fewestOf_117 ?_
      refine A_iconst C (pc := 118) ic_1 dX7_fewestOf_118 ?_
      refine A_isub C (pc := 119) dX7_fewestOf_119 ?_
      obtain ⟨c120, hf⟩ := chk_i hf
      refine A_iald C (pc := 120) (show IA 107 512 from ⟨rfl, rfl⟩) c120 dX7_fewestOf_120 ?_
      exact R_iM C (pc := 121) hr hk rfl dX7_fewestOf_121 hf
    · refine A_aload_n C (pc := 21) 0 rfl dX7_fewestOf_21 ?_
      refine A_g7_5 C (pc := 22) kf_X7_26 dX7_fewestOf_22 ?_
      refine A_iload_n C (pc := 25) 3 rfl dX7_fewestOf_25 ?_
      refine A_bipush C (pc := 26) bc_9 dX7_fewestOf_26 ?_
      obtain ⟨c28, hf⟩ := chk_i hf
      obtain ⟨M28, e28, hf⟩ := bd_i hf
      refine A_iast C (pc := 28) (show IA 107 512 from ⟨rfl, rfl⟩) c28 dX7_fewestOf_28 ?_
      refine A_nmM e28 ?_
      refine A_iload_n C (pc := 29) 3 rfl dX7_fewestOf_29 ?_
      refine A_istore C (pc := 30) [(0, .ref (B + 47)), (1, .int x1), (2, .int x2), (3, .int x3), (4, .int x3)] (by decide) [1, 2, 3, 4, 0] rfl dX7_fewestOf_30 ?_
      exact w_X7_fewestOf_L32 C hr hk hk9 FU _ _  hf
set_option maxRecDepth 100000 in
theorem m_X7_fewestOf (l : Launch) (B : Nat) (D : va_G) (Y : Nat → ClassId) (o : Ou) {M : Mem} {x1 : Int32} {x2 : Int32} {r : Int32 × Mem}  (hf : f_X7_fewestOf M x1 x2 = some r) : MW l yX7_fewestOf cX7_fewestOf 6 (some .int) rm_X7_fewestOf B D Y o [.ref (B + 47), .int x1, .int x2] M r.2 (some (.int r.1)) := by
  refine ofAt (L0 := [(0, .ref (B + 47)), (1, .int x1), (2, .int x2)]) (by decide +kernel) (Nat.le_of_ble_eq_true rfl) rfl (fun p e s m args below meth c C hr hk => ?_)
  dsimp only [f_X7_fewestOf] at hf
  refine A_aload_n C (pc := 0) 0 rfl dX7_fewestOf_0 ?_
  refine A_g7_5 C (pc := 1) kf_X7_26 dX7_fewestOf_1 ?_
  refine A_iconst C (pc := 4) ic_0 dX7_fewestOf_4 ?_
  refine A_iconst C (pc := 5) ic_0 dX7_fewestOf_5 ?_
  obtain ⟨c6, hf⟩ := chk_i hf
  obtain ⟨M6, e6, hf⟩ := bd_i hf
  refine A_iast C (pc := 6) (show IA 107 512 from ⟨rfl, rfl⟩) c6 dX7_fewestOf_6 ?_
  refine A_nmM e6 ?_
  refine A_iconst C (pc := 7) ic_1 dX7_fewestOf_7 ?_
  refine A_istore_n C (pc := 8) [(0, .ref (B + 47)), (1, .int x1), (2, .int x2), (3, .int 1)] rfl (by decide) [1, 2, 3, 0] rfl dX7_fewestOf_8 ?_
  exact w_X7_fewestOf_L9 C hr hk FU _ _  hf
set_option maxRecDepth 100000 in
theorem m_X7_fewestChains (l : Launch) (B : Nat) (D : va_G) (Y : Nat → ClassId) (o : Ou) {M : Mem} {x1 : Int32} {r : Int32 × Mem}  (hf : f_X7_fewestChains M x1 = some r) : MW l yX7_fewestChains cX7_fewestChains 2 (some .int) rm_X7_fewestChains B D Y o [.ref (B + 47), .int x1] M r.2 (some (.int r.1)) := by
  refine ofAt (L0 := [(0, .ref (B + 47)), (1, .int x1)]) (by decide +kernel) (Nat.le_of_ble_eq_true rfl) rfl (fun p e s m args below meth c C hr hk => ?_)
  dsimp only [f_X7_fewestChains] at hf
  refine A_aload_n C (pc := 0) 0 rfl dX7_fewestChains_0 ?_
  refine A_iload_n C (pc := 1) 1 rfl dX7_fewestChains_1 ?_
  obtain ⟨z2, h2, hf⟩ := bd_i hf
  refine A_callS1 C (pc := 2) (A := [.int x1]) (rest := [.ref (B + 47)]) k_X7_43 ky_X7_isOrder ks_X7_isOrder (m_X7_isOrder l B D Y o  h2) rfl rfl (Nat.le_of_ble_eq_true rfl) ⟨rfl, rfl, Nat.le_of_ble_eq_true rfl, Nat.le_of_ble_eq_true rfl⟩ ⟨Nat.zero_le _, Nat.zero_le _⟩ dX7_fewestChains_2 ?_
  refine A_iconst C (pc := 5) ic_1 dX7_fewestChains_5 ?_
  obtain ⟨z6, h6, hf⟩ := bd_i hf
  refine A_callV1 C (pc := 6) (A := [.int z2, .int 1]) (rest := []) k_X7_51 ky_X7_lets kv_X7_lets (m_X7_lets l B D Y o  h6) (by decide) rfl rfl rfl rfl (Nat.le_of_ble_eq_true rfl) ⟨rfl, rfl, Nat.le_of_ble_eq_true rfl, Nat.le_of_ble_eq_true rfl⟩ ⟨Nat.zero_le _, Nat.zero_le _⟩ dX7_fewestChains_6 ?_
  refine A_if_eq C (pc := 9) 21 (by decide) dX7_fewestChains_9 hf (fun _ hf => ?_) (fun _ hf => ?_)
  · refine A_iconst C (pc := 21) ic_0 dX7_fewestChains_21 ?_
    exact R_iM C (pc := 22) hr hk rfl dX7_fewestChains_22 hf
  · refine A_aload_n C (pc := 12) 0 rfl dX7_fewestChains_12 ?_
    refine A_iload_n C (pc := 13) 1 rfl dX7_fewestChains_13 ?_
    refine A_iconst C (pc := 14) ic_1 dX7_fewestChains_14 ?_
    obtain ⟨z15, h15, hf⟩ := bd_i hf
    refine A_callV1 C (pc := 15) (A := [.int x1, .int 1]) (rest := []) k_X7_115 ky_X7_fewestOf kv_X7_fewestOf (m_X7_fewestOf l B D Y o  h15) (by decide) rfl rfl rfl rfl (Nat.le_of_ble_eq_true rfl) ⟨rfl, rfl, Nat.le_of_ble_eq_true rfl, Nat.le_of_ble_eq_true rfl⟩ ⟨Nat.zero_le _, Nat.zero_le _⟩ dX7_fewestChains_15 ?_
    refine A_goto C (pc := 18) 22 (by decide) dX7_fewestChains_18 ?_
    exact R_iM C (pc := 22) hr hk rfl dX7_fewestChains_22 hf
set_option maxRecDepth 100000 in
theorem m_X7_fewestAparts (l : Launch) (B : Nat) (D : va_G) (Y : Nat → ClassId) (o : Ou) {M : Mem} {x1 : Int32} {r : Int32 × Mem}  (hf : f_X7_fewestAparts M x1 = some r) : MW l yX7_fewestAparts cX7_fewestAparts 2 (some .int) rm_X7_fewestAparts B D Y o [.ref (B + 47), .int x1] M r.2 (some (.int r.1)) := by
  refine ofAt (L0 := [(0, .ref (B + 47)), (1, .int x1)]) (by decide +kernel) (Nat.le_of_ble_eq_true rfl) rfl (fun p e s m args below meth c C hr hk => ?_)
  dsimp only [f_X7_fewestAparts] at hf
  refine A_aload_n C (pc := 0) 0 rfl dX7_fewestAparts_0 ?_
  refine A_iload_n C (pc := 1) 1 rfl dX7_fewestAparts_1 ?_
  obtain ⟨z2, h2, hf⟩ := bd_i hf
  refine A_callS1 C (pc := 2) (A := [.int x1]) (rest := [.ref (B + 47)]) k_X7_43 ky_X7_isOrder ks_X7_isOrder (m_X7_isOrder l B D Y o  h2) rfl rfl (Nat.le_of_ble_eq_true rfl) ⟨rfl, rfl, Nat.le_of_ble_eq_true rfl, Nat.le_of_ble_eq_true rfl⟩ ⟨Nat.zero_le _, Nat.zero_le _⟩ dX7_fewestAparts_2 ?_
  refine A_iconst C (pc := 5) ic_1 dX7_fewestAparts_5 ?_
  obtain ⟨z6, h6, hf⟩ := bd_i hf
  refine A_callV1 C (pc := 6) (A := [.int z2, .int 1]) (rest := []) k_X7_51 ky_X7_lets kv_X7_lets (m_X7_lets l B D Y o  h6) (by decide) rfl rfl rfl rfl (Nat.le_of_ble_eq_true rfl) ⟨rfl, rfl, Nat.le_of_ble_eq_true rfl, Nat.le_of_ble_eq_true rfl⟩ ⟨Nat.zero_le _, Nat.zero_le _⟩ dX7_fewestAparts_6 ?_
  refine A_if_eq C (pc := 9) 21 (by decide) dX7_fewestAparts_9 hf (fun _ hf => ?_) (fun _ hf => ?_)
  · refine A_iconst C (pc := 21) ic_0 dX7_fewestAparts_21 ?_
    exact R_iM C (pc := 22) hr hk rfl dX7_fewestAparts_22 hf
  · refine A_aload_n C (pc := 12) 0 rfl dX7_fewestAparts_12 ?_
    refine A_iload_n C (pc := 13) 1 rfl dX7_fewestAparts_13 ?_
    refine A_iconst C (pc := 14) ic_0 dX7_fewestAparts_14 ?_
    obtain ⟨z15, h15, hf⟩ := bd_i hf
    refine A_callV1 C (pc := 15) (A := [.int x1, .int 0]) (rest := []) k_X7_115 ky_X7_fewestOf kv_X7_fewestOf (m_X7_fewestOf l B D Y o  h15) (by decide) rfl rfl rfl rfl (Nat.le_of_ble_eq_true rfl) ⟨rfl, rfl, Nat.le_of_ble_eq_true rfl, Nat.le_of_ble_eq_true rfl⟩ ⟨Nat.zero_le _, Nat.zero_le _⟩ dX7_fewestAparts_15 ?_
    refine A_goto C (pc := 18) 22 (by decide) dX7_fewestAparts_18 ?_
    exact R_iM C (pc := 22) hr hk rfl dX7_fewestAparts_22 hf
set_option maxRecDepth 100000 in
theorem w_X7_aparts_L18 {M : Mem} {x1 : Int32} {r : Int32 × Mem} (C : Cx p s m args c cX7_aparts 4 RX7 B D Y) (hr : meth.sig.returnType = (some .int)) (hk : meth.locks = false)  : ∀ (n : Nat) (x2 : Int32) (x3 : Int32), f_X7_aparts_L18 M x1 n (x2, x3) = some r → At p l e rm_X7_aparts s m args below meth c 4 0 0 (QQ below args s B D Y r.2 o (some (.int r.1))) B D Y o 18 M [(0, .ref (B + 47)), (1, .int x1), (2, .int x2), (3, .int x3)] [] := by
  intro n
  induction n with
  | zero => intro x2 x3 hf; exact nomatch (show (none : Option (Int32 × Mem)) = some r from hf)
  | succ n hk18 =>
    intro x2 x3 hf
    replace hf : g_X7_aparts_L18 M x1 (f_X7_aparts_L18 M x1 n) (x2, x3) = some r := hf
    dsimp only [g_X7_aparts_L18] at hf
    refine A_iload_n C (pc := 18) 3 rfl dX7_aparts_18 ?_
    refine A_iconst C (pc := 19) ic_1 dX7_aparts_19 ?_
    refine A_aload_n C (pc := 20) 0 rfl dX7_aparts_20 ?_
    refine A_g7_0 C (pc := 21) kf_X7_9 dX7_aparts_21 ?_
    refine A_iload_n C (pc := 24) 1 rfl dX7_aparts_24 ?_
    obtain ⟨c25, hf⟩ := chk_i hf
    refine A_iald C (pc := 25) (show IA 48 5 from ⟨rfl, rfl⟩) c25 dX7_aparts_25 ?_
    refine A_ishl C (pc := 26) dX7_aparts_26 ?_
    refine A_icmp_ge C (pc := 27) 54 (by decide) dX7_aparts_27 hf (fun _ hf => ?_) (fun _ hf => ?_)
    · refine A_iload_n C (pc := 54) 2 rfl dX7_aparts_54 ?_
      exact R_iM C (pc := 55) hr hk rfl dX7_aparts_55 hf
    · refine A_iload_n C (pc := 30) 2 rfl dX7_aparts_30 ?_
      refine A_aload_n C (pc := 31) 0 rfl dX7_aparts_31 ?_
      refine A_iload_n C (pc := 32) 1 rfl dX7_aparts_32 ?_
      refine A_iload_n C (pc := 33) 3 rfl dX7_aparts_33 ?_
      refine A_iconst C (pc := 34) ic_0 dX7_aparts_34 ?_
      obtain ⟨z35, h35, hf⟩ := bd_i hf
      refine A_callV1 C (pc := 35) (A := [.int x1, .int x3, .int 0]) (rest := [.int x2]) k_X7_101 ky_X7_isAll kv_X7_isAll (m_X7_isAll l B D Y o  h35) (by decide) rfl rfl rfl rfl (Nat.le_of_ble_eq_true rfl) ⟨rfl, rfl, Nat.le_of_ble_eq_true rfl, Nat.le_of_ble_eq_true rfl⟩ ⟨Nat.zero_le _, Nat.zero_le _⟩ dX7_aparts_35 ?_
      refine A_if_eq C (pc := 38) 45 (by decide) dX7_aparts_38 hf (fun _ hf => ?_) (fun _ hf => ?_)
      · refine A_iconst C (pc := 45) ic_0 dX7_aparts_45 ?_
        refine A_iadd C (pc := 46) dX7_aparts_46 ?_
        obtain ⟨v47, e47, hf⟩ := bd_i hf
        refine A_nmI e47 ?_
        refine A_istore_n C (pc := 47) [(0, .ref (B + 47)), (1, .int x1), (2, .int v47), (3, .int x3)] rfl (by decide) [1, 2, 0, 3] rfl dX7_aparts_47 ?_
        refine A_iinc C (pc := 48) (k0 := 3) [(0, .ref (B + 47)), (1, .int x1), (2, .int v47), (3, .int (x3 + 1))] rfl ic_1 (by decide) [1, 2, 3, 0] rfl dX7_aparts_48 ?_
        refine A_goto C (pc := 51) 18 (by decide) dX7_aparts_51 ?_
        exact hk18 _ _ hf
      · refine A_iconst C (pc := 41) ic_1 dX7_aparts_41 ?_
        refine A_goto C (pc := 42) 46 (by decide) dX7_aparts_42 ?_
        refine A_iadd C (pc := 46) dX7_aparts_46 ?_
        obtain ⟨v47, e47, hf⟩ := bd_i hf
        refine A_nmI e47 ?_
        refine A_istore_n C (pc := 47) [(0, .ref (B + 47)), (1, .int x1), (2, .int v47), (3, .int x3)] rfl (by decide) [1, 2, 0, 3] rfl dX7_aparts_47 ?_
        refine A_iinc C (pc := 48) (k0 := 3) [(0, .ref (B + 47)), (1, .int x1), (2, .int v47), (3, .int (x3 + 1))] rfl ic_1 (by decide) [1, 2, 3, 0] rfl dX7_aparts_48 ?_
        refine A_goto C (pc := 51) 18 (by decide) dX7_aparts_51 ?_
        exact hk18 _ _ hf
set_option maxRecDepth 100000 in
theorem m_X7_aparts (l : Launch) (B : Nat) (D : va_G) (Y : Nat → ClassId) (o : Ou) {M : Mem} {x1 : Int32} {r : Int32 × Mem}  (hf : f_X7_aparts M x1 = some r) : MW l yX7_aparts cX7_aparts 4 (some .int) rm_X7_aparts B D Y o [.ref (B + 47), .int x1] M r.2 (some (.int r.1)) := by
  refine ofAt (L0 := [(0, .ref (B + 47)), (1, .int x1)]) (by decide +kernel) (Nat.le_of_ble_eq_true rfl) rfl (fun p e s m args below meth c C hr hk => ?_)
  dsimp only [f_X7_aparts] at hf
  refine A_aload_n C (pc := 0) 0 rfl dX7_aparts_0 ?_
  refine A_iload_n C (pc := 1) 1 rfl dX7_aparts_1 ?_
  obtain ⟨z2, h2, hf⟩ := bd_i hf
  refine A_callS1 C (pc := 2) (A := [.int x1]) (rest := [.ref (B + 47)]) k_X7_43 ky_X7_isOrder ks_X7_isOrder (m_X7_isOrder l B D Y o  h2) rfl rfl (Nat.le_of_ble_eq_true rfl) ⟨rfl, rfl, Nat.le_of_ble_eq_true rfl, Nat.le_of_ble_eq_true rfl⟩ ⟨Nat.zero_le _, Nat.zero_le _⟩ dX7_aparts_2 ?_
  refine A_iconst C (pc := 5) ic_1 dX7_aparts_5 ?_
  obtain ⟨z6, h6, hf⟩ := bd_i hf
  refine A_callV1 C (pc := 6) (A := [.int z2, .int 1]) (rest := []) k_X7_51 ky_X7_lets kv_X7_lets (m_X7_lets l B D Y o  h6) (by decide) rfl rfl rfl rfl (Nat.le_of_ble_eq_true rfl) ⟨rfl, rfl, Nat.le_of_ble_eq_true rfl, Nat.le_of_ble_eq_true rfl⟩ ⟨Nat.zero_le _, Nat.zero_le _⟩ dX7_aparts_6 ?_
  refine A_if_ne C (pc := 9) 14 (by decide) dX7_aparts_9 hf (fun _ hf => ?_) (fun _ hf => ?_)
  · refine A_iconst C (pc := 14) ic_0 dX7_aparts_14 ?_
    refine A_istore_n C (pc := 15) [(0, .ref (B + 47)), (1, .int x1), (2, .int 0)] rfl (by decide) [1, 2, 0] rfl dX7_aparts_15 ?_
    refine A_iconst C (pc := 16) ic_0 dX7_aparts_16 ?_
    refine A_istore_n C (pc := 17) [(0, .ref (B + 47)), (1, .int x1), (2, .int 0), (3, .int 0)] rfl (by decide) [1, 2, 3, 0] rfl dX7_aparts_17 ?_
    exact w_X7_aparts_L18 C hr hk FU _ _  hf
  · refine A_iconst C (pc := 12) ic_0 dX7_aparts_12 ?_
    exact R_iM C (pc := 13) hr hk rfl dX7_aparts_13 hf
set_option maxRecDepth 100000 in
theorem w_X7_closure_L5 {M : Mem} {x1 : Int32} {x2 : Int32} {r : Int32} (C : Cx p s m args c cX7_closure 5 RX7 B D Y) (hr : meth.sig.returnType = (some .int)) (hk : meth.locks = false)  : ∀ (n : Nat) (x3 : Int32) (x4 : Int32), f_X7_closure_L5 M x1 x2 n (x3, x4) = some r → At p l e rm_X7_closure s m args below meth c 5 0 0 (QQ below args s B D Y M o (some (.int r))) B D Y o 5 M [(0, .ref (B + 47)), (1, .int x1), (2, .int x2), (3, .int x3), (4, .int x4)] [] := by
  intro n
  induction n with
  | zero => intro x3 x4 hf; exact nomatch (show (none : Option Int32) = some r from hf)
  | succ n hk5 =>
    intro x3 x4 hf
    replace hf : g_X7_closure_L5 M x1 x2 (f_X7_closure_L5 M x1 x2 n) (x3, x4) = some r := hf
    dsimp only [g_X7_closure_L5] at hf
    refine A_iload C (pc := 5) 4 rfl dX7_closure_5 ?_
    refine A_aload_n C (pc := 7) 0 rfl dX7_closure_7 ?_
    refine A_g7_0 C (pc := 8) kf_X7_9 dX7_closure_8 ?_
    refine A_iload_n C (pc := 11) 1 rfl dX7_closure_11 ?_
    obtain ⟨c12, hf⟩ := chk_i hf
    refine A_iald C (pc := 12) (show IA 48 5 from ⟨rfl, rfl⟩) c12 dX7_closure_12 ?_
    refine A_icmp_ge C (pc := 13) 45 (by decide) dX7_closure_13 hf (fun _ hf => ?_) (fun _ hf => ?_)
    · refine A_iload_n C (pc := 45) 3 rfl dX7_closure_45 ?_
      exact R_iP C (pc := 46) hr hk rfl dX7_closure_46 hf
    · refine A_iload_n C (pc := 16) 3 rfl dX7_closure_16 ?_
      refine A_iload_n C (pc := 17) 2 rfl dX7_closure_17 ?_
      refine A_iload C (pc := 18) 4 rfl dX7_closure_18 ?_
      obtain ⟨z20, h20, hf⟩ := bd_i hf
      refine A_callS1 C (pc := 20) (A := [.int x2, .int x4]) (rest := [.int x3]) k_X7_47 ky_X7_has ks_X7_has (m_X7_has l B D Y o  h20) rfl rfl (Nat.le_of_ble_eq_true rfl) ⟨rfl, rfl, Nat.le_of_ble_eq_true rfl, Nat.le_of_ble_eq_true rfl⟩ ⟨Nat.zero_le _, Nat.zero_le _⟩ dX7_closure_20 ?_
      refine A_if_eq C (pc := 23) 36 (by decide) dX7_closure_23 hf (fun _ hf => ?_) (fun _ hf => ?_)
      · refine A_iconst C (pc := 36) ic_0 dX7_closure_36 ?_
        refine A_ior C (pc := 37) dX7_closure_37 ?_
        obtain ⟨v38, e38, hf⟩ := bd_i hf
        refine A_nmI e38 ?_
        refine A_istore_n C (pc := 38) [(0, .ref (B + 47)), (1, .int x1), (2, .int x2), (3, .int v38), (4, .int x4)] rfl (by decide) [1, 2, 3, 0, 4] rfl dX7_closure_38 ?_
        refine A_iinc C (pc := 39) (k0 := 4) [(0, .ref (B + 47)), (1, .int x1), (2, .int x2), (3, .int v38), (4, .int (x4 + 1))] rfl ic_1 (by decide) [1, 2, 3, 4, 0] rfl dX7_closure_39 ?_
        refine A_goto C (pc := 42) 5 (by decide) dX7_closure_42 ?_
        exact hk5 _ _ hf
      · refine A_aload_n C (pc := 26) 0 rfl dX7_closure_26 ?_
        refine A_iload_n C (pc := 27) 1 rfl dX7_closure_27 ?_
        refine A_iload C (pc := 28) 4 rfl dX7_closure_28 ?_
        obtain ⟨z30, h30, hf⟩ := bd_i hf
        refine A_callV1 C (pc := 30) (A := [.int x1, .int x4]) (rest := [.int x3]) k_X7_95 ky_X7_lowerOf kv_X7_lowerOf (m_X7_lowerOf l B D Y o  h30) (by decide) rfl rfl rfl rfl (Nat.le_of_ble_eq_true rfl) ⟨rfl, rfl, Nat.le_of_ble_eq_true rfl, Nat.le_of_ble_eq_true rfl⟩ ⟨Nat.zero_le _, Nat.zero_le _⟩ dX7_closure_30 ?_
        refine A_goto C (pc := 33) 37 (by decide) dX7_closure_33 ?_
        refine A_ior C (pc := 37) dX7_closure_37 ?_
        obtain ⟨v38, e38, hf⟩ := bd_i hf
        refine A_nmI e38 ?_
        refine A_istore_n C (pc := 38) [(0, .ref (B + 47)), (1, .int x1), (2, .int x2), (3, .int v38), (4, .int x4)] rfl (by decide) [1, 2, 3, 0, 4] rfl dX7_closure_38 ?_
        refine A_iinc C (pc := 39) (k0 := 4) [(0, .ref (B + 47)), (1, .int x1), (2, .int x2), (3, .int v38), (4, .int (x4 + 1))] rfl ic_1 (by decide) [1, 2, 3, 4, 0] rfl dX7_closure_39 ?_
        refine A_goto C (pc := 42) 5 (by decide) dX7_closure_42 ?_
        exact hk5 _ _ hf
set_option maxRecDepth 100000 in
theorem m_X7_closure (l : Launch) (B : Nat) (D : va_G) (Y : Nat → ClassId) (o : Ou) {M : Mem} {x1 : Int32} {x2 : Int32} {r : Int32}  (hf : f_X7_closure M x1 x2 = some r) : MW l yX7_closure cX7_closure 5 (some .int) rm_X7_closure B D Y o [.ref (B + 47), .int x1, .int x2] M M (some (.int r)) := by
  refine ofAt (L0 := [(0, .ref (B + 47)), (1, .int x1), (2, .int x2)]) (by decide +kernel) (Nat.le_of_ble_eq_true rfl) rfl (fun p e s m args below meth c C hr hk => ?_)
  dsimp only [f_X7_closure] at hf
  refine A_iload_n C (pc := 0) 2 rfl dX7_closure_0 ?_
  refine A_istore_n C (pc := 1) [(0, .ref (B + 47)), (1, .int x1), (2, .int x2), (3, .int x2)] rfl (by decide) [1, 2, 3, 0] rfl dX7_closure_1 ?_
  refine A_iconst C (pc := 2) ic_0 dX7_closure_2 ?_
  refine A_istore C (pc := 3) [(0, .ref (B + 47)), (1, .int x1), (2, .int x2), (3, .int x2), (4, .int 0)] (by decide) [1, 2, 3, 4, 0] rfl dX7_closure_3 ?_
  exact w_X7_closure_L5 C hr hk FU _ _  hf
set_option maxRecDepth 100000 in
theorem m_X7_isClosed (l : Launch) (B : Nat) (D : va_G) (Y : Nat → ClassId) (o : Ou) {M : Mem} {x1 : Int32} {x2 : Int32} {r : Int32}  (hf : f_X7_isClosed M x1 x2 = some r) : MW l yX7_isClosed cX7_isClosed 3 (some .boolean) rm_X7_isClosed B D Y o [.ref (B + 47), .int x1, .int x2] M M (some (.int r)) := by
  refine ofAt (L0 := [(0, .ref (B + 47)), (1, .int x1), (2, .int x2)]) (by decide +kernel) (Nat.le_of_ble_eq_true rfl) rfl (fun p e s m args below meth c C hr hk => ?_)
  dsimp only [f_X7_isClosed] at hf
  refine A_aload_n C (pc := 0) 0 rfl dX7_isClosed_0 ?_
  refine A_iload_n C (pc := 1) 1 rfl dX7_isClosed_1 ?_
  refine A_iload_n C (pc := 2) 2 rfl dX7_isClosed_2 ?_
  obtain ⟨z3, h3, hf⟩ := bd_i hf
  refine A_callV1 C (pc := 3) (A := [.int x1, .int x2]) (rest := []) k_X7_118 ky_X7_closure kv_X7_closure (m_X7_closure l B D Y o  h3) (by decide) rfl rfl rfl rfl (Nat.le_of_ble_eq_true rfl) ⟨rfl, rfl, Nat.le_of_ble_eq_true rfl, Nat.le_of_ble_eq_true rfl⟩ ⟨Nat.zero_le _, Nat.zero_le _⟩ dX7_isClosed_3 ?_
  refine A_iload_n C (pc := 6) 2 rfl dX7_isClosed_6 ?_
  refine A_icmp_ne C (pc := 7) 14 (by decide) dX7_isClosed_7 hf (fun _ hf => ?_) (fun _ hf => ?_)
  · refine A_iconst C (pc := 14) ic_0 dX7_isClosed_14 ?_
    exact R_iP C (pc := 15) hr hk nz_0 dX7_isClosed_15 hf
  · refine A_iconst C (pc := 10) ic_1 dX7_isClosed_10 ?_
    refine A_goto C (pc := 11) 15 (by decide) dX7_isClosed_11 ?_
    exact R_iP C (pc := 15) hr hk nz_1 dX7_isClosed_15 hf
set_option maxRecDepth 100000 in
theorem m_X7_isAhead (l : Launch) (B : Nat) (D : va_G) (Y : Nat → ClassId) (o : Ou) {M0 : Mem} {x0 : Int32} {x1 : Int32} {r : Int32}  (hf : f_X7_isAhead x0 x1 = some r) : MW l yX7_isAhead cX7_isAhead 4 (some .boolean) rm_X7_isAhead B D Y o [.int x0, .int x1] M0 M0 (some (.int r)) := by
  refine ofAt (L0 := [(0, .int x0), (1, .int x1)]) (by decide +kernel) (Nat.le_of_ble_eq_true rfl) rfl (fun p e s m args below meth c C hr hk => ?_)
  dsimp only [f_X7_isAhead] at hf
  refine A_iload_n C (pc := 0) 0 rfl dX7_isAhead_0 ?_
  obtain ⟨z1, h1, hf⟩ := bd_i hf
  refine A_callS1 C (pc := 1) (A := [.int x0]) (rest := []) k_X7_108 ky_X7_manyIn ks_X7_manyIn (m_X7_manyIn l B D Y o  h1) rfl rfl (Nat.le_of_ble_eq_true rfl) ⟨rfl, rfl, Nat.le_of_ble_eq_true rfl, Nat.le_of_ble_eq_true rfl⟩ ⟨Nat.zero_le _, Nat.zero_le _⟩ dX7_isAhead_1 ?_
  refine A_istore_n C (pc := 4) [(0, .int x0), (1, .int x1), (2, .int z1)] rfl (by decide) [1, 2, 0] rfl dX7_isAhead_4 ?_
  refine A_iload_n C (pc := 5) 1 rfl dX7_isAhead_5 ?_
  obtain ⟨z6, h6, hf⟩ := bd_i hf
  refine A_callS1 C (pc := 6) (A := [.int x1]) (rest := []) k_X7_108 ky_X7_manyIn ks_X7_manyIn (m_X7_manyIn l B D Y o  h6) rfl rfl (Nat.le_of_ble_eq_true rfl) ⟨rfl, rfl, Nat.le_of_ble_eq_true rfl, Nat.le_of_ble_eq_true rfl⟩ ⟨Nat.zero_le _, Nat.zero_le _⟩ dX7_isAhead_6 ?_
  refine A_istore_n C (pc := 9) [(0, .int x0), (1, .int x1), (2, .int z1), (3, .int z6)] rfl (by decide) [1, 2, 3, 0] rfl dX7_isAhead_9 ?_
  refine A_iload_n C (pc := 10) 2 rfl dX7_isAhead_10 ?_
  refine A_iload_n C (pc := 11) 3 rfl dX7_isAhead_11 ?_
  refine A_icmp_lt C (pc := 12) 25 (by decide) dX7_isAhead_12 hf (fun _ hf => ?_) (fun _ hf => ?_)
  · refine A_iconst C (pc := 25) ic_1 dX7_isAhead_25 ?_
    refine A_goto C (pc := 26) 30 (by decide) dX7_isAhead_26 ?_
    exact R_iP C (pc := 30) hr hk nz_1 dX7_isAhead_30 hf
  · refine A_iload_n C (pc := 15) 2 rfl dX7_isAhead_15 ?_
    refine A_iload_n C (pc := 16) 3 rfl dX7_isAhead_16 ?_
    refine A_icmp_ne C (pc := 17) 29 (by decide) dX7_isAhead_17 hf (fun _ hf => ?_) (fun _ hf => ?_)
    · refine A_iconst C (pc := 29) ic_0 dX7_isAhead_29 ?_
      exact R_iP C (pc := 30) hr hk nz_0 dX7_isAhead_30 hf
    · refine A_iload_n C (pc := 20) 0 rfl dX7_isAhead_20 ?_
      refine A_iload_n C (pc := 21) 1 rfl dX7_isAhead_21 ?_
      refine A_icmp_ge C (pc := 22) 29 (by decide) dX7_isAhead_22 hf (fun _ hf => ?_) (fun _ hf => ?_)
      · refine A_iconst C (pc := 29) ic_0 dX7_isAhead_29 ?_
        exact R_iP C (pc := 30) hr hk nz_0 dX7_isAhead_30 hf
      · refine A_iconst C (pc := 25) ic_1 dX7_isAhead_25 ?_
        refine A_goto C (pc := 26) 30 (by decide) dX7_isAhead_26 ?_
        exact R_iP C (pc := 30) hr hk nz_1 dX7_isAhead_30 hf
set_option maxRecDepth 100000 in
theorem w_X7_placeIn_L5 {M : Mem} {x1 : Int32} {x2 : Int32} {r : Int32} (C : Cx p s m args c cX7_placeIn 5 RX7 B D Y) (hr : meth.sig.returnType = (some .int)) (hk : meth.locks = false)  : ∀ (n : Nat) (x3 : Int32) (x4 : Int32), f_X7_placeIn_L5 M x1 x2 n (x3, x4) = some r → At p l e rm_X7_placeIn s m args below meth c 5 0 0 (QQ below args s B D Y M o (some (.int r))) B D Y o 5 M [(0, .ref (B + 47)), (1, .int x1), (2, .int x2), (3, .int x3), (4, .int x4)] [] := by
  intro n
  induction n with
  | zero => intro x3 x4 hf; exact nomatch (show (none : Option Int32) = some r from hf)
  | succ n hk5 =>
    intro x3 x4 hf
    replace hf : g_X7_placeIn_L5 M x1 x2 (f_X7_placeIn_L5 M x1 x2 n) (x3, x4) = some r := hf
    dsimp only [g_X7_placeIn_L5] at hf
    refine A_iload C (pc := 5) 4 rfl dX7_placeIn_5 ?_
    refine A_iconst C (pc := 7) ic_1 dX7_placeIn_7 ?_
    refine A_aload_n C (pc := 8) 0 rfl dX7_placeIn_8 ?_
    refine A_g7_0 C (pc := 9) kf_X7_9 dX7_placeIn_9 ?_
    refine A_iload_n C (pc := 12) 1 rfl dX7_placeIn_12 ?_
    obtain ⟨c13, hf⟩ := chk_i hf
    refine A_iald C (pc := 13) (show IA 48 5 from ⟨rfl, rfl⟩) c13 dX7_placeIn_13 ?_
    refine A_ishl C (pc := 14) dX7_placeIn_14 ?_
    refine A_icmp_ge C (pc := 15) 51 (by decide) dX7_placeIn_15 hf (fun _ hf => ?_) (fun _ hf => ?_)
    · refine A_iload_n C (pc := 51) 3 rfl dX7_placeIn_51 ?_
      exact R_iP C (pc := 52) hr hk rfl dX7_placeIn_52 hf
    · refine A_iload_n C (pc := 18) 3 rfl dX7_placeIn_18 ?_
      refine A_iload C (pc := 19) 4 rfl dX7_placeIn_19 ?_
      refine A_iload_n C (pc := 21) 2 rfl dX7_placeIn_21 ?_
      obtain ⟨z22, h22, hf⟩ := bd_i hf
      refine A_callS1 C (pc := 22) (A := [.int x4, .int x2]) (rest := [.int x3]) k_X7_121 ky_X7_isAhead ks_X7_isAhead (m_X7_isAhead l B D Y o  h22) rfl rfl (Nat.le_of_ble_eq_true rfl) ⟨rfl, rfl, Nat.le_of_ble_eq_true rfl, Nat.le_of_ble_eq_true rfl⟩ ⟨Nat.zero_le _, Nat.zero_le _⟩ dX7_placeIn_22 ?_
      refine A_if_eq C (pc := 25) 42 (by decide) dX7_placeIn_25 hf (fun _ hf => ?_) (fun _ hf => ?_)
      · refine A_iconst C (pc := 42) ic_0 dX7_placeIn_42 ?_
        refine A_iadd C (pc := 43) dX7_placeIn_43 ?_
        obtain ⟨v44, e44, hf⟩ := bd_i hf
        refine A_nmI e44 ?_
        refine A_istore_n C (pc := 44) [(0, .ref (B + 47)), (1, .int x1), (2, .int x2), (3, .int v44), (4, .int x4)] rfl (by decide) [1, 2, 3, 0, 4] rfl dX7_placeIn_44 ?_
        refine A_iinc C (pc := 45) (k0 := 4) [(0, .ref (B + 47)), (1, .int x1), (2, .int x2), (3, .int v44), (4, .int (x4 + 1))] rfl ic_1 (by decide) [1, 2, 3, 4, 0] rfl dX7_placeIn_45 ?_
        refine A_goto C (pc := 48) 5 (by decide) dX7_placeIn_48 ?_
        exact hk5 _ _ hf
      · refine A_aload_n C (pc := 28) 0 rfl dX7_placeIn_28 ?_
        refine A_iload_n C (pc := 29) 1 rfl dX7_placeIn_29 ?_
        refine A_iload C (pc := 30) 4 rfl dX7_placeIn_30 ?_
        obtain ⟨z32, h32, hf⟩ := bd_i hf
        refine A_callV1 C (pc := 32) (A := [.int x1, .int x4]) (rest := [.int x3]) k_X7_124 ky_X7_isClosed kv_X7_isClosed (m_X7_isClosed l B D Y o  h32) (by decide) rfl rfl rfl rfl (Nat.le_of_ble_eq_true rfl) ⟨rfl, rfl, Nat.le_of_ble_eq_true rfl, Nat.le_of_ble_eq_true rfl⟩ ⟨Nat.zero_le _, Nat.zero_le _⟩ dX7_placeIn_32 ?_
        refine A_if_eq C (pc := 35) 42 (by decide) dX7_placeIn_35 hf (fun _ hf => ?_) (fun _ hf => ?_)
        · refine A_iconst C (pc := 42) ic_0 dX7_placeIn_42 ?_
          refine A_iadd C (pc := 43) dX7_placeIn_43 ?_
          obtain ⟨v44, e44, hf⟩ := bd_i hf
          refine A_nmI e44 ?_
          refine A_istore_n C (pc := 44) [(0, .ref (B + 47)), (1, .int x1), (2, .int x2), (3, .int v44), (4, .int x4)] rfl (by decide) [1, 2, 3, 0, 4] rfl dX7_placeIn_44 ?_
          refine A_iinc C (pc := 45) (k0 := 4) [(0, .ref (B + 47)), (1, .int x1), (2, .int x2), (3, .int v44), (4, .int (x4 + 1))] rfl ic_1 (by decide) [1, 2, 3, 4, 0] rfl dX7_placeIn_45 ?_
          refine A_goto C (pc := 48) 5 (by decide) dX7_placeIn_48 ?_
          exact hk5 _ _ hf
        · refine A_iconst C (pc := 38) ic_1 dX7_placeIn_38 ?_
          refine A_goto C (pc := 39) 43 (by decide) dX7_placeIn_39 ?_
          refine A_iadd C (pc := 43) dX7_placeIn_43 ?_
          obtain ⟨v44, e44, hf⟩ := bd_i hf
          refine A_nmI e44 ?_
          refine A_istore_n C (pc := 44) [(0, .ref (B + 47)), (1, .int x1), (2, .int x2), (3, .int v44), (4, .int x4)] rfl (by decide) [1, 2, 3, 0, 4] rfl dX7_placeIn_44 ?_
          refine A_iinc C (pc := 45) (k0 := 4) [(0, .ref (B + 47)), (1, .int x1), (2, .int x2), (3, .int v44), (4, .int (x4 + 1))] rfl ic_1 (by decide) [1, 2, 3, 4, 0] rfl dX7_placeIn_45 ?_
          refine A_goto C (pc := 48) 5 (by decide) dX7_placeIn_48 ?_
          exact hk5 _ _ hf
set_option maxRecDepth 100000 in
theorem m_X7_placeIn (l : Launch) (B : Nat) (D : va_G) (Y : Nat → ClassId) (o : Ou) {M : Mem} {x1 : Int32} {x2 : Int32} {r : Int32}  (hf : f_X7_placeIn M x1 x2 = some r) : MW l yX7_placeIn cX7_placeIn 5 (some .int) rm_X7_placeIn B D Y o [.ref (B + 47), .int x1, .int x2] M M (some (.int r)) := by
  refine ofAt (L0 := [(0, .ref (B + 47)), (1, .int x1), (2, .int x2)]) (by decide +kernel) (Nat.le_of_ble_eq_true rfl) rfl (fun p e s m args below meth c C hr hk => ?_)
  dsimp only [f_X7_placeIn] at hf
  refine A_iconst C (pc := 0) ic_0 dX7_placeIn_0 ?_
  refine A_istore_n C (pc := 1) [(0, .ref (B + 47)), (1, .int x1), (2, .int x2), (3, .int 0)] rfl (by decide) [1, 2, 3, 0] rfl dX7_placeIn_1 ?_
  refine A_iconst C (pc := 2) ic_0 dX7_placeIn_2 ?_
  refine A_istore C (pc := 3) [(0, .ref (B + 47)), (1, .int x1), (2, .int x2), (3, .int 0), (4, .int 0)] (by decide) [1, 2, 3, 4, 0] rfl dX7_placeIn_3 ?_
  exact w_X7_placeIn_L5 C hr hk FU _ _  hf
set_option maxRecDepth 100000 in
theorem w_X7_manyOf_L5 {M : Mem} {x1 : Int32} {x2 : Int32} {r : Int32} (C : Cx p s m args c cX7_manyOf 5 RX7 B D Y) (hr : meth.sig.returnType = (some .int)) (hk : meth.locks = false)  : ∀ (n : Nat) (x3 : Int32) (x4 : Int32), f_X7_manyOf_L5 M x1 x2 n (x3, x4) = some r → At p l e rm_X7_manyOf s m args below meth c 5 0 0 (QQ below args s B D Y M o (some (.int r))) B D Y o 5 M [(0, .ref (B + 47)), (1, .int x1), (2, .int x2), (3, .int x3), (4, .int x4)] [] := by
  intro n
  induction n with
  | zero => intro x3 x4 hf; exact nomatch (show (none : Option Int32) = some r from hf)
  | succ n hk5 =>
    intro x3 x4 hf
    replace hf : g_X7_manyOf_L5 M x1 x2 (f_X7_manyOf_L5 M x1 x2 n) (x3, x4) = some r := hf
    dsimp only [g_X7_manyOf_L5] at hf
    refine A_iload C (pc := 5) 4 rfl dX7_manyOf_5 ?_
    refine A_iconst C (pc := 7) ic_1 dX7_manyOf_7 ?_
    refine A_aload_n C (pc := 8) 0 rfl dX7_manyOf_8 ?_
    refine A_g7_0 C (pc := 9) kf_X7_9 dX7_manyOf_9 ?_
    refine A_iload_n C (pc := 12) 1 rfl dX7_manyOf_12 ?_
    obtain ⟨c13, hf⟩ := chk_i hf
    refine A_iald C (pc := 13) (show IA 48 5 from ⟨rfl, rfl⟩) c13 dX7_manyOf_13 ?_
    refine A_ishl C (pc := 14) dX7_manyOf_14 ?_
    refine A_icmp_ge C (pc := 15) 56 (by decide) dX7_manyOf_15 hf (fun _ hf => ?_) (fun _ hf => ?_)
    · refine A_iload_n C (pc := 56) 3 rfl dX7_manyOf_56 ?_
      exact R_iP C (pc := 57) hr hk rfl dX7_manyOf_57 hf
    · refine A_iload_n C (pc := 18) 3 rfl dX7_manyOf_18 ?_
      refine A_iload_n C (pc := 19) 2 rfl dX7_manyOf_19 ?_
      refine A_iconst C (pc := 20) ic_m1 dX7_manyOf_20 ?_
      refine A_icmp_eq C (pc := 21) 33 (by decide) dX7_manyOf_21 hf (fun _ hf => ?_) (fun _ hf => ?_)
      · refine A_aload_n C (pc := 33) 0 rfl dX7_manyOf_33 ?_
        refine A_iload_n C (pc := 34) 1 rfl dX7_manyOf_34 ?_
        refine A_iload C (pc := 35) 4 rfl dX7_manyOf_35 ?_
        obtain ⟨z37, h37, hf⟩ := bd_i hf
        refine A_callV1 C (pc := 37) (A := [.int x1, .int x4]) (rest := [.int x3]) k_X7_124 ky_X7_isClosed kv_X7_isClosed (m_X7_isClosed l B D Y o  h37) (by decide) rfl rfl rfl rfl (Nat.le_of_ble_eq_true rfl) ⟨rfl, rfl, Nat.le_of_ble_eq_true rfl, Nat.le_of_ble_eq_true rfl⟩ ⟨Nat.zero_le _, Nat.zero_le _⟩ dX7_manyOf_37 ?_
        refine A_if_eq C (pc := 40) 47 (by decide) dX7_manyOf_40 hf (fun _ hf => ?_) (fun _ hf => ?_)
        · refine A_iconst C (pc := 47) ic_0 dX7_manyOf_47 ?_
          refine A_iadd C (pc := 48) dX7_manyOf_48 ?_
          obtain ⟨v49, e49, hf⟩ := bd_i hf
          refine A_nmI e49 ?_
          refine A_istore_n C (pc := 49) [(0, .ref (B + 47)), (1, .int x1), (2, .int x2), (3, .int v49), (4, .int x4)] rfl (by decide) [1, 2, 3, 0, 4] rfl dX7_manyOf_49 ?_
          refine A_iinc C (pc := 50) (k0 := 4) [(0, .ref (B + 47)), (1, .int x1), (2, .int x2), (3, .int v49), (4, .int (x4 + 1))] rfl ic_1 (by decide) [1, 2, 3, 4, 0] rfl dX7_manyOf_50 ?_
          refine A_goto C (pc := 53) 5 (by decide) dX7_manyOf_53 ?_
          exact hk5 _ _ hf
        · refine A_iconst C (pc := 43) ic_1 dX7_manyOf_43 ?_
          refine A_goto C (pc := 44) 48 (by decide) dX7_manyOf_44 ?_
          refine A_iadd C (pc := 48) dX7_manyOf_48 ?_
          obtain ⟨v49, e49, hf⟩ := bd_i hf
          refine A_nmI e49 ?_
          refine A_istore_n C (pc := 49) [(0, .ref (B + 47)), (1, .int x1), (2, .int x2), (3, .int v49), (4, .int x4)] rfl (by decide) [1, 2, 3, 0, 4] rfl dX7_manyOf_49 ?_
          refine A_iinc C (pc := 50) (k0 := 4) [(0, .ref (B + 47)), (1, .int x1), (2, .int x2), (3, .int v49), (4, .int (x4 + 1))] rfl ic_1 (by decide) [1, 2, 3, 4, 0] rfl dX7_manyOf_50 ?_
          refine A_goto C (pc := 53) 5 (by decide) dX7_manyOf_53 ?_
          exact hk5 _ _ hf
      · refine A_iload C (pc := 24) 4 rfl dX7_manyOf_24 ?_
        obtain ⟨z26, h26, hf⟩ := bd_i hf
        refine A_callS1 C (pc := 26) (A := [.int x4]) (rest := [.int x3]) k_X7_108 ky_X7_manyIn ks_X7_manyIn (m_X7_manyIn l B D Y o  h26) rfl rfl (Nat.le_of_ble_eq_true rfl) ⟨rfl, rfl, Nat.le_of_ble_eq_true rfl, Nat.le_of_ble_eq_true rfl⟩ ⟨Nat.zero_le _, Nat.zero_le _⟩ dX7_manyOf_26 ?_
        refine A_iload_n C (pc := 29) 2 rfl dX7_manyOf_29 ?_
        refine A_icmp_ne C (pc := 30) 47 (by decide) dX7_manyOf_30 hf (fun _ hf => ?_) (fun _ hf => ?_)
        · refine A_iconst C (pc := 47) ic_0 dX7_manyOf_47 ?_
          refine A_iadd C (pc := 48) dX7_manyOf_48 ?_
          obtain ⟨v49, e49, hf⟩ := bd_i hf
          refine A_nmI e49 ?_
          refine A_istore_n C (pc := 49) [(0, .ref (B + 47)), (1, .int x1), (2, .int x2), (3, .int v49), (4, .int x4)] rfl (by decide) [1, 2, 3, 0, 4] rfl dX7_manyOf_49 ?_
          refine A_iinc C (pc := 50) (k0 := 4) [(0, .ref (B + 47)), (1, .int x1), (2, .int x2), (3, .int v49), (4, .int (x4 + 1))] rfl ic_1 (by decide) [1, 2, 3, 4, 0] rfl dX7_manyOf_50 ?_
          refine A_goto C (pc := 53) 5 (by decide) dX7_manyOf_53 ?_
          exact hk5 _ _ hf
        · refine A_aload_n C (pc := 33) 0 rfl dX7_manyOf_33 ?_
          refine A_iload_n C (pc := 34) 1 rfl dX7_manyOf_34 ?_
          refine A_iload C (pc := 35) 4 rfl dX7_manyOf_35 ?_
          obtain ⟨z37, h37, hf⟩ := bd_i hf
          refine A_callV1 C (pc := 37) (A := [.int x1, .int x4]) (rest := [.int x3]) k_X7_124 ky_X7_isClosed kv_X7_isClosed (m_X7_isClosed l B D Y o  h37) (by decide) rfl rfl rfl rfl (Nat.le_of_ble_eq_true rfl) ⟨rfl, rfl, Nat.le_of_ble_eq_true rfl, Nat.le_of_ble_eq_true rfl⟩ ⟨Nat.zero_le _, Nat.zero_le _⟩ dX7_manyOf_37 ?_
          refine A_if_eq C (pc := 40) 47 (by decide) dX7_manyOf_40 hf (fun _ hf => ?_) (fun _ hf => ?_)
          · refine A_iconst C (pc := 47) ic_0 dX7_manyOf_47 ?_
            refine A_iadd C (pc := 48) dX7_manyOf_48 ?_
            obtain ⟨v49, e49, hf⟩ := bd_i hf
            refine A_nmI e49 ?_
            refine A_istore_n C (pc := 49) [(0, .ref (B + 47)), (1, .int x1), (2, .int x2), (3, .int v49), (4, .int x4)] rfl (by decide) [1, 2, 3, 0, 4] rfl dX7_manyOf_49 ?_
            refine A_iinc C (pc := 50) (k0 := 4) [(0, .ref (B + 47)), (1, .int x1), (2, .int x2), (3, .int v49), (4, .int (x4 + 1))] rfl ic_1 (by decide) [1, 2, 3, 4, 0] rfl dX7_manyOf_50 ?_
            refine A_goto C (pc := 53) 5 (by decide) dX7_manyOf_53 ?_
            exact hk5 _ _ hf
          · refine A_iconst C (pc := 43) ic_1 dX7_manyOf_43 ?_
            refine A_goto C (pc := 44) 48 (by decide) dX7_manyOf_44 ?_
            refine A_iadd C (pc := 48) dX7_manyOf_48 ?_
            obtain ⟨v49, e49, hf⟩ := bd_i hf
            refine A_nmI e49 ?_
            refine A_istore_n C (pc := 49) [(0, .ref (B + 47)), (1, .int x1), (2, .int x2), (3, .int v49), (4, .int x4)] rfl (by decide) [1, 2, 3, 0, 4] rfl dX7_manyOf_49 ?_
            refine A_iinc C (pc := 50) (k0 := 4) [(0, .ref (B + 47)), (1, .int x1), (2, .int x2), (3, .int v49), (4, .int (x4 + 1))] rfl ic_1 (by decide) [1, 2, 3, 4, 0] rfl dX7_manyOf_50 ?_
            refine A_goto C (pc := 53) 5 (by decide) dX7_manyOf_53 ?_
            exact hk5 _ _ hf
set_option maxRecDepth 100000 in
theorem m_X7_manyOf (l : Launch) (B : Nat) (D : va_G) (Y : Nat → ClassId) (o : Ou) {M : Mem} {x1 : Int32} {x2 : Int32} {r : Int32}  (hf : f_X7_manyOf M x1 x2 = some r) : MW l yX7_manyOf cX7_manyOf 5 (some .int) rm_X7_manyOf B D Y o [.ref (B + 47), .int x1, .int x2] M M (some (.int r)) := by
  refine ofAt (L0 := [(0, .ref (B + 47)), (1, .int x1), (2, .int x2)]) (by decide +kernel) (Nat.le_of_ble_eq_true rfl) rfl (fun p e s m args below meth c C hr hk => ?_)
  dsimp only [f_X7_manyOf] at hf
  refine A_iconst C (pc := 0) ic_0 dX7_manyOf_0 ?_
  refine A_istore_n C (pc := 1) [(0, .ref (B + 47)), (1, .int x1), (2, .int x2), (3, .int 0)] rfl (by decide) [1, 2, 3, 0] rfl dX7_manyOf_1 ?_
  refine A_iconst C (pc := 2) ic_0 dX7_manyOf_2 ?_
  refine A_istore C (pc := 3) [(0, .ref (B + 47)), (1, .int x1), (2, .int x2), (3, .int 0), (4, .int 0)] (by decide) [1, 2, 3, 4, 0] rfl dX7_manyOf_3 ?_
  exact w_X7_manyOf_L5 C hr hk FU _ _  hf
set_option maxRecDepth 100000 in
theorem m_X7_sets (l : Launch) (B : Nat) (D : va_G) (Y : Nat → ClassId) (o : Ou) {M : Mem} {x1 : Int32} {r : Int32 × Mem}  (hf : f_X7_sets M x1 = some r) : MW l yX7_sets cX7_sets 2 (some .int) rm_X7_sets B D Y o [.ref (B + 47), .int x1] M r.2 (some (.int r.1)) := by
  refine ofAt (L0 := [(0, .ref (B + 47)), (1, .int x1)]) (by decide +kernel) (Nat.le_of_ble_eq_true rfl) rfl (fun p e s m args below meth c C hr hk => ?_)
  dsimp only [f_X7_sets] at hf
  refine A_aload_n C (pc := 0) 0 rfl dX7_sets_0 ?_
  refine A_iload_n C (pc := 1) 1 rfl dX7_sets_1 ?_
  obtain ⟨z2, h2, hf⟩ := bd_i hf
  refine A_callS1 C (pc := 2) (A := [.int x1]) (rest := [.ref (B + 47)]) k_X7_43 ky_X7_isOrder ks_X7_isOrder (m_X7_isOrder l B D Y o  h2) rfl rfl (Nat.le_of_ble_eq_true rfl) ⟨rfl, rfl, Nat.le_of_ble_eq_true rfl, Nat.le_of_ble_eq_true rfl⟩ ⟨Nat.zero_le _, Nat.zero_le _⟩ dX7_sets_2 ?_
  refine A_iconst C (pc := 5) ic_1 dX7_sets_5 ?_
  obtain ⟨z6, h6, hf⟩ := bd_i hf
  refine A_callV1 C (pc := 6) (A := [.int z2, .int 1]) (rest := []) k_X7_51 ky_X7_lets kv_X7_lets (m_X7_lets l B D Y o  h6) (by decide) rfl rfl rfl rfl (Nat.le_of_ble_eq_true rfl) ⟨rfl, rfl, Nat.le_of_ble_eq_true rfl, Nat.le_of_ble_eq_true rfl⟩ ⟨Nat.zero_le _, Nat.zero_le _⟩ dX7_sets_6 ?_
  refine A_if_eq C (pc := 9) 21 (by decide) dX7_sets_9 hf (fun _ hf => ?_) (fun _ hf => ?_)
  · refine A_iconst C (pc := 21) ic_0 dX7_sets_21 ?_
    exact R_iM C (pc := 22) hr hk rfl dX7_sets_22 hf
  · refine A_aload_n C (pc := 12) 0 rfl dX7_sets_12 ?_
    refine A_iload_n C (pc := 13) 1 rfl dX7_sets_13 ?_
    refine A_iconst C (pc := 14) ic_m1 dX7_sets_14 ?_
    obtain ⟨z15, h15, hf⟩ := bd_i hf
    refine A_callV1 C (pc := 15) (A := [.int x1, .int ((-1))]) (rest := []) k_X7_127 ky_X7_manyOf kv_X7_manyOf (m_X7_manyOf l B D Y o  h15) (by decide) rfl rfl rfl rfl (Nat.le_of_ble_eq_true rfl) ⟨rfl, rfl, Nat.le_of_ble_eq_true rfl, Nat.le_of_ble_eq_true rfl⟩ ⟨Nat.zero_le _, Nat.zero_le _⟩ dX7_sets_15 ?_
    refine A_goto C (pc := 18) 22 (by decide) dX7_sets_18 ?_
    exact R_iM C (pc := 22) hr hk rfl dX7_sets_22 hf
set_option maxRecDepth 100000 in
theorem m_X7_setsOf (l : Launch) (B : Nat) (D : va_G) (Y : Nat → ClassId) (o : Ou) {M : Mem} {x1 : Int32} {x2 : Int32} {r : Int32 × Mem}  (hf : f_X7_setsOf M x1 x2 = some r) : MW l yX7_setsOf cX7_setsOf 3 (some .int) rm_X7_setsOf B D Y o [.ref (B + 47), .int x1, .int x2] M r.2 (some (.int r.1)) := by
  refine ofAt (L0 := [(0, .ref (B + 47)), (1, .int x1), (2, .int x2)]) (by decide +kernel) (Nat.le_of_ble_eq_true rfl) rfl (fun p e s m args below meth c C hr hk => ?_)
  dsimp only [f_X7_setsOf] at hf
  refine A_aload_n C (pc := 0) 0 rfl dX7_setsOf_0 ?_
  refine A_iload_n C (pc := 1) 1 rfl dX7_setsOf_1 ?_
  obtain ⟨z2, h2, hf⟩ := bd_i hf
  refine A_callS1 C (pc := 2) (A := [.int x1]) (rest := [.ref (B + 47)]) k_X7_43 ky_X7_isOrder ks_X7_isOrder (m_X7_isOrder l B D Y o  h2) rfl rfl (Nat.le_of_ble_eq_true rfl) ⟨rfl, rfl, Nat.le_of_ble_eq_true rfl, Nat.le_of_ble_eq_true rfl⟩ ⟨Nat.zero_le _, Nat.zero_le _⟩ dX7_setsOf_2 ?_
  refine A_iconst C (pc := 5) ic_1 dX7_setsOf_5 ?_
  obtain ⟨z6, h6, hf⟩ := bd_i hf
  refine A_callV1 C (pc := 6) (A := [.int z2, .int 1]) (rest := []) k_X7_51 ky_X7_lets kv_X7_lets (m_X7_lets l B D Y o  h6) (by decide) rfl rfl rfl rfl (Nat.le_of_ble_eq_true rfl) ⟨rfl, rfl, Nat.le_of_ble_eq_true rfl, Nat.le_of_ble_eq_true rfl⟩ ⟨Nat.zero_le _, Nat.zero_le _⟩ dX7_setsOf_6 ?_
  refine A_if_eq C (pc := 9) 25 (by decide) dX7_setsOf_9 hf (fun _ hf => ?_) (fun _ hf => ?_)
  · refine A_iconst C (pc := 25) ic_0 dX7_setsOf_25 ?_
    exact R_iM C (pc := 26) hr hk rfl dX7_setsOf_26 hf
  · refine A_iload_n C (pc := 12) 2 rfl dX7_setsOf_12 ?_
    refine A_if_lt C (pc := 13) 25 (by decide) dX7_setsOf_13 hf (fun _ hf => ?_) (fun _ hf => ?_)
    · refine A_iconst C (pc := 25) ic_0 dX7_setsOf_25 ?_
      exact R_iM C (pc := 26) hr hk rfl dX7_setsOf_26 hf
    · refine A_aload_n C (pc := 16) 0 rfl dX7_setsOf_16 ?_
      refine A_iload_n C (pc := 17) 1 rfl dX7_setsOf_17 ?_
      refine A_iload_n C (pc := 18) 2 rfl dX7_setsOf_18 ?_
      obtain ⟨z19, h19, hf⟩ := bd_i hf
      refine A_callV1 C (pc := 19) (A := [.int x1, .int x2]) (rest := []) k_X7_127 ky_X7_manyOf kv_X7_manyOf (m_X7_manyOf l B D Y o  h19) (by decide) rfl rfl rfl rfl (Nat.le_of_ble_eq_true rfl) ⟨rfl, rfl, Nat.le_of_ble_eq_true rfl, Nat.le_of_ble_eq_true rfl⟩ ⟨Nat.zero_le _, Nat.zero_le _⟩ dX7_setsOf_19 ?_
      refine A_goto C (pc := 22) 26 (by decide) dX7_setsOf_22 ?_
      exact R_iM C (pc := 26) hr hk rfl dX7_setsOf_26 hf
set_option maxRecDepth 100000 in
theorem w_X7_setAt_L55 {M : Mem} {x1 : Int32} {x4 : Int32} {r : Int32 × Mem} (C : Cx p s m args c cX7_setAt 6 RX7 B D Y) (hr : meth.sig.returnType = (some .int)) (hk : meth.locks = false)  {k41 : (Int32 × Int32) → Option (Int32 × Mem)} (hk41 : ∀ (x3 : Int32) (x4 : Int32), k41 (x3, x4) = some r → At p l e rm_X7_setAt s m args below meth c 6 0 0 (QQ below args s B D Y r.2 o (some (.int r.1))) B D Y o 41 M [(0, .ref (B + 47)), (1, .int x1), (3, .int x3), (4, .int x4)] []) : ∀ (n : Nat) (x3 : Int32) (x5 : Int32), f_X7_setAt_L55 M x1 x4 k41 n (x3, x5) = some r → At p l e rm_X7_setAt s m args below meth c 6 0 0 (QQ below args s B D Y r.2 o (some (.int r.1))) B D Y o 55 M [(0, .ref (B + 47)), (1, .int x1), (3, .int x3), (4, .int x4), (5, .int x5)] [] := by
  intro n
  induction n with
  | zero => intro x3 x5 hf; exact nomatch (show (none : Option (Int32 × Mem)) = some r from hf)
  | succ n hk55 =>
    intro x3 x5 hf
    replace hf : g_X7_setAt_L55 M x1 x4 k41 (f_X7_setAt_L55 M x1 x4 k41 n) (x3, x5) = some r := hf
    dsimp only [g_X7_setAt_L55] at hf
    refine A_iload C (pc := 55) 4 rfl dX7_setAt_55 ?_
    refine A_iconst C (pc := 57) ic_1 dX7_setAt_57 ?_
    refine A_aload_n C (pc := 58) 0 rfl dX7_setAt_58 ?_
    refine A_g7_0 C (pc := 59) kf_X7_9 dX7_setAt_59 ?_
    refine A_iload_n C (pc := 62) 1 rfl dX7_setAt_62 ?_
    obtain ⟨c63, hf⟩ := chk_i hf
    refine A_iald C (pc := 63) (show IA 48 5 from ⟨rfl, rfl⟩) c63 dX7_setAt_63 ?_
    refine A_ishl C (pc := 64) dX7_setAt_64 ?_
    refine A_icmp_ge C (pc := 65) 107 (by decide) dX7_setAt_65 hf (fun _ hf => ?_) (fun _ hf => ?_)
    · refine A_iinc C (pc := 107) (k0 := 3) [(0, .ref (B + 47)), (1, .int x1), (3, .int x3), (4, .int (x4 + 1))] rfl ic_1 (by decide) [1, 2, 3, 0] rfl dX7_setAt_107 ?_
      refine A_goto C (pc := 110) 41 (by decide) dX7_setAt_110 ?_
      exact hk41 _ _ hf
    · refine A_iload C (pc := 68) 4 rfl dX7_setAt_68 ?_
      obtain ⟨z70, h70, hf⟩ := bd_i hf
      refine A_callS1 C (pc := 70) (A := [.int x5]) (rest := []) k_X7_108 ky_X7_manyIn ks_X7_manyIn (m_X7_manyIn l B D Y o  h70) rfl rfl (Nat.le_of_ble_eq_true rfl) ⟨rfl, rfl, Nat.le_of_ble_eq_true rfl, Nat.le_of_ble_eq_true rfl⟩ ⟨Nat.zero_le _, Nat.zero_le _⟩ dX7_setAt_70 ?_
      refine A_iload C (pc := 73) 3 rfl dX7_setAt_73 ?_
      refine A_icmp_ne C (pc := 75) 101 (by decide) dX7_setAt_75 hf (fun _ hf => ?_) (fun _ hf => ?_)
      · refine A_iinc C (pc := 101) (k0 := 4) [(0, .ref (B + 47)), (1, .int x1), (3, .int x3), (4, .int x4), (5, .int (x5 + 1))] rfl ic_1 (by decide) [1, 2, 3, 4, 0] rfl dX7_setAt_101 ?_
        refine A_goto C (pc := 104) 55 (by decide) dX7_setAt_104 ?_
        exact hk55 _ _ hf
      · refine A_aload_n C (pc := 78) 0 rfl dX7_setAt_78 ?_
        refine A_iload_n C (pc := 79) 1 rfl dX7_setAt_79 ?_
        refine A_iload C (pc := 80) 4 rfl dX7_setAt_80 ?_
        obtain ⟨z82, h82, hf⟩ := bd_i hf
        refine A_callV1 C (pc := 82) (A := [.int x1, .int x5]) (rest := []) k_X7_124 ky_X7_isClosed kv_X7_isClosed (m_X7_isClosed l B D Y o  h82) (by decide) rfl rfl rfl rfl (Nat.le_of_ble_eq_true rfl) ⟨rfl, rfl, Nat.le_of_ble_eq_true rfl, Nat.le_of_ble_eq_true rfl⟩ ⟨Nat.zero_le _, Nat.zero_le _⟩ dX7_setAt_82 ?_
        refine A_if_ne C (pc := 85) 91 (by decide) dX7_setAt_85 hf (fun _ hf => ?_) (fun _ hf => ?_)
        · refine A_iload_n C (pc := 91) 2 rfl dX7_setAt_91 ?_
          refine A_if_ne C (pc := 92) 98 (by decide) dX7_setAt_92 hf (fun _ hf => ?_) (fun _ hf => ?_)
          · refine A_iinc C (pc := 98) (k0 := 2) [(0, .ref (B + 47)), (1, .int x1), (3, .int (x3 + (-1))), (4, .int x4), (5, .int x5)] rfl ic_m1 (by decide) [1, 2, 0, 3, 4] rfl dX7_setAt_98 ?_
            refine A_iinc C (pc := 101) (k0 := 4) [(0, .ref (B + 47)), (1, .int x1), (3, .int (x3 + (-1))), (4, .int x4), (5, .int (x5 + 1))] rfl ic_1 (by decide) [1, 2, 3, 4, 0] rfl dX7_setAt_101 ?_
            refine A_goto C (pc := 104) 55 (by decide) dX7_setAt_104 ?_
            exact hk55 _ _ hf
          · refine A_iload C (pc := 95) 4 rfl dX7_setAt_95 ?_
            exact R_iM C (pc := 97) hr hk rfl dX7_setAt_97 hf
        · refine A_goto C (pc := 88) 101 (by decide) dX7_setAt_88 ?_
          refine A_iinc C (pc := 101) (k0 := 4) [(0, .ref (B + 47)), (1, .int x1), (3, .int x3), (4, .int x4), (5, .int (x5 + 1))] rfl ic_1 (by decide) [1, 2, 3, 4, 0] rfl dX7_setAt_101 ?_
          refine A_goto C (pc := 104) 55 (by decide) dX7_setAt_104 ?_
          exact hk55 _ _ hf
set_option maxRecDepth 100000 in
theorem w_X7_setAt_L41 {M : Mem} {x1 : Int32} {r : Int32 × Mem} (C : Cx p s m args c cX7_setAt 6 RX7 B D Y) (hr : meth.sig.returnType = (some .int)) (hk : meth.locks = false)  : ∀ (n : Nat) (x3 : Int32) (x4 : Int32), f_X7_setAt_L41 M x1 n (x3, x4) = some r → At p l e rm_X7_setAt s m args below meth c 6 0 0 (QQ below args s B D Y r.2 o (some (.int r.1))) B D Y o 41 M [(0, .ref (B + 47)), (1, .int x1), (3, .int x3), (4, .int x4)] [] := by
  intro n
  induction n with
  | zero => intro x3 x4 hf; exact nomatch (show (none : Option (Int32 × Mem)) = some r from hf)
  | succ n hk41 =>
    intro x3 x4 hf
    replace hf : g_X7_setAt_L41 M x1 (f_X7_setAt_L41 M x1 n) (x3, x4) = some r := hf
    dsimp only [g_X7_setAt_L41] at hf
    refine A_iload C (pc := 41) 3 rfl dX7_setAt_41 ?_
    refine A_aload_n C (pc := 43) 0 rfl dX7_setAt_43 ?_
    refine A_g7_0 C (pc := 44) kf_X7_9 dX7_setAt_44 ?_
    refine A_iload_n C (pc := 47) 1 rfl dX7_setAt_47 ?_
    obtain ⟨c48, hf⟩ := chk_i hf
    refine A_iald C (pc := 48) (show IA 48 5 from ⟨rfl, rfl⟩) c48 dX7_setAt_48 ?_
    refine A_icmp_gt C (pc := 49) 113 (by decide) dX7_setAt_49 hf (fun _ hf => ?_) (fun _ hf => ?_)
    · refine A_iconst C (pc := 113) ic_m1 dX7_setAt_113 ?_
      exact R_iM C (pc := 114) hr hk rfl dX7_setAt_114 hf
    · refine A_iconst C (pc := 52) ic_0 dX7_setAt_52 ?_
      refine A_istore C (pc := 53) [(0, .ref (B + 47)), (1, .int x1), (3, .int x3), (4, .int x4), (5, .int 0)] (by decide) [1, 2, 3, 4, 0] rfl dX7_setAt_53 ?_
      exact w_X7_setAt_L55 C hr hk hk41 FU _ _  hf
set_option maxRecDepth 100000 in
theorem m_X7_setAt (l : Launch) (B : Nat) (D : va_G) (Y : Nat → ClassId) (o : Ou) {M : Mem} {x1 : Int32} {x2 : Int32} {r : Int32 × Mem}  (hf : f_X7_setAt M x1 x2 = some r) : MW l yX7_setAt cX7_setAt 6 (some .int) rm_X7_setAt B D Y o [.ref (B + 47), .int x1, .int x2] M r.2 (some (.int r.1)) := by
  refine ofAt (L0 := [(0, .ref (B + 47)), (1, .int x1), (2, .int x2)]) (by decide +kernel) (Nat.le_of_ble_eq_true rfl) rfl (fun p e s m args below meth c C hr hk => ?_)
  dsimp only [f_X7_setAt] at hf
  refine A_aload_n C (pc := 0) 0 rfl dX7_setAt_0 ?_
  refine A_iload_n C (pc := 1) 1 rfl dX7_setAt_1 ?_
  obtain ⟨z2, h2, hf⟩ := bd_i hf
  refine A_callS1 C (pc := 2) (A := [.int x1]) (rest := [.ref (B + 47)]) k_X7_43 ky_X7_isOrder ks_X7_isOrder (m_X7_isOrder l B D Y o  h2) rfl rfl (Nat.le_of_ble_eq_true rfl) ⟨rfl, rfl, Nat.le_of_ble_eq_true rfl, Nat.le_of_ble_eq_true rfl⟩ ⟨Nat.zero_le _, Nat.zero_le _⟩ dX7_setAt_2 ?_
  refine A_if_eq C (pc := 5) 26 (by decide) dX7_setAt_5 hf (fun _ hf => ?_) (fun _ hf => ?_)
  · refine A_iconst C (pc := 26) ic_0 dX7_setAt_26 ?_
    refine A_iconst C (pc := 27) ic_1 dX7_setAt_27 ?_
    obtain ⟨z28, h28, hf⟩ := bd_i hf
    refine A_callV1 C (pc := 28) (A := [.int 0, .int 1]) (rest := []) k_X7_51 ky_X7_lets kv_X7_lets (m_X7_lets l B D Y o  h28) (by decide) rfl rfl rfl rfl (Nat.le_of_ble_eq_true rfl) ⟨rfl, rfl, Nat.le_of_ble_eq_true rfl, Nat.le_of_ble_eq_true rfl⟩ ⟨Nat.zero_le _, Nat.zero_le _⟩ dX7_setAt_28 ?_
    refine A_if_ne C (pc := 31) 36 (by decide) dX7_setAt_31 hf (fun _ hf => ?_) (fun _ hf => ?_)
    · refine A_iload_n C (pc := 36) 2 rfl dX7_setAt_36 ?_
      refine A_istore_n C (pc := 37) [(0, .ref (B + 47)), (1, .int x1), (3, .int x2)] rfl (by decide) [1, 2, 0] rfl dX7_setAt_37 ?_
      refine A_iconst C (pc := 38) ic_0 dX7_setAt_38 ?_
      refine A_istore C (pc := 39) [(0, .ref (B + 47)), (1, .int x1), (3, .int x2), (4, .int 0)] (by decide) [1, 2, 3, 0] rfl dX7_setAt_39 ?_
      exact w_X7_setAt_L41 C hr hk FU _ _  hf
    · refine A_iconst C (pc := 34) ic_0 dX7_setAt_34 ?_
      exact R_iM C (pc := 35) hr hk rfl dX7_setAt_35 hf
  · refine A_iload_n C (pc := 8) 2 rfl dX7_setAt_8 ?_
    refine A_if_lt C (pc := 9) 26 (by decide) dX7_setAt_9 hf (fun _ hf => ?_) (fun _ hf => ?_)
    · refine A_iconst C (pc := 26) ic_0 dX7_setAt_26 ?_
      refine A_iconst C (pc := 27) ic_1 dX7_setAt_27 ?_
      obtain ⟨z28, h28, hf⟩ := bd_i hf
      refine A_callV1 C (pc := 28) (A := [.int 0, .int 1]) (rest := []) k_X7_51 ky_X7_lets kv_X7_lets (m_X7_lets l B D Y o  h28) (by decide) rfl rfl rfl rfl (Nat.le_of_ble_eq_true rfl) ⟨rfl, rfl, Nat.le_of_ble_eq_true rfl, Nat.le_of_ble_eq_true rfl⟩ ⟨Nat.zero_le _, Nat.zero_le _⟩ dX7_setAt_28 ?_
      refine A_if_ne C (pc := 31) 36 (by decide) dX7_setAt_31 hf (fun _ hf => ?_) (fun _ hf => ?_)
      · refine A_iload_n C (pc := 36) 2 rfl dX7_setAt_36 ?_
        refine A_istore_n C (pc := 37) [(0, .ref (B + 47)), (1, .int x1), (3, .int x2)] rfl (by decide) [1, 2, 0] rfl dX7_setAt_37 ?_
        refine A_iconst C (pc := 38) ic_0 dX7_setAt_38 ?_
        refine A_istore C (pc := 39) [(0, .ref (B + 47)), (1, .int x1), (3, .int x2), (4, .int 0)] (by decide) [1, 2, 3, 0] rfl dX7_setAt_39 ?_
        exact w_X7_setAt_L41 C hr hk FU _ _  hf
      · refine A_iconst C (pc := 34) ic_0 dX7_setAt_34 ?_
        exact R_iM C (pc := 35) hr hk rfl dX7_setAt_35 hf
    · refine A_iload_n C (pc := 12) 2 rfl dX7_setAt_12 ?_
      refine A_aload_n C (pc := 13) 0 rfl dX7_setAt_13 ?_
      refine A_iload_n C (pc := 14) 1 rfl dX7_setAt_14 ?_
      refine A_iconst C (pc := 15) ic_m1 dX7_setAt_15 ?_
      obtain ⟨z16, h16, hf⟩ := bd_i hf
      refine A_callV1 C (pc := 16) (A := [.int x1, .int ((-1))]) (rest := [.int x2, .ref (B + 47)]) k_X7_127 ky_X7_manyOf kv_X7_manyOf (m_X7_manyOf l B D Y o  h16) (by decide) rfl rfl rfl rfl (Nat.le_of_ble_eq_true rfl) ⟨rfl, rfl, Nat.le_of_ble_eq_true rfl, Nat.le_of_ble_eq_true rfl⟩ ⟨Nat.zero_le _, Nat.zero_le _⟩ dX7_setAt_16 ?_
      refine A_icmp_ge C (pc := 19) 26 (by decide) dX7_setAt_19 hf (fun _ hf => ?_) (fun _ hf => ?_)
      · refine A_iconst C (pc := 26) ic_0 dX7_setAt_26 ?_
        refine A_iconst C (pc := 27) ic_1 dX7_setAt_27 ?_
        obtain ⟨z28, h28, hf⟩ := bd_i hf
        refine A_callV1 C (pc := 28) (A := [.int 0, .int 1]) (rest := []) k_X7_51 ky_X7_lets kv_X7_lets (m_X7_lets l B D Y o  h28) (by decide) rfl rfl rfl rfl (Nat.le_of_ble_eq_true rfl) ⟨rfl, rfl, Nat.le_of_ble_eq_true rfl, Nat.le_of_ble_eq_true rfl⟩ ⟨Nat.zero_le _, Nat.zero_le _⟩ dX7_setAt_28 ?_
        refine A_if_ne C (pc := 31) 36 (by decide) dX7_setAt_31 hf (fun _ hf => ?_) (fun _ hf => ?_)
        · refine A_iload_n C (pc := 36) 2 rfl dX7_setAt_36 ?_
          refine A_istore_n C (pc := 37) [(0, .ref (B + 47)), (1, .int x1), (3, .int x2)] rfl (by decide) [1, 2, 0] rfl dX7_setAt_37 ?_
          refine A_iconst C (pc := 38) ic_0 dX7_setAt_38 ?_
          refine A_istore C (pc := 39) [(0, .ref (B + 47)), (1, .int x1), (3, .int x2), (4, .int 0)] (by decide) [1, 2, 3, 0] rfl dX7_setAt_39 ?_
          exact w_X7_setAt_L41 C hr hk FU _ _  hf
        · refine A_iconst C (pc := 34) ic_0 dX7_setAt_34 ?_
          exact R_iM C (pc := 35) hr hk rfl dX7_setAt_35 hf
      · refine A_iconst C (pc := 22) ic_1 dX7_setAt_22 ?_
        refine A_goto C (pc := 23) 27 (by decide) dX7_setAt_23 ?_
        refine A_iconst C (pc := 27) ic_1 dX7_setAt_27 ?_
        obtain ⟨z28, h28, hf⟩ := bd_i hf
        refine A_callV1 C (pc := 28) (A := [.int 1, .int 1]) (rest := []) k_X7_51 ky_X7_lets kv_X7_lets (m_X7_lets l B D Y o  h28) (by decide) rfl rfl rfl rfl (Nat.le_of_ble_eq_true rfl) ⟨rfl, rfl, Nat.le_of_ble_eq_true rfl, Nat.le_of_ble_eq_true rfl⟩ ⟨Nat.zero_le _, Nat.zero_le _⟩ dX7_setAt_28 ?_
        refine A_if_ne C (pc := 31) 36 (by decide) dX7_setAt_31 hf (fun _ hf => ?_) (fun _ hf => ?_)
        · refine A_iload_n C (pc := 36) 2 rfl dX7_setAt_36 ?_
          refine A_istore_n C (pc := 37) [(0, .ref (B + 47)), (1, .int x1), (3, .int x2)] rfl (by decide) [1, 2, 0] rfl dX7_setAt_37 ?_
          refine A_iconst C (pc := 38) ic_0 dX7_setAt_38 ?_
          refine A_istore C (pc := 39) [(0, .ref (B + 47)), (1, .int x1), (3, .int x2), (4, .int 0)] (by decide) [1, 2, 3, 0] rfl dX7_setAt_39 ?_
          exact w_X7_setAt_L41 C hr hk FU _ _  hf
        · refine A_iconst C (pc := 34) ic_0 dX7_setAt_34 ?_
          exact R_iM C (pc := 35) hr hk rfl dX7_setAt_35 hf
set_option maxRecDepth 100000 in
theorem m_X7_placeOf (l : Launch) (B : Nat) (D : va_G) (Y : Nat → ClassId) (o : Ou) {M : Mem} {x1 : Int32} {x2 : Int32} {r : Int32 × Mem}  (hf : f_X7_placeOf M x1 x2 = some r) : MW l yX7_placeOf cX7_placeOf 3 (some .int) rm_X7_placeOf B D Y o [.ref (B + 47), .int x1, .int x2] M r.2 (some (.int r.1)) := by
  refine ofAt (L0 := [(0, .ref (B + 47)), (1, .int x1), (2, .int x2)]) (by decide +kernel) (Nat.le_of_ble_eq_true rfl) rfl (fun p e s m args below meth c C hr hk => ?_)
  dsimp only [f_X7_placeOf] at hf
  refine A_aload_n C (pc := 0) 0 rfl dX7_placeOf_0 ?_
  refine A_iload_n C (pc := 1) 1 rfl dX7_placeOf_1 ?_
  obtain ⟨z2, h2, hf⟩ := bd_i hf
  refine A_callS1 C (pc := 2) (A := [.int x1]) (rest := [.ref (B + 47)]) k_X7_43 ky_X7_isOrder ks_X7_isOrder (m_X7_isOrder l B D Y o  h2) rfl rfl (Nat.le_of_ble_eq_true rfl) ⟨rfl, rfl, Nat.le_of_ble_eq_true rfl, Nat.le_of_ble_eq_true rfl⟩ ⟨Nat.zero_le _, Nat.zero_le _⟩ dX7_placeOf_2 ?_
  refine A_iconst C (pc := 5) ic_1 dX7_placeOf_5 ?_
  obtain ⟨z6, h6, hf⟩ := bd_i hf
  refine A_callV1 C (pc := 6) (A := [.int z2, .int 1]) (rest := []) k_X7_51 ky_X7_lets kv_X7_lets (m_X7_lets l B D Y o  h6) (by decide) rfl rfl rfl rfl (Nat.le_of_ble_eq_true rfl) ⟨rfl, rfl, Nat.le_of_ble_eq_true rfl, Nat.le_of_ble_eq_true rfl⟩ ⟨Nat.zero_le _, Nat.zero_le _⟩ dX7_placeOf_6 ?_
  refine A_if_eq C (pc := 9) 26 (by decide) dX7_placeOf_9 hf (fun _ hf => ?_) (fun _ hf => ?_)
  · refine A_iconst C (pc := 26) ic_0 dX7_placeOf_26 ?_
    exact R_iM C (pc := 27) hr hk rfl dX7_placeOf_27 hf
  · refine A_aload_n C (pc := 12) 0 rfl dX7_placeOf_12 ?_
    refine A_aload_n C (pc := 13) 0 rfl dX7_placeOf_13 ?_
    refine A_iload_n C (pc := 14) 1 rfl dX7_placeOf_14 ?_
    refine A_iload_n C (pc := 15) 2 rfl dX7_placeOf_15 ?_
    obtain ⟨z16, h16, hf⟩ := bd_i hf
    refine A_callV1 C (pc := 16) (A := [.int x1, .int x2]) (rest := [.ref (B + 47)]) k_X7_72 ky_X7_isSet kv_X7_isSet (m_X7_isSet l B D Y o  h16) (by decide) rfl rfl rfl rfl (Nat.le_of_ble_eq_true rfl) ⟨rfl, rfl, Nat.le_of_ble_eq_true rfl, Nat.le_of_ble_eq_true rfl⟩ ⟨Nat.zero_le _, Nat.zero_le _⟩ dX7_placeOf_16 ?_
    refine A_iconst C (pc := 19) ic_2 dX7_placeOf_19 ?_
    obtain ⟨z20, h20, hf⟩ := bd_i hf
    refine A_callV1 C (pc := 20) (A := [.int z16, .int 2]) (rest := []) k_X7_51 ky_X7_lets kv_X7_lets (m_X7_lets l B D Y o  h20) (by decide) rfl rfl rfl rfl (Nat.le_of_ble_eq_true rfl) ⟨rfl, rfl, Nat.le_of_ble_eq_true rfl, Nat.le_of_ble_eq_true rfl⟩ ⟨Nat.zero_le _, Nat.zero_le _⟩ dX7_placeOf_20 ?_
    refine A_if_ne C (pc := 23) 28 (by decide) dX7_placeOf_23 hf (fun _ hf => ?_) (fun _ hf => ?_)
    · refine A_aload_n C (pc := 28) 0 rfl dX7_placeOf_28 ?_
      refine A_iload_n C (pc := 29) 1 rfl dX7_placeOf_29 ?_
      refine A_iload_n C (pc := 30) 2 rfl dX7_placeOf_30 ?_
      obtain ⟨z31, h31, hf⟩ := bd_i hf
      refine A_callV1 C (pc := 31) (A := [.int x1, .int x2]) (rest := []) k_X7_124 ky_X7_isClosed kv_X7_isClosed (m_X7_isClosed l B D Y o  h31) (by decide) rfl rfl rfl rfl (Nat.le_of_ble_eq_true rfl) ⟨rfl, rfl, Nat.le_of_ble_eq_true rfl, Nat.le_of_ble_eq_true rfl⟩ ⟨Nat.zero_le _, Nat.zero_le _⟩ dX7_placeOf_31 ?_
      refine A_if_eq C (pc := 34) 46 (by decide) dX7_placeOf_34 hf (fun _ hf => ?_) (fun _ hf => ?_)
      · refine A_iconst C (pc := 46) ic_m1 dX7_placeOf_46 ?_
        exact R_iM C (pc := 47) hr hk rfl dX7_placeOf_47 hf
      · refine A_aload_n C (pc := 37) 0 rfl dX7_placeOf_37 ?_
        refine A_iload_n C (pc := 38) 1 rfl dX7_placeOf_38 ?_
        refine A_iload_n C (pc := 39) 2 rfl dX7_placeOf_39 ?_
        obtain ⟨z40, h40, hf⟩ := bd_i hf
        refine A_callV1 C (pc := 40) (A := [.int x1, .int x2]) (rest := []) k_X7_130 ky_X7_placeIn kv_X7_placeIn (m_X7_placeIn l B D Y o  h40) (by decide) rfl rfl rfl rfl (Nat.le_of_ble_eq_true rfl) ⟨rfl, rfl, Nat.le_of_ble_eq_true rfl, Nat.le_of_ble_eq_true rfl⟩ ⟨Nat.zero_le _, Nat.zero_le _⟩ dX7_placeOf_40 ?_
        refine A_goto C (pc := 43) 47 (by decide) dX7_placeOf_43 ?_
        exact R_iM C (pc := 47) hr hk rfl dX7_placeOf_47 hf
    · refine A_iconst C (pc := 26) ic_0 dX7_placeOf_26 ?_
      exact R_iM C (pc := 27) hr hk rfl dX7_placeOf_27 hf
set_option maxRecDepth 100000 in
theorem w_X7_near_L174 {M : Mem} {x1 : Int32} {x2 : Int32} {x5 : Int32} {x6 : Int32} {x7 : Int32} {y0 : Int32} {r : Int32 × Mem} (C : Cx p s m args c cX7_near 9 RX7 B D Y) (hr : meth.sig.returnType = (some .int)) (hk : meth.locks = false)  {k120 : (Int32 × Int32) → Option (Int32 × Mem)} (hk120 : ∀ (x6 : Int32) (x7 : Int32), k120 (x6, x7) = some r → At p l e rm_X7_near s m args below meth c 9 0 0 (QQ below args s B D Y r.2 o (some (.int r.1))) B D Y o 120 M [(0, .ref (B + 47)), (1, .int x1), (2, .int x2), (5, .int x5), (6, .int x6), (7, .int x7)] []) (hf : f_X7_near_L174 M x1 x2 x5 x6 x7 y0 k120 = some r) : At p l e rm_X7_near s m args below meth c 9 0 0 (QQ below args s B D Y r.2 o (some (.int r.1))) B D Y o 174 M [(0, .ref (B + 47)), (1, .int x1), (2, .int x2), (5, .int x5), (6, .int x6), (7, .int x7)] [.int y0] := by
  dsimp only [f_X7_near_L174] at hf
  refine A_istore C (pc := 174) [(0, .ref (B + 47)), (1, .int x1), (2, .int x2), (5, .int x5), (6, .int x6), (7, .int x7), (8, .int y0)] (by decide) [1, 2, 3, 4, 5, 6, 0] rfl dX7_near_174 ?_
  refine A_iload C (pc := 176) 6 rfl dX7_near_176 ?_
  refine A_if_eq C (pc := 178) 220 (by decide) dX7_near_178 hf (fun _ hf => ?_) (fun _ hf => ?_)
  · refine A_iload C (pc := 220) 4 rfl dX7_near_220 ?_
    refine A_istore C (pc := 222) [(0, .ref (B + 47)), (1, .int x1), (2, .int x2), (5, .int x5), (6, .int x6), (7, .int x7)] (by decide) [1, 2, 3, 4, 0, 5] rfl dX7_near_222 ?_
    refine A_iinc C (pc := 224) (k0 := 5) [(0, .ref (B + 47)), (1, .int x1), (2, .int x2), (5, .int x5), (6, .int x6), (7, .int (x7 + 1))] rfl ic_1 (by decide) [1, 2, 3, 4, 5, 0] rfl dX7_near_224 ?_
    refine A_goto C (pc := 227) 120 (by decide) dX7_near_227 ?_
    exact hk120 _ _ hf
  · refine A_iload C (pc := 181) 4 rfl dX7_near_181 ?_
    refine A_iconst C (pc := 183) ic_m1 dX7_near_183 ?_
    refine A_icmp_eq C (pc := 184) 215 (by decide) dX7_near_184 hf (fun _ hf => ?_) (fun _ hf => ?_)
    · refine A_iload C (pc := 215) 5 rfl dX7_near_215 ?_
      refine A_goto C (pc := 217) 222 (by decide) dX7_near_217 ?_
      refine A_istore C (pc := 222) [(0, .ref (B + 47)), (1, .int x1), (2, .int x2), (5, .int x5), (6, .int x7), (7, .int x7)] (by decide) [1, 2, 3, 4, 0, 5] rfl dX7_near_222 ?_
      refine A_iinc C (pc := 224) (k0 := 5) [(0, .ref (B + 47)), (1, .int x1), (2, .int x2), (5, .int x5), (6, .int x7), (7, .int (x7 + 1))] rfl ic_1 (by decide) [1, 2, 3, 4, 5, 0] rfl dX7_near_224 ?_
      refine A_goto C (pc := 227) 120 (by decide) dX7_near_227 ?_
      exact hk120 _ _ hf
    · refine A_iload C (pc := 187) 3 rfl dX7_near_187 ?_
      refine A_if_eq C (pc := 189) 205 (by decide) dX7_near_189 hf (fun _ hf => ?_) (fun _ hf => ?_)
      · refine A_iload C (pc := 205) 5 rfl dX7_near_205 ?_
        refine A_iload C (pc := 207) 4 rfl dX7_near_207 ?_
        obtain ⟨z209, h209, hf⟩ := bd_i hf
        refine A_callS1 C (pc := 209) (A := [.int x7, .int x6]) (rest := []) k_X7_121 ky_X7_isAhead ks_X7_isAhead (m_X7_isAhead l B D Y o  h209) rfl rfl (Nat.le_of_ble_eq_true rfl) ⟨rfl, rfl, Nat.le_of_ble_eq_true rfl, Nat.le_of_ble_eq_true rfl⟩ ⟨Nat.zero_le _, Nat.zero_le _⟩ dX7_near_209 ?_
        refine A_if_eq C (pc := 212) 220 (by decide) dX7_near_212 hf (fun _ hf => ?_) (fun _ hf => ?_)
        · refine A_iload C (pc := 220) 4 rfl dX7_near_220 ?_
          refine A_istore C (pc := 222) [(0, .ref (B + 47)), (1, .int x1), (2, .int x2), (5, .int x5), (6, .int x6), (7, .int x7)] (by decide) [1, 2, 3, 4, 0, 5] rfl dX7_near_222 ?_
          refine A_iinc C (pc := 224) (k0 := 5) [(0, .ref (B + 47)), (1, .int x1), (2, .int x2), (5, .int x5), (6, .int x6), (7, .int (x7 + 1))] rfl ic_1 (by decide) [1, 2, 3, 4, 5, 0] rfl dX7_near_224 ?_
          refine A_goto C (pc := 227) 120 (by decide) dX7_near_227 ?_
          exact hk120 _ _ hf
        · refine A_iload C (pc := 215) 5 rfl dX7_near_215 ?_
          refine A_goto C (pc := 217) 222 (by decide) dX7_near_217 ?_
          refine A_istore C (pc := 222) [(0, .ref (B + 47)), (1, .int x1), (2, .int x2), (5, .int x5), (6, .int x7), (7, .int x7)] (by decide) [1, 2, 3, 4, 0, 5] rfl dX7_near_222 ?_
          refine A_iinc C (pc := 224) (k0 := 5) [(0, .ref (B + 47)), (1, .int x1), (2, .int x2), (5, .int x5), (6, .int x7), (7, .int (x7 + 1))] rfl ic_1 (by decide) [1, 2, 3, 4, 5, 0] rfl dX7_near_224 ?_
          refine A_goto C (pc := 227) 120 (by decide) dX7_near_227 ?_
          exact hk120 _ _ hf
      · refine A_iload C (pc := 192) 4 rfl dX7_near_192 ?_
        refine A_iload C (pc := 194) 5 rfl dX7_near_194 ?_
        obtain ⟨z196, h196, hf⟩ := bd_i hf
        refine A_callS1 C (pc := 196) (A := [.int x6, .int x7]) (rest := []) k_X7_121 ky_X7_isAhead ks_X7_isAhead (m_X7_isAhead l B D Y o  h196) rfl rfl (Nat.le_of_ble_eq_true rfl) ⟨rfl, rfl, Nat.le_of_ble_eq_true rfl, Nat.le_of_ble_eq_true rfl⟩ ⟨Nat.zero_le _, Nat.zero_le _⟩ dX7_near_196 ?_
        refine A_if_eq C (pc := 199) 220 (by decide) dX7_near_199 hf (fun _ hf => ?_) (fun _ hf => ?_)
        · refine A_iload C (pc := 220) 4 rfl dX7_near_220 ?_
          refine A_istore C (pc := 222) [(0, .ref (B + 47)), (1, .int x1), (2, .int x2), (5, .int x5), (6, .int x6), (7, .int x7)] (by decide) [1, 2, 3, 4, 0, 5] rfl dX7_near_222 ?_
          refine A_iinc C (pc := 224) (k0 := 5) [(0, .ref (B + 47)), (1, .int x1), (2, .int x2), (5, .int x5), (6, .int x6), (7, .int (x7 + 1))] rfl ic_1 (by decide) [1, 2, 3, 4, 5, 0] rfl dX7_near_224 ?_
          refine A_goto C (pc := 227) 120 (by decide) dX7_near_227 ?_
          exact hk120 _ _ hf
        · refine A_goto C (pc := 202) 215 (by decide) dX7_near_202 ?_
          refine A_iload C (pc := 215) 5 rfl dX7_near_215 ?_
          refine A_goto C (pc := 217) 222 (by decide) dX7_near_217 ?_
          refine A_istore C (pc := 222) [(0, .ref (B + 47)), (1, .int x1), (2, .int x2), (5, .int x5), (6, .int x7), (7, .int x7)] (by decide) [1, 2, 3, 4, 0, 5] rfl dX7_near_222 ?_
          refine A_iinc C (pc := 224) (k0 := 5) [(0, .ref (B + 47)), (1, .int x1), (2, .int x2), (5, .int x5), (6, .int x7), (7, .int (x7 + 1))] rfl ic_1 (by decide) [1, 2, 3, 4, 5, 0] rfl dX7_near_224 ?_
          refine A_goto C (pc := 227) 120 (by decide) dX7_near_227 ?_
          exact hk120 _ _ hf
set_option maxRecDepth 100000 in
theorem w_X7_near_L173 {M : Mem} {x1 : Int32} {x2 : Int32} {x5 : Int32} {x6 : Int32} {x7 : Int32} {r : Int32 × Mem} (C : Cx p s m args c cX7_near 9 RX7 B D Y) (hr : meth.sig.returnType = (some .int)) (hk : meth.locks = false)  {k120 : (Int32 × Int32) → Option (Int32 × Mem)} (hk120 : ∀ (x6 : Int32) (x7 : Int32), k120 (x6, x7) = some r → At p l e rm_X7_near s m args below meth c 9 0 0 (QQ below args s B D Y r.2 o (some (.int r.1))) B D Y o 120 M [(0, .ref (B + 47)), (1, .int x1), (2, .int x2), (5, .int x5), (6, .int x6), (7, .int x7)] []) (hf : f_X7_near_L173 M x1 x2 x5 x6 x7 k120 = some r) : At p l e rm_X7_near s m args below meth c 9 0 0 (QQ below args s B D Y r.2 o (some (.int r.1))) B D Y o 173 M [(0, .ref (B + 47)), (1, .int x1), (2, .int x2), (5, .int x5), (6, .int x6), (7, .int x7)] [] := by
  dsimp only [f_X7_near_L173] at hf
  refine A_iconst C (pc := 173) ic_0 dX7_near_173 ?_
  exact w_X7_near_L174 C hr hk hk120 hf
set_option maxRecDepth 100000 in
theorem w_X7_near_L169 {M : Mem} {x1 : Int32} {x2 : Int32} {x5 : Int32} {x6 : Int32} {x7 : Int32} {r : Int32 × Mem} (C : Cx p s m args c cX7_near 9 RX7 B D Y) (hr : meth.sig.returnType = (some .int)) (hk : meth.locks = false)  {k120 : (Int32 × Int32) → Option (Int32 × Mem)} (hk120 : ∀ (x6 : Int32) (x7 : Int32), k120 (x6, x7) = some r → At p l e rm_X7_near s m args below meth c 9 0 0 (QQ below args s B D Y r.2 o (some (.int r.1))) B D Y o 120 M [(0, .ref (B + 47)), (1, .int x1), (2, .int x2), (5, .int x5), (6, .int x6), (7, .int x7)] []) (hf : f_X7_near_L169 M x1 x2 x5 x6 x7 k120 = some r) : At p l e rm_X7_near s m args below meth c 9 0 0 (QQ below args s B D Y r.2 o (some (.int r.1))) B D Y o 169 M [(0, .ref (B + 47)), (1, .int x1), (2, .int x2), (5, .int x5), (6, .int x6), (7, .int x7)] [] := by
  dsimp only [f_X7_near_L169] at hf
  refine A_iconst C (pc := 169) ic_1 dX7_near_169 ?_
  refine A_goto C (pc := 170) 174 (by decide) dX7_near_170 ?_
  exact w_X7_near_L174 C hr hk hk120 hf
set_option maxRecDepth 100000 in
theorem w_X7_near_L120 {M : Mem} {x1 : Int32} {x2 : Int32} {x5 : Int32} {r : Int32 × Mem} (C : Cx p s m args c cX7_near 9 RX7 B D Y) (hr : meth.sig.returnType = (some .int)) (hk : meth.locks = false)  : ∀ (n : Nat) (x6 : Int32) (x7 : Int32), f_X7_near_L120 M x1 x2 x5 n (x6, x7) = some r → At p l e rm_X7_near s m args below meth c 9 0 0 (QQ below args s B D Y r.2 o (some (.int r.1))) B D Y o 120 M [(0, .ref (B + 47)), (1, .int x1), (2, .int x2), (5, .int x5), (6, .int x6), (7, .int x7)] [] := by
  intro n
  induction n with
  | zero => intro x6 x7 hf; exact nomatch (show (none : Option (Int32 × Mem)) = some r from hf)
  | succ n hk120 =>
    intro x6 x7 hf
    replace hf : g_X7_near_L120 M x1 x2 x5 (f_X7_near_L120 M x1 x2 x5 n) (x6, x7) = some r := hf
    dsimp only [g_X7_near_L120] at hf
    refine A_iload C (pc := 120) 5 rfl dX7_near_120 ?_
    refine A_iconst C (pc := 122) ic_1 dX7_near_122 ?_
    refine A_aload_n C (pc := 123) 0 rfl dX7_near_123 ?_
    refine A_g7_0 C (pc := 124) kf_X7_9 dX7_near_124 ?_
    refine A_iload_n C (pc := 127) 1 rfl dX7_near_127 ?_
    obtain ⟨c128, hf⟩ := chk_i hf
    refine A_iald C (pc := 128) (show IA 48 5 from ⟨rfl, rfl⟩) c128 dX7_near_128 ?_
    refine A_ishl C (pc := 129) dX7_near_129 ?_
    refine A_icmp_ge C (pc := 130) 230 (by decide) dX7_near_130 hf (fun _ hf => ?_) (fun _ hf => ?_)
    · refine A_iload C (pc := 230) 4 rfl dX7_near_230 ?_
      exact R_iM C (pc := 232) hr hk rfl dX7_near_232 hf
    · refine A_aload_n C (pc := 133) 0 rfl dX7_near_133 ?_
      refine A_iload_n C (pc := 134) 1 rfl dX7_near_134 ?_
      refine A_iload C (pc := 135) 5 rfl dX7_near_135 ?_
      obtain ⟨z137, h137, hf⟩ := bd_i hf
      refine A_callV1 C (pc := 137) (A := [.int x1, .int x7]) (rest := []) k_X7_124 ky_X7_isClosed kv_X7_isClosed (m_X7_isClosed l B D Y o  h137) (by decide) rfl rfl rfl rfl (Nat.le_of_ble_eq_true rfl) ⟨rfl, rfl, Nat.le_of_ble_eq_true rfl, Nat.le_of_ble_eq_true rfl⟩ ⟨Nat.zero_le _, Nat.zero_le _⟩ dX7_near_137 ?_
      refine A_if_eq C (pc := 140) 173 (by decide) dX7_near_140 hf (fun _ hf => ?_) (fun _ hf => ?_)
      · exact w_X7_near_L173 C hr hk hk120 hf
      · refine A_iload C (pc := 143) 3 rfl dX7_near_143 ?_
        refine A_if_eq C (pc := 145) 160 (by decide) dX7_near_145 hf (fun _ hf => ?_) (fun _ hf => ?_)
        · refine A_iload_n C (pc := 160) 2 rfl dX7_near_160 ?_
          refine A_iload C (pc := 161) 5 rfl dX7_near_161 ?_
          obtain ⟨z163, h163, hf⟩ := bd_i hf
          refine A_callS1 C (pc := 163) (A := [.int x2, .int x7]) (rest := []) k_X7_121 ky_X7_isAhead ks_X7_isAhead (m_X7_isAhead l B D Y o  h163) rfl rfl (Nat.le_of_ble_eq_true rfl) ⟨rfl, rfl, Nat.le_of_ble_eq_true rfl, Nat.le_of_ble_eq_true rfl⟩ ⟨Nat.zero_le _, Nat.zero_le _⟩ dX7_near_163 ?_
          refine A_if_eq C (pc := 166) 173 (by decide) dX7_near_166 hf (fun _ hf => ?_) (fun _ hf => ?_)
          · exact w_X7_near_L173 C hr hk hk120 hf
          · exact w_X7_near_L169 C hr hk hk120 hf
        · refine A_iload C (pc := 148) 5 rfl dX7_near_148 ?_
          refine A_iload_n C (pc := 150) 2 rfl dX7_near_150 ?_
          obtain ⟨z151, h151, hf⟩ := bd_i hf
          refine A_callS1 C (pc := 151) (A := [.int x7, .int x2]) (rest := []) k_X7_121 ky_X7_isAhead ks_X7_isAhead (m_X7_isAhead l B D Y o  h151) rfl rfl (Nat.le_of_ble_eq_true rfl) ⟨rfl, rfl, Nat.le_of_ble_eq_true rfl, Nat.le_of_ble_eq_true rfl⟩ ⟨Nat.zero_le _, Nat.zero_le _⟩ dX7_near_151 ?_
          refine A_if_eq C (pc := 154) 173 (by decide) dX7_near_154 hf (fun _ hf => ?_) (fun _ hf => ?_)
          · exact w_X7_near_L173 C hr hk hk120 hf
          · refine A_goto C (pc := 157) 169 (by decide) dX7_near_157 ?_
            exact w_X7_near_L169 C hr hk hk120 hf
set_option maxRecDepth 100000 in
theorem w_X7_near_L89 {M : Mem} {x1 : Int32} {x2 : Int32} {x3 : Int32} {y0 : Int32} {r : Int32 × Mem} (C : Cx p s m args c cX7_near 9 RX7 B D Y) (hr : meth.sig.returnType = (some .int)) (hk : meth.locks = false)  (hf : f_X7_near_L89 M x1 x2 x3 y0 = some r) : At p l e rm_X7_near s m args below meth c 9 0 0 (QQ below args s B D Y r.2 o (some (.int r.1))) B D Y o 89 M [(0, .ref (B + 47)), (1, .int x1), (2, .int x2), (3, .int x3)] [.int y0] := by
  dsimp only [f_X7_near_L89] at hf
  refine A_istore C (pc := 89) [(0, .ref (B + 47)), (1, .int x1), (2, .int x2), (3, .int x3), (5, .int y0)] (by decide) [1, 2, 3, 4, 0] rfl dX7_near_89 ?_
  refine A_iload_n C (pc := 91) 3 rfl dX7_near_91 ?_
  refine A_bipush C (pc := 92) bc_102 dX7_near_92 ?_
  refine A_icmp_eq C (pc := 94) 103 (by decide) dX7_near_94 hf (fun _ hf => ?_) (fun _ hf => ?_)
  · refine A_aload_n C (pc := 103) 0 rfl dX7_near_103 ?_
    refine A_iload_n C (pc := 104) 1 rfl dX7_near_104 ?_
    refine A_iload_n C (pc := 105) 2 rfl dX7_near_105 ?_
    obtain ⟨z106, h106, hf⟩ := bd_i hf
    refine A_callV1 C (pc := 106) (A := [.int x1, .int x2]) (rest := []) k_X7_124 ky_X7_isClosed kv_X7_isClosed (m_X7_isClosed l B D Y o  h106) (by decide) rfl rfl rfl rfl (Nat.le_of_ble_eq_true rfl) ⟨rfl, rfl, Nat.le_of_ble_eq_true rfl, Nat.le_of_ble_eq_true rfl⟩ ⟨Nat.zero_le _, Nat.zero_le _⟩ dX7_near_106 ?_
    refine A_if_eq C (pc := 109) 114 (by decide) dX7_near_109 hf (fun _ hf => ?_) (fun _ hf => ?_)
    · refine A_iconst C (pc := 114) ic_m1 dX7_near_114 ?_
      refine A_istore C (pc := 115) [(0, .ref (B + 47)), (1, .int x1), (2, .int x2), (5, .int y0), (6, .int ((-1)))] (by decide) [1, 2, 3, 5, 0] rfl dX7_near_115 ?_
      refine A_iconst C (pc := 117) ic_0 dX7_near_117 ?_
      refine A_istore C (pc := 118) [(0, .ref (B + 47)), (1, .int x1), (2, .int x2), (5, .int y0), (6, .int ((-1))), (7, .int 0)] (by decide) [1, 2, 3, 4, 5, 0] rfl dX7_near_118 ?_
      exact w_X7_near_L120 C hr hk FU _ _  hf
    · refine A_iload_n C (pc := 112) 2 rfl dX7_near_112 ?_
      exact R_iM C (pc := 113) hr hk rfl dX7_near_113 hf
  · refine A_iload_n C (pc := 97) 3 rfl dX7_near_97 ?_
    refine A_bipush C (pc := 98) bc_99 dX7_near_98 ?_
    refine A_icmp_ne C (pc := 100) 114 (by decide) dX7_near_100 hf (fun _ hf => ?_) (fun _ hf => ?_)
    · refine A_iconst C (pc := 114) ic_m1 dX7_near_114 ?_
      refine A_istore C (pc := 115) [(0, .ref (B + 47)), (1, .int x1), (2, .int x2), (5, .int y0), (6, .int ((-1)))] (by decide) [1, 2, 3, 5, 0] rfl dX7_near_115 ?_
      refine A_iconst C (pc := 117) ic_0 dX7_near_117 ?_
      refine A_istore C (pc := 118) [(0, .ref (B + 47)), (1, .int x1), (2, .int x2), (5, .int y0), (6, .int ((-1))), (7, .int 0)] (by decide) [1, 2, 3, 4, 5, 0] rfl dX7_near_118 ?_
      exact w_X7_near_L120 C hr hk FU _ _  hf
    · refine A_aload_n C (pc := 103) 0 rfl dX7_near_103 ?_
      refine A_iload_n C (pc := 104) 1 rfl dX7_near_104 ?_
      refine A_iload_n C (pc := 105) 2 rfl dX7_near_105 ?_
      obtain ⟨z106, h106, hf⟩ := bd_i hf
      refine A_callV1 C (pc := 106) (A := [.int x1, .int x2]) (rest := []) k_X7_124 ky_X7_isClosed kv_X7_isClosed (m_X7_isClosed l B D Y o  h106) (by decide) rfl rfl rfl rfl (Nat.le_of_ble_eq_true rfl) ⟨rfl, rfl, Nat.le_of_ble_eq_true rfl, Nat.le_of_ble_eq_true rfl⟩ ⟨Nat.zero_le _, Nat.zero_le _⟩ dX7_near_106 ?_
      refine A_if_eq C (pc := 109) 114 (by decide) dX7_near_109 hf (fun _ hf => ?_) (fun _ hf => ?_)
      · refine A_iconst C (pc := 114) ic_m1 dX7_near_114 ?_
        refine A_istore C (pc := 115) [(0, .ref (B + 47)), (1, .int x1), (2, .int x2), (5, .int y0), (6, .int ((-1)))] (by decide) [1, 2, 3, 5, 0] rfl dX7_near_115 ?_
        refine A_iconst C (pc := 117) ic_0 dX7_near_117 ?_
        refine A_istore C (pc := 118) [(0, .ref (B + 47)), (1, .int x1), (2, .int x2), (5, .int y0), (6, .int ((-1))), (7, .int 0)] (by decide) [1, 2, 3, 4, 5, 0] rfl dX7_near_118 ?_
        exact w_X7_near_L120 C hr hk FU _ _  hf
      · refine A_iload_n C (pc := 112) 2 rfl dX7_near_112 ?_
        exact R_iM C (pc := 113) hr hk rfl dX7_near_113 hf
set_option maxRecDepth 100000 in
theorem w_X7_near_L84 {M : Mem} {x1 : Int32} {x2 : Int32} {x3 : Int32} {r : Int32 × Mem} (C : Cx p s m args c cX7_near 9 RX7 B D Y) (hr : meth.sig.returnType = (some .int)) (hk : meth.locks = false)  (hf : f_X7_near_L84 M x1 x2 x3 = some r) : At p l e rm_X7_near s m args below meth c 9 0 0 (QQ below args s B D Y r.2 o (some (.int r.1))) B D Y o 84 M [(0, .ref (B + 47)), (1, .int x1), (2, .int x2), (3, .int x3)] [] := by
  dsimp only [f_X7_near_L84] at hf
  refine A_iconst C (pc := 84) ic_1 dX7_near_84 ?_
  refine A_goto C (pc := 85) 89 (by decide) dX7_near_85 ?_
  exact w_X7_near_L89 C hr hk hf
set_option maxRecDepth 100000 in
theorem w_X7_near_L63 {M : Mem} {x1 : Int32} {x2 : Int32} {x3 : Int32} {y0 : Int32} {r : Int32 × Mem} (C : Cx p s m args c cX7_near 9 RX7 B D Y) (hr : meth.sig.returnType = (some .int)) (hk : meth.locks = false)  (hf : f_X7_near_L63 M x1 x2 x3 y0 = some r) : At p l e rm_X7_near s m args below meth c 9 0 0 (QQ below args s B D Y r.2 o (some (.int r.1))) B D Y o 63 M [(0, .ref (B + 47)), (1, .int x1), (2, .int x2), (3, .int x3)] [.int y0, .ref (B + 47)] := by
  dsimp only [f_X7_near_L63] at hf
  refine A_iconst C (pc := 63) ic_2 dX7_near_63 ?_
  obtain ⟨z64, h64, hf⟩ := bd_i hf
  refine A_callV1 C (pc := 64) (A := [.int y0, .int 2]) (rest := []) k_X7_51 ky_X7_lets kv_X7_lets (m_X7_lets l B D Y o  h64) (by decide) rfl rfl rfl rfl (Nat.le_of_ble_eq_true rfl) ⟨rfl, rfl, Nat.le_of_ble_eq_true rfl, Nat.le_of_ble_eq_true rfl⟩ ⟨Nat.zero_le _, Nat.zero_le _⟩ dX7_near_64 ?_
  refine A_if_ne C (pc := 67) 72 (by decide) dX7_near_67 hf (fun _ hf => ?_) (fun _ hf => ?_)
  · refine A_iload_n C (pc := 72) 3 rfl dX7_near_72 ?_
    refine A_bipush C (pc := 73) bc_108 dX7_near_73 ?_
    refine A_icmp_eq C (pc := 75) 84 (by decide) dX7_near_75 hf (fun _ hf => ?_) (fun _ hf => ?_)
    · exact w_X7_near_L84 C hr hk hf
    · refine A_iload_n C (pc := 78) 3 rfl dX7_near_78 ?_
      refine A_bipush C (pc := 79) bc_102 dX7_near_79 ?_
      refine A_icmp_ne C (pc := 81) 88 (by decide) dX7_near_81 hf (fun _ hf => ?_) (fun _ hf => ?_)
      · refine A_iconst C (pc := 88) ic_0 dX7_near_88 ?_
        exact w_X7_near_L89 C hr hk hf
      · exact w_X7_near_L84 C hr hk hf
  · refine A_iconst C (pc := 70) ic_0 dX7_near_70 ?_
    exact R_iM C (pc := 71) hr hk rfl dX7_near_71 hf
set_option maxRecDepth 100000 in
theorem w_X7_near_L62 {M : Mem} {x1 : Int32} {x2 : Int32} {x3 : Int32} {r : Int32 × Mem} (C : Cx p s m args c cX7_near 9 RX7 B D Y) (hr : meth.sig.returnType = (some .int)) (hk : meth.locks = false)  (hf : f_X7_near_L62 M x1 x2 x3 = some r) : At p l e rm_X7_near s m args below meth c 9 0 0 (QQ below args s B D Y r.2 o (some (.int r.1))) B D Y o 62 M [(0, .ref (B + 47)), (1, .int x1), (2, .int x2), (3, .int x3)] [.ref (B + 47)] := by
  dsimp only [f_X7_near_L62] at hf
  refine A_iconst C (pc := 62) ic_0 dX7_near_62 ?_
  exact w_X7_near_L63 C hr hk hf
set_option maxRecDepth 100000 in
theorem w_X7_near_L29 {M : Mem} {x1 : Int32} {x2 : Int32} {x3 : Int32} {y0 : Int32} {r : Int32 × Mem} (C : Cx p s m args c cX7_near 9 RX7 B D Y) (hr : meth.sig.returnType = (some .int)) (hk : meth.locks = false)  (hf : f_X7_near_L29 M x1 x2 x3 y0 = some r) : At p l e rm_X7_near s m args below meth c 9 0 0 (QQ below args s B D Y r.2 o (some (.int r.1))) B D Y o 29 M [(0, .ref (B + 47)), (1, .int x1), (2, .int x2), (3, .int x3)] [.int y0] := by
  dsimp only [f_X7_near_L29] at hf
  refine A_istore C (pc := 29) [(0, .ref (B + 47)), (1, .int x1), (2, .int x2), (3, .int x3), (4, .int y0)] (by decide) [1, 2, 3, 4, 0] rfl dX7_near_29 ?_
  refine A_aload_n C (pc := 31) 0 rfl dX7_near_31 ?_
  refine A_iload_n C (pc := 32) 1 rfl dX7_near_32 ?_
  obtain ⟨z33, h33, hf⟩ := bd_i hf
  refine A_callS1 C (pc := 33) (A := [.int x1]) (rest := [.ref (B + 47)]) k_X7_43 ky_X7_isOrder ks_X7_isOrder (m_X7_isOrder l B D Y o  h33) rfl rfl (Nat.le_of_ble_eq_true rfl) ⟨rfl, rfl, Nat.le_of_ble_eq_true rfl, Nat.le_of_ble_eq_true rfl⟩ ⟨Nat.zero_le _, Nat.zero_le _⟩ dX7_near_33 ?_
  refine A_iconst C (pc := 36) ic_1 dX7_near_36 ?_
  obtain ⟨z37, h37, hf⟩ := bd_i hf
  refine A_callV1 C (pc := 37) (A := [.int z33, .int 1]) (rest := []) k_X7_51 ky_X7_lets kv_X7_lets (m_X7_lets l B D Y o  h37) (by decide) rfl rfl rfl rfl (Nat.le_of_ble_eq_true rfl) ⟨rfl, rfl, Nat.le_of_ble_eq_true rfl, Nat.le_of_ble_eq_true rfl⟩ ⟨Nat.zero_le _, Nat.zero_le _⟩ dX7_near_37 ?_
  refine A_if_eq C (pc := 40) 70 (by decide) dX7_near_40 hf (fun _ hf => ?_) (fun _ hf => ?_)
  · refine A_iconst C (pc := 70) ic_0 dX7_near_70 ?_
    exact R_iM C (pc := 71) hr hk rfl dX7_near_71 hf
  · refine A_aload_n C (pc := 43) 0 rfl dX7_near_43 ?_
    refine A_aload_n C (pc := 44) 0 rfl dX7_near_44 ?_
    refine A_iload_n C (pc := 45) 1 rfl dX7_near_45 ?_
    refine A_iload_n C (pc := 46) 2 rfl dX7_near_46 ?_
    obtain ⟨z47, h47, hf⟩ := bd_i hf
    refine A_callV1 C (pc := 47) (A := [.int x1, .int x2]) (rest := [.ref (B + 47)]) k_X7_72 ky_X7_isSet kv_X7_isSet (m_X7_isSet l B D Y o  h47) (by decide) rfl rfl rfl rfl (Nat.le_of_ble_eq_true rfl) ⟨rfl, rfl, Nat.le_of_ble_eq_true rfl, Nat.le_of_ble_eq_true rfl⟩ ⟨Nat.zero_le _, Nat.zero_le _⟩ dX7_near_47 ?_
    refine A_if_eq C (pc := 50) 62 (by decide) dX7_near_50 hf (fun _ hf => ?_) (fun _ hf => ?_)
    · refine A_sub [0, 1, 2, 3] rfl ?_
      exact w_X7_near_L62 C hr hk hf
    · refine A_iload C (pc := 53) 4 rfl dX7_near_53 ?_
      refine A_if_eq C (pc := 55) 62 (by decide) dX7_near_55 hf (fun _ hf => ?_) (fun _ hf => ?_)
      · refine A_sub [0, 1, 2, 3] rfl ?_
        exact w_X7_near_L62 C hr hk hf
      · refine A_iconst C (pc := 58) ic_1 dX7_near_58 ?_
        refine A_goto C (pc := 59) 63 (by decide) dX7_near_59 ?_
        refine A_sub [0, 1, 2, 3] rfl ?_
        exact w_X7_near_L63 C hr hk hf
set_option maxRecDepth 100000 in
theorem w_X7_near_L24 {M : Mem} {x1 : Int32} {x2 : Int32} {x3 : Int32} {r : Int32 × Mem} (C : Cx p s m args c cX7_near 9 RX7 B D Y) (hr : meth.sig.returnType = (some .int)) (hk : meth.locks = false)  (hf : f_X7_near_L24 M x1 x2 x3 = some r) : At p l e rm_X7_near s m args below meth c 9 0 0 (QQ below args s B D Y r.2 o (some (.int r.1))) B D Y o 24 M [(0, .ref (B + 47)), (1, .int x1), (2, .int x2), (3, .int x3)] [] := by
  dsimp only [f_X7_near_L24] at hf
  refine A_iconst C (pc := 24) ic_1 dX7_near_24 ?_
  refine A_goto C (pc := 25) 29 (by decide) dX7_near_25 ?_
  exact w_X7_near_L29 C hr hk hf
set_option maxRecDepth 100000 in
theorem m_X7_near (l : Launch) (B : Nat) (D : va_G) (Y : Nat → ClassId) (o : Ou) {M : Mem} {x1 : Int32} {x2 : Int32} {x3 : Int32} {r : Int32 × Mem}  (hf : f_X7_near M x1 x2 x3 = some r) : MW l yX7_near cX7_near 9 (some .int) rm_X7_near B D Y o [.ref (B + 47), .int x1, .int x2, .int x3] M r.2 (some (.int r.1)) := by
  refine ofAt (L0 := [(0, .ref (B + 47)), (1, .int x1), (2, .int x2), (3, .int x3)]) (by decide +kernel) (Nat.le_of_ble_eq_true rfl) rfl (fun p e s m args below meth c C hr hk => ?_)
  dsimp only [f_X7_near] at hf
  refine A_iload_n C (pc := 0) 3 rfl dX7_near_0 ?_
  refine A_bipush C (pc := 1) bc_108 dX7_near_1 ?_
  refine A_icmp_eq C (pc := 3) 24 (by decide) dX7_near_3 hf (fun _ hf => ?_) (fun _ hf => ?_)
  · exact w_X7_near_L24 C hr hk hf
  · refine A_iload_n C (pc := 6) 3 rfl dX7_near_6 ?_
    refine A_bipush C (pc := 7) bc_102 dX7_near_7 ?_
    refine A_icmp_eq C (pc := 9) 24 (by decide) dX7_near_9 hf (fun _ hf => ?_) (fun _ hf => ?_)
    · exact w_X7_near_L24 C hr hk hf
    · refine A_iload_n C (pc := 12) 3 rfl dX7_near_12 ?_
      refine A_bipush C (pc := 13) bc_99 dX7_near_13 ?_
      refine A_icmp_eq C (pc := 15) 24 (by decide) dX7_near_15 hf (fun _ hf => ?_) (fun _ hf => ?_)
      · exact w_X7_near_L24 C hr hk hf
      · refine A_iload_n C (pc := 18) 3 rfl dX7_near_18 ?_
        refine A_bipush C (pc := 19) bc_104 dX7_near_19 ?_
        refine A_icmp_ne C (pc := 21) 28 (by decide) dX7_near_21 hf (fun _ hf => ?_) (fun _ hf => ?_)
        · refine A_iconst C (pc := 28) ic_0 dX7_near_28 ?_
          exact w_X7_near_L29 C hr hk hf
        · exact w_X7_near_L24 C hr hk hf
set_option maxRecDepth 100000 in
theorem m_X7_closed (l : Launch) (B : Nat) (D : va_G) (Y : Nat → ClassId) (o : Ou) {M : Mem} {x1 : Int32} {x2 : Int32} {r : Int32 × Mem}  (hf : f_X7_closed M x1 x2 = some r) : MW l yX7_closed cX7_closed 3 (some .int) rm_X7_closed B D Y o [.ref (B + 47), .int x1, .int x2] M r.2 (some (.int r.1)) := by
  refine ofAt (L0 := [(0, .ref (B + 47)), (1, .int x1), (2, .int x2)]) (by decide +kernel) (Nat.le_of_ble_eq_true rfl) rfl (fun p e s m args below meth c C hr hk => ?_)
  dsimp only [f_X7_closed] at hf
  refine A_aload_n C (pc := 0) 0 rfl dX7_closed_0 ?_
  refine A_iload_n C (pc := 1) 1 rfl dX7_closed_1 ?_
  obtain ⟨z2, h2, hf⟩ := bd_i hf
  refine A_callS1 C (pc := 2) (A := [.int x1]) (rest := [.ref (B + 47)]) k_X7_43 ky_X7_isOrder ks_X7_isOrder (m_X7_isOrder l B D Y o  h2) rfl rfl (Nat.le_of_ble_eq_true rfl) ⟨rfl, rfl, Nat.le_of_ble_eq_true rfl, Nat.le_of_ble_eq_true rfl⟩ ⟨Nat.zero_le _, Nat.zero_le _⟩ dX7_closed_2 ?_
  refine A_iconst C (pc := 5) ic_1 dX7_closed_5 ?_
  obtain ⟨z6, h6, hf⟩ := bd_i hf
  refine A_callV1 C (pc := 6) (A := [.int z2, .int 1]) (rest := []) k_X7_51 ky_X7_lets kv_X7_lets (m_X7_lets l B D Y o  h6) (by decide) rfl rfl rfl rfl (Nat.le_of_ble_eq_true rfl) ⟨rfl, rfl, Nat.le_of_ble_eq_true rfl, Nat.le_of_ble_eq_true rfl⟩ ⟨Nat.zero_le _, Nat.zero_le _⟩ dX7_closed_6 ?_
  refine A_if_eq C (pc := 9) 35 (by decide) dX7_closed_9 hf (fun _ hf => ?_) (fun _ hf => ?_)
  · refine A_iconst C (pc := 35) ic_0 dX7_closed_35 ?_
    exact R_iM C (pc := 36) hr hk rfl dX7_closed_36 hf
  · refine A_aload_n C (pc := 12) 0 rfl dX7_closed_12 ?_
    refine A_aload_n C (pc := 13) 0 rfl dX7_closed_13 ?_
    refine A_iload_n C (pc := 14) 1 rfl dX7_closed_14 ?_
    refine A_iload_n C (pc := 15) 2 rfl dX7_closed_15 ?_
    obtain ⟨z16, h16, hf⟩ := bd_i hf
    refine A_callV1 C (pc := 16) (A := [.int x1, .int x2]) (rest := [.ref (B + 47)]) k_X7_72 ky_X7_isSet kv_X7_isSet (m_X7_isSet l B D Y o  h16) (by decide) rfl rfl rfl rfl (Nat.le_of_ble_eq_true rfl) ⟨rfl, rfl, Nat.le_of_ble_eq_true rfl, Nat.le_of_ble_eq_true rfl⟩ ⟨Nat.zero_le _, Nat.zero_le _⟩ dX7_closed_16 ?_
    refine A_iconst C (pc := 19) ic_2 dX7_closed_19 ?_
    obtain ⟨z20, h20, hf⟩ := bd_i hf
    refine A_callV1 C (pc := 20) (A := [.int z16, .int 2]) (rest := []) k_X7_51 ky_X7_lets kv_X7_lets (m_X7_lets l B D Y o  h20) (by decide) rfl rfl rfl rfl (Nat.le_of_ble_eq_true rfl) ⟨rfl, rfl, Nat.le_of_ble_eq_true rfl, Nat.le_of_ble_eq_true rfl⟩ ⟨Nat.zero_le _, Nat.zero_le _⟩ dX7_closed_20 ?_
    refine A_if_eq C (pc := 23) 35 (by decide) dX7_closed_23 hf (fun _ hf => ?_) (fun _ hf => ?_)
    · refine A_iconst C (pc := 35) ic_0 dX7_closed_35 ?_
      exact R_iM C (pc := 36) hr hk rfl dX7_closed_36 hf
    · refine A_aload_n C (pc := 26) 0 rfl dX7_closed_26 ?_
      refine A_iload_n C (pc := 27) 1 rfl dX7_closed_27 ?_
      refine A_iload_n C (pc := 28) 2 rfl dX7_closed_28 ?_
      obtain ⟨z29, h29, hf⟩ := bd_i hf
      refine A_callV1 C (pc := 29) (A := [.int x1, .int x2]) (rest := []) k_X7_118 ky_X7_closure kv_X7_closure (m_X7_closure l B D Y o  h29) (by decide) rfl rfl rfl rfl (Nat.le_of_ble_eq_true rfl) ⟨rfl, rfl, Nat.le_of_ble_eq_true rfl, Nat.le_of_ble_eq_true rfl⟩ ⟨Nat.zero_le _, Nat.zero_le _⟩ dX7_closed_29 ?_
      refine A_goto C (pc := 32) 36 (by decide) dX7_closed_32 ?_
      exact R_iM C (pc := 36) hr hk rfl dX7_closed_36 hf
set_option maxRecDepth 100000 in
theorem w_X7_inner_L33 {M : Mem} {x1 : Int32} {x2 : Int32} {r : Int32 × Mem} (C : Cx p s m args c cX7_inner 6 RX7 B D Y) (hr : meth.sig.returnType = (some .int)) (hk : meth.locks = false)  : ∀ (n : Nat) (x3 : Int32) (x4 : Int32), f_X7_inner_L33 M x1 x2 n (x3, x4) = some r → At p l e rm_X7_inner s m args below meth c 6 0 0 (QQ below args s B D Y r.2 o (some (.int r.1))) B D Y o 33 M [(0, .ref (B + 47)), (1, .int x1), (2, .int x2), (3, .int x3), (4, .int x4)] [] := by
  intro n
  induction n with
  | zero => intro x3 x4 hf; exact nomatch (show (none : Option (Int32 × Mem)) = some r from hf)
  | succ n hk33 =>
    intro x3 x4 hf
    replace hf : g_X7_inner_L33 M x1 x2 (f_X7_inner_L33 M x1 x2 n) (x3, x4) = some r := hf
    dsimp only [g_X7_inner_L33] at hf
    refine A_iload C (pc := 33) 4 rfl dX7_inner_33 ?_
    refine A_aload_n C (pc := 35) 0 rfl dX7_inner_35 ?_
    refine A_g7_0 C (pc := 36) kf_X7_9 dX7_inner_36 ?_
    refine A_iload_n C (pc := 39) 1 rfl dX7_inner_39 ?_
    obtain ⟨c40, hf⟩ := chk_i hf
    refine A_iald C (pc := 40) (show IA 48 5 from ⟨rfl, rfl⟩) c40 dX7_inner_40 ?_
    refine A_icmp_ge C (pc := 41) 84 (by decide) dX7_inner_41 hf (fun _ hf => ?_) (fun _ hf => ?_)
    · refine A_iload_n C (pc := 84) 3 rfl dX7_inner_84 ?_
      exact R_iM C (pc := 85) hr hk rfl dX7_inner_85 hf
    · refine A_aload_n C (pc := 44) 0 rfl dX7_inner_44 ?_
      refine A_iload_n C (pc := 45) 1 rfl dX7_inner_45 ?_
      refine A_iload C (pc := 46) 4 rfl dX7_inner_46 ?_
      obtain ⟨z48, h48, hf⟩ := bd_i hf
      refine A_callV1 C (pc := 48) (A := [.int x1, .int x4]) (rest := []) k_X7_95 ky_X7_lowerOf kv_X7_lowerOf (m_X7_lowerOf l B D Y o  h48) (by decide) rfl rfl rfl rfl (Nat.le_of_ble_eq_true rfl) ⟨rfl, rfl, Nat.le_of_ble_eq_true rfl, Nat.le_of_ble_eq_true rfl⟩ ⟨Nat.zero_le _, Nat.zero_le _⟩ dX7_inner_48 ?_
      refine A_iconst C (pc := 51) ic_1 dX7_inner_51 ?_
      refine A_iload C (pc := 52) 4 rfl dX7_inner_52 ?_
      refine A_ishl C (pc := 54) dX7_inner_54 ?_
      refine A_iadd C (pc := 55) dX7_inner_55 ?_
      obtain ⟨v56, e56, hf⟩ := bd_i hf
      refine A_nmI e56 ?_
      refine A_istore C (pc := 56) [(0, .ref (B + 47)), (1, .int x1), (2, .int x2), (3, .int x3), (4, .int x4), (5, .int v56)] (by decide) [1, 2, 3, 4, 5, 0] rfl dX7_inner_56 ?_
      refine A_iload_n C (pc := 58) 3 rfl dX7_inner_58 ?_
      refine A_iload C (pc := 59) 5 rfl dX7_inner_59 ?_
      refine A_iload_n C (pc := 61) 2 rfl dX7_inner_61 ?_
      refine A_iand C (pc := 62) dX7_inner_62 ?_
      refine A_iload C (pc := 63) 5 rfl dX7_inner_63 ?_
      refine A_icmp_ne C (pc := 65) 75 (by decide) dX7_inner_65 hf (fun _ hf => ?_) (fun _ hf => ?_)
      · refine A_iconst C (pc := 75) ic_0 dX7_inner_75 ?_
        refine A_iadd C (pc := 76) dX7_inner_76 ?_
        obtain ⟨v77, e77, hf⟩ := bd_i hf
        refine A_nmI e77 ?_
        refine A_istore_n C (pc := 77) [(0, .ref (B + 47)), (1, .int x1), (2, .int x2), (3, .int v77), (4, .int x4)] rfl (by decide) [1, 2, 3, 0, 4] rfl dX7_inner_77 ?_
        refine A_iinc C (pc := 78) (k0 := 4) [(0, .ref (B + 47)), (1, .int x1), (2, .int x2), (3, .int v77), (4, .int (x4 + 1))] rfl ic_1 (by decide) [1, 2, 3, 4, 0] rfl dX7_inner_78 ?_
        refine A_goto C (pc := 81) 33 (by decide) dX7_inner_81 ?_
        exact hk33 _ _ hf
      · refine A_iconst C (pc := 68) ic_1 dX7_inner_68 ?_
        refine A_iload C (pc := 69) 4 rfl dX7_inner_69 ?_
        refine A_ishl C (pc := 71) dX7_inner_71 ?_
        refine A_goto C (pc := 72) 76 (by decide) dX7_inner_72 ?_
        refine A_iadd C (pc := 76) dX7_inner_76 ?_
        obtain ⟨v77, e77, hf⟩ := bd_i hf
        refine A_nmI e77 ?_
        refine A_istore_n C (pc := 77) [(0, .ref (B + 47)), (1, .int x1), (2, .int x2), (3, .int v77), (4, .int x4)] rfl (by decide) [1, 2, 3, 0, 4] rfl dX7_inner_77 ?_
        refine A_iinc C (pc := 78) (k0 := 4) [(0, .ref (B + 47)), (1, .int x1), (2, .int x2), (3, .int v77), (4, .int (x4 + 1))] rfl ic_1 (by decide) [1, 2, 3, 4, 0] rfl dX7_inner_78 ?_
        refine A_goto C (pc := 81) 33 (by decide) dX7_inner_81 ?_
        exact hk33 _ _ hf
set_option maxRecDepth 100000 in
theorem m_X7_inner (l : Launch) (B : Nat) (D : va_G) (Y : Nat → ClassId) (o : Ou) {M : Mem} {x1 : Int32} {x2 : Int32} {r : Int32 × Mem}  (hf : f_X7_inner M x1 x2 = some r) : MW l yX7_inner cX7_inner 6 (some .int) rm_X7_inner B D Y o [.ref (B + 47), .int x1, .int x2] M r.2 (some (.int r.1)) := by
  refine ofAt (L0 := [(0, .ref (B + 47)), (1, .int x1), (2, .int x2)]) (by decide +kernel) (Nat.le_of_ble_eq_true rfl) rfl (fun p e s m args below meth c C hr hk => ?_)
  dsimp only [f_X7_inner] at hf
  refine A_aload_n C (pc := 0) 0 rfl dX7_inner_0 ?_
  refine A_iload_n C (pc := 1) 1 rfl dX7_inner_1 ?_
  obtain ⟨z2, h2, hf⟩ := bd_i hf
  refine A_callS1 C (pc := 2) (A := [.int x1]) (rest := [.ref (B + 47)]) k_X7_43 ky_X7_isOrder ks_X7_isOrder (m_X7_isOrder l B D Y o  h2) rfl rfl (Nat.le_of_ble_eq_true rfl) ⟨rfl, rfl, Nat.le_of_ble_eq_true rfl, Nat.le_of_ble_eq_true rfl⟩ ⟨Nat.zero_le _, Nat.zero_le _⟩ dX7_inner_2 ?_
  refine A_iconst C (pc := 5) ic_1 dX7_inner_5 ?_
  obtain ⟨z6, h6, hf⟩ := bd_i hf
  refine A_callV1 C (pc := 6) (A := [.int z2, .int 1]) (rest := []) k_X7_51 ky_X7_lets kv_X7_lets (m_X7_lets l B D Y o  h6) (by decide) rfl rfl rfl rfl (Nat.le_of_ble_eq_true rfl) ⟨rfl, rfl, Nat.le_of_ble_eq_true rfl, Nat.le_of_ble_eq_true rfl⟩ ⟨Nat.zero_le _, Nat.zero_le _⟩ dX7_inner_6 ?_
  refine A_if_eq C (pc := 9) 26 (by decide) dX7_inner_9 hf (fun _ hf => ?_) (fun _ hf => ?_)
  · refine A_iconst C (pc := 26) ic_0 dX7_inner_26 ?_
    exact R_iM C (pc := 27) hr hk rfl dX7_inner_27 hf
  · refine A_aload_n C (pc := 12) 0 rfl dX7_inner_12 ?_
    refine A_aload_n C (pc := 13) 0 rfl dX7_inner_13 ?_
    refine A_iload_n C (pc := 14) 1 rfl dX7_inner_14 ?_
    refine A_iload_n C (pc := 15) 2 rfl dX7_inner_15 ?_
    obtain ⟨z16, h16, hf⟩ := bd_i hf
    refine A_callV1 C (pc := 16) (A := [.int x1, .int x2]) (rest := [.ref (B + 47)]) k_X7_72 ky_X7_isSet kv_X7_isSet (m_X7_isSet l B D Y o  h16) (by decide) rfl rfl rfl rfl (Nat.le_of_ble_eq_true rfl) ⟨rfl, rfl, Nat.le_of_ble_eq_true rfl, Nat.le_of_ble_eq_true rfl⟩ ⟨Nat.zero_le _, Nat.zero_le _⟩ dX7_inner_16 ?_
    refine A_iconst C (pc := 19) ic_2 dX7_inner_19 ?_
    obtain ⟨z20, h20, hf⟩ := bd_i hf
    refine A_callV1 C (pc := 20) (A := [.int z16, .int 2]) (rest := []) k_X7_51 ky_X7_lets kv_X7_lets (m_X7_lets l B D Y o  h20) (by decide) rfl rfl rfl rfl (Nat.le_of_ble_eq_true rfl) ⟨rfl, rfl, Nat.le_of_ble_eq_true rfl, Nat.le_of_ble_eq_true rfl⟩ ⟨Nat.zero_le _, Nat.zero_le _⟩ dX7_inner_20 ?_
    refine A_if_ne C (pc := 23) 28 (by decide) dX7_inner_23 hf (fun _ hf => ?_) (fun _ hf => ?_)
    · refine A_iconst C (pc := 28) ic_0 dX7_inner_28 ?_
      refine A_istore_n C (pc := 29) [(0, .ref (B + 47)), (1, .int x1), (2, .int x2), (3, .int 0)] rfl (by decide) [1, 2, 3, 0] rfl dX7_inner_29 ?_
      refine A_iconst C (pc := 30) ic_0 dX7_inner_30 ?_
      refine A_istore C (pc := 31) [(0, .ref (B + 47)), (1, .int x1), (2, .int x2), (3, .int 0), (4, .int 0)] (by decide) [1, 2, 3, 4, 0] rfl dX7_inner_31 ?_
      exact w_X7_inner_L33 C hr hk FU _ _  hf
    · refine A_iconst C (pc := 26) ic_0 dX7_inner_26 ?_
      exact R_iM C (pc := 27) hr hk rfl dX7_inner_27 hf
set_option maxRecDepth 100000 in
theorem w_X7_tops_L45 {M : Mem} {x1 : Int32} {x2 : Int32} {r : Int32 × Mem} (C : Cx p s m args c cX7_tops 5 RX7 B D Y) (hr : meth.sig.returnType = (some .int)) (hk : meth.locks = false)  : ∀ (n : Nat) (x3 : Int32) (x4 : Int32), f_X7_tops_L45 M x1 x2 n (x3, x4) = some r → At p l e rm_X7_tops s m args below meth c 5 0 0 (QQ below args s B D Y r.2 o (some (.int r.1))) B D Y o 45 M [(0, .ref (B + 47)), (1, .int x1), (2, .int x2), (3, .int x3), (4, .int x4)] [] := by
  intro n
  induction n with
  | zero => intro x3 x4 hf; exact nomatch (show (none : Option (Int32 × Mem)) = some r from hf)
  | succ n hk45 =>
    intro x3 x4 hf
    replace hf : g_X7_tops_L45 M x1 x2 (f_X7_tops_L45 M x1 x2 n) (x3, x4) = some r := hf
    dsimp only [g_X7_tops_L45] at hf
    refine A_iload C (pc := 45) 4 rfl dX7_tops_45 ?_
    refine A_aload_n C (pc := 47) 0 rfl dX7_tops_47 ?_
    refine A_g7_0 C (pc := 48) kf_X7_9 dX7_tops_48 ?_
    refine A_iload_n C (pc := 51) 1 rfl dX7_tops_51 ?_
    obtain ⟨c52, hf⟩ := chk_i hf
    refine A_iald C (pc := 52) (show IA 48 5 from ⟨rfl, rfl⟩) c52 dX7_tops_52 ?_
    refine A_icmp_ge C (pc := 53) 94 (by decide) dX7_tops_53 hf (fun _ hf => ?_) (fun _ hf => ?_)
    · refine A_iload_n C (pc := 94) 3 rfl dX7_tops_94 ?_
      exact R_iM C (pc := 95) hr hk rfl dX7_tops_95 hf
    · refine A_iload_n C (pc := 56) 3 rfl dX7_tops_56 ?_
      refine A_iload_n C (pc := 57) 2 rfl dX7_tops_57 ?_
      refine A_iload C (pc := 58) 4 rfl dX7_tops_58 ?_
      obtain ⟨z60, h60, hf⟩ := bd_i hf
      refine A_callS1 C (pc := 60) (A := [.int x2, .int x4]) (rest := [.int x3]) k_X7_47 ky_X7_has ks_X7_has (m_X7_has l B D Y o  h60) rfl rfl (Nat.le_of_ble_eq_true rfl) ⟨rfl, rfl, Nat.le_of_ble_eq_true rfl, Nat.le_of_ble_eq_true rfl⟩ ⟨Nat.zero_le _, Nat.zero_le _⟩ dX7_tops_60 ?_
      refine A_if_eq C (pc := 63) 85 (by decide) dX7_tops_63 hf (fun _ hf => ?_) (fun _ hf => ?_)
      · refine A_iconst C (pc := 85) ic_0 dX7_tops_85 ?_
        refine A_iadd C (pc := 86) dX7_tops_86 ?_
        obtain ⟨v87, e87, hf⟩ := bd_i hf
        refine A_nmI e87 ?_
        refine A_istore_n C (pc := 87) [(0, .ref (B + 47)), (1, .int x1), (2, .int x2), (3, .int v87), (4, .int x4)] rfl (by decide) [1, 2, 3, 0, 4] rfl dX7_tops_87 ?_
        refine A_iinc C (pc := 88) (k0 := 4) [(0, .ref (B + 47)), (1, .int x1), (2, .int x2), (3, .int v87), (4, .int (x4 + 1))] rfl ic_1 (by decide) [1, 2, 3, 4, 0] rfl dX7_tops_88 ?_
        refine A_goto C (pc := 91) 45 (by decide) dX7_tops_91 ?_
        exact hk45 _ _ hf
      · refine A_aload_n C (pc := 66) 0 rfl dX7_tops_66 ?_
        refine A_iload_n C (pc := 67) 1 rfl dX7_tops_67 ?_
        refine A_iload C (pc := 68) 4 rfl dX7_tops_68 ?_
        obtain ⟨z70, h70, hf⟩ := bd_i hf
        refine A_callV1 C (pc := 70) (A := [.int x1, .int x4]) (rest := [.int x3]) k_X7_98 ky_X7_upperOf kv_X7_upperOf (m_X7_upperOf l B D Y o  h70) (by decide) rfl rfl rfl rfl (Nat.le_of_ble_eq_true rfl) ⟨rfl, rfl, Nat.le_of_ble_eq_true rfl, Nat.le_of_ble_eq_true rfl⟩ ⟨Nat.zero_le _, Nat.zero_le _⟩ dX7_tops_70 ?_
        refine A_iload_n C (pc := 73) 2 rfl dX7_tops_73 ?_
        refine A_iand C (pc := 74) dX7_tops_74 ?_
        refine A_if_ne C (pc := 75) 85 (by decide) dX7_tops_75 hf (fun _ hf => ?_) (fun _ hf => ?_)
        · refine A_iconst C (pc := 85) ic_0 dX7_tops_85 ?_
          refine A_iadd C (pc := 86) dX7_tops_86 ?_
          obtain ⟨v87, e87, hf⟩ := bd_i hf
          refine A_nmI e87 ?_
          refine A_istore_n C (pc := 87) [(0, .ref (B + 47)), (1, .int x1), (2, .int x2), (3, .int v87), (4, .int x4)] rfl (by decide) [1, 2, 3, 0, 4] rfl dX7_tops_87 ?_
          refine A_iinc C (pc := 88) (k0 := 4) [(0, .ref (B + 47)), (1, .int x1), (2, .int x2), (3, .int v87), (4, .int (x4 + 1))] rfl ic_1 (by decide) [1, 2, 3, 4, 0] rfl dX7_tops_88 ?_
          refine A_goto C (pc := 91) 45 (by decide) dX7_tops_91 ?_
          exact hk45 _ _ hf
        · refine A_iconst C (pc := 78) ic_1 dX7_tops_78 ?_
          refine A_iload C (pc := 79) 4 rfl dX7_tops_79 ?_
          refine A_ishl C (pc := 81) dX7_tops_81 ?_
          refine A_goto C (pc := 82) 86 (by decide) dX7_tops_82 ?_
          refine A_iadd C (pc := 86) dX7_tops_86 ?_
          obtain ⟨v87, e87, hf⟩ := bd_i hf
          refine A_nmI e87 ?_
          refine A_istore_n C (pc := 87) [(0, .ref (B + 47)), (1, .int x1), (2, .int x2), (3, .int v87), (4, .int x4)] rfl (by decide) [1, 2, 3, 0, 4] rfl dX7_tops_87 ?_
          refine A_iinc C (pc := 88) (k0 := 4) [(0, .ref (B + 47)), (1, .int x1), (2, .int x2), (3, .int v87), (4, .int (x4 + 1))] rfl ic_1 (by decide) [1, 2, 3, 4, 0] rfl dX7_tops_88 ?_
          refine A_goto C (pc := 91) 45 (by decide) dX7_tops_91 ?_
          exact hk45 _ _ hf
set_option maxRecDepth 100000 in
theorem m_X7_tops (l : Launch) (B : Nat) (D : va_G) (Y : Nat → ClassId) (o : Ou) {M : Mem} {x1 : Int32} {x2 : Int32} {r : Int32 × Mem}  (hf : f_X7_tops M x1 x2 = some r) : MW l yX7_tops cX7_tops 5 (some .int) rm_X7_tops B D Y o [.ref (B + 47), .int x1, .int x2] M r.2 (some (.int r.1)) := by
  refine ofAt (L0 := [(0, .ref (B + 47)), (1, .int x1), (2, .int x2)]) (by decide +kernel) (Nat.le_of_ble_eq_true rfl) rfl (fun p e s m args below meth c C hr hk => ?_)
  dsimp only [f_X7_tops] at hf
  refine A_aload_n C (pc := 0) 0 rfl dX7_tops_0 ?_
  refine A_iload_n C (pc := 1) 1 rfl dX7_tops_1 ?_
  obtain ⟨z2, h2, hf⟩ := bd_i hf
  refine A_callS1 C (pc := 2) (A := [.int x1]) (rest := [.ref (B + 47)]) k_X7_43 ky_X7_isOrder ks_X7_isOrder (m_X7_isOrder l B D Y o  h2) rfl rfl (Nat.le_of_ble_eq_true rfl) ⟨rfl, rfl, Nat.le_of_ble_eq_true rfl, Nat.le_of_ble_eq_true rfl⟩ ⟨Nat.zero_le _, Nat.zero_le _⟩ dX7_tops_2 ?_
  refine A_iconst C (pc := 5) ic_1 dX7_tops_5 ?_
  obtain ⟨z6, h6, hf⟩ := bd_i hf
  refine A_callV1 C (pc := 6) (A := [.int z2, .int 1]) (rest := []) k_X7_51 ky_X7_lets kv_X7_lets (m_X7_lets l B D Y o  h6) (by decide) rfl rfl rfl rfl (Nat.le_of_ble_eq_true rfl) ⟨rfl, rfl, Nat.le_of_ble_eq_true rfl, Nat.le_of_ble_eq_true rfl⟩ ⟨Nat.zero_le _, Nat.zero_le _⟩ dX7_tops_6 ?_
  refine A_if_eq C (pc := 9) 26 (by decide) dX7_tops_9 hf (fun _ hf => ?_) (fun _ hf => ?_)
  · refine A_iconst C (pc := 26) ic_0 dX7_tops_26 ?_
    exact R_iM C (pc := 27) hr hk rfl dX7_tops_27 hf
  · refine A_aload_n C (pc := 12) 0 rfl dX7_tops_12 ?_
    refine A_aload_n C (pc := 13) 0 rfl dX7_tops_13 ?_
    refine A_iload_n C (pc := 14) 1 rfl dX7_tops_14 ?_
    refine A_iload_n C (pc := 15) 2 rfl dX7_tops_15 ?_
    obtain ⟨z16, h16, hf⟩ := bd_i hf
    refine A_callV1 C (pc := 16) (A := [.int x1, .int x2]) (rest := [.ref (B + 47)]) k_X7_72 ky_X7_isSet kv_X7_isSet (m_X7_isSet l B D Y o  h16) (by decide) rfl rfl rfl rfl (Nat.le_of_ble_eq_true rfl) ⟨rfl, rfl, Nat.le_of_ble_eq_true rfl, Nat.le_of_ble_eq_true rfl⟩ ⟨Nat.zero_le _, Nat.zero_le _⟩ dX7_tops_16 ?_
    refine A_iconst C (pc := 19) ic_2 dX7_tops_19 ?_
    obtain ⟨z20, h20, hf⟩ := bd_i hf
    refine A_callV1 C (pc := 20) (A := [.int z16, .int 2]) (rest := []) k_X7_51 ky_X7_lets kv_X7_lets (m_X7_lets l B D Y o  h20) (by decide) rfl rfl rfl rfl (Nat.le_of_ble_eq_true rfl) ⟨rfl, rfl, Nat.le_of_ble_eq_true rfl, Nat.le_of_ble_eq_true rfl⟩ ⟨Nat.zero_le _, Nat.zero_le _⟩ dX7_tops_20 ?_
    refine A_if_ne C (pc := 23) 28 (by decide) dX7_tops_23 hf (fun _ hf => ?_) (fun _ hf => ?_)
    · refine A_aload_n C (pc := 28) 0 rfl dX7_tops_28 ?_
      refine A_iload_n C (pc := 29) 1 rfl dX7_tops_29 ?_
      refine A_iload_n C (pc := 30) 2 rfl dX7_tops_30 ?_
      obtain ⟨z31, h31, hf⟩ := bd_i hf
      refine A_callV1 C (pc := 31) (A := [.int x1, .int x2]) (rest := []) k_X7_124 ky_X7_isClosed kv_X7_isClosed (m_X7_isClosed l B D Y o  h31) (by decide) rfl rfl rfl rfl (Nat.le_of_ble_eq_true rfl) ⟨rfl, rfl, Nat.le_of_ble_eq_true rfl, Nat.le_of_ble_eq_true rfl⟩ ⟨Nat.zero_le _, Nat.zero_le _⟩ dX7_tops_31 ?_
      refine A_if_ne C (pc := 34) 40 (by decide) dX7_tops_34 hf (fun _ hf => ?_) (fun _ hf => ?_)
      · refine A_iconst C (pc := 40) ic_0 dX7_tops_40 ?_
        refine A_istore_n C (pc := 41) [(0, .ref (B + 47)), (1, .int x1), (2, .int x2), (3, .int 0)] rfl (by decide) [1, 2, 3, 0] rfl dX7_tops_41 ?_
        refine A_iconst C (pc := 42) ic_0 dX7_tops_42 ?_
        refine A_istore C (pc := 43) [(0, .ref (B + 47)), (1, .int x1), (2, .int x2), (3, .int 0), (4, .int 0)] (by decide) [1, 2, 3, 4, 0] rfl dX7_tops_43 ?_
        exact w_X7_tops_L45 C hr hk FU _ _  hf
      · refine A_bipush C (pc := 37) bc_m9 dX7_tops_37 ?_
        exact R_iM C (pc := 39) hr hk rfl dX7_tops_39 hf
    · refine A_iconst C (pc := 26) ic_0 dX7_tops_26 ?_
      exact R_iM C (pc := 27) hr hk rfl dX7_tops_27 hf
set_option maxRecDepth 100000 in
theorem w_X7_shared_L52 {M : Mem} {x1 : Int32} {x2 : Int32} {r : Int32 × Mem} (C : Cx p s m args c cX7_shared 5 RX7 B D Y) (hr : meth.sig.returnType = (some .int)) (hk : meth.locks = false)  : ∀ (n : Nat) (x3 : Int32) (x4 : Int32), f_X7_shared_L52 M x1 x2 n (x3, x4) = some r → At p l e rm_X7_shared s m args below meth c 5 0 0 (QQ below args s B D Y r.2 o (some (.int r.1))) B D Y o 52 M [(0, .ref (B + 47)), (1, .int x1), (2, .int x2), (3, .int x3), (4, .int x4)] [] := by
  intro n
  induction n with
  | zero => intro x3 x4 hf; exact nomatch (show (none : Option (Int32 × Mem)) = some r from hf)
  | succ n hk52 =>
    intro x3 x4 hf
    replace hf : g_X7_shared_L52 M x1 x2 (f_X7_shared_L52 M x1 x2 n) (x3, x4) = some r := hf
    dsimp only [g_X7_shared_L52] at hf
    refine A_iload C (pc := 52) 4 rfl dX7_shared_52 ?_
    refine A_iconst C (pc := 54) ic_1 dX7_shared_54 ?_
    refine A_aload_n C (pc := 55) 0 rfl dX7_shared_55 ?_
    refine A_g7_0 C (pc := 56) kf_X7_9 dX7_shared_56 ?_
    refine A_iload_n C (pc := 59) 1 rfl dX7_shared_59 ?_
    obtain ⟨c60, hf⟩ := chk_i hf
    refine A_iald C (pc := 60) (show IA 48 5 from ⟨rfl, rfl⟩) c60 dX7_shared_60 ?_
    refine A_ishl C (pc := 61) dX7_shared_61 ?_
    refine A_icmp_ge C (pc := 62) 99 (by decide) dX7_shared_62 hf (fun _ hf => ?_) (fun _ hf => ?_)
    · refine A_iload_n C (pc := 99) 3 rfl dX7_shared_99 ?_
      exact R_iM C (pc := 100) hr hk rfl dX7_shared_100 hf
    · refine A_iload_n C (pc := 65) 3 rfl dX7_shared_65 ?_
      refine A_aload_n C (pc := 66) 0 rfl dX7_shared_66 ?_
      refine A_iload_n C (pc := 67) 1 rfl dX7_shared_67 ?_
      refine A_iload C (pc := 68) 4 rfl dX7_shared_68 ?_
      obtain ⟨z70, h70, hf⟩ := bd_i hf
      refine A_callV1 C (pc := 70) (A := [.int x1, .int x4]) (rest := [.int x3]) k_X7_124 ky_X7_isClosed kv_X7_isClosed (m_X7_isClosed l B D Y o  h70) (by decide) rfl rfl rfl rfl (Nat.le_of_ble_eq_true rfl) ⟨rfl, rfl, Nat.le_of_ble_eq_true rfl, Nat.le_of_ble_eq_true rfl⟩ ⟨Nat.zero_le _, Nat.zero_le _⟩ dX7_shared_70 ?_
      refine A_if_eq C (pc := 73) 90 (by decide) dX7_shared_73 hf (fun _ hf => ?_) (fun _ hf => ?_)
      · refine A_iconst C (pc := 90) ic_0 dX7_shared_90 ?_
        refine A_iadd C (pc := 91) dX7_shared_91 ?_
        obtain ⟨v92, e92, hf⟩ := bd_i hf
        refine A_nmI e92 ?_
        refine A_istore_n C (pc := 92) [(0, .ref (B + 47)), (1, .int x1), (2, .int x2), (3, .int v92), (4, .int x4)] rfl (by decide) [1, 2, 3, 0, 4] rfl dX7_shared_92 ?_
        refine A_iinc C (pc := 93) (k0 := 4) [(0, .ref (B + 47)), (1, .int x1), (2, .int x2), (3, .int v92), (4, .int (x4 + 1))] rfl ic_1 (by decide) [1, 2, 3, 4, 0] rfl dX7_shared_93 ?_
        refine A_goto C (pc := 96) 52 (by decide) dX7_shared_96 ?_
        exact hk52 _ _ hf
      · refine A_aload_n C (pc := 76) 0 rfl dX7_shared_76 ?_
        refine A_iload_n C (pc := 77) 2 rfl dX7_shared_77 ?_
        refine A_iload C (pc := 78) 4 rfl dX7_shared_78 ?_
        obtain ⟨z80, h80, hf⟩ := bd_i hf
        refine A_callV1 C (pc := 80) (A := [.int x2, .int x4]) (rest := [.int x3]) k_X7_124 ky_X7_isClosed kv_X7_isClosed (m_X7_isClosed l B D Y o  h80) (by decide) rfl rfl rfl rfl (Nat.le_of_ble_eq_true rfl) ⟨rfl, rfl, Nat.le_of_ble_eq_true rfl, Nat.le_of_ble_eq_true rfl⟩ ⟨Nat.zero_le _, Nat.zero_le _⟩ dX7_shared_80 ?_
        refine A_if_eq C (pc := 83) 90 (by decide) dX7_shared_83 hf (fun _ hf => ?_) (fun _ hf => ?_)
        · refine A_iconst C (pc := 90) ic_0 dX7_shared_90 ?_
          refine A_iadd C (pc := 91) dX7_shared_91 ?_
          obtain ⟨v92, e92, hf⟩ := bd_i hf
          refine A_nmI e92 ?_
          refine A_istore_n C (pc := 92) [(0, .ref (B + 47)), (1, .int x1), (2, .int x2), (3, .int v92), (4, .int x4)] rfl (by decide) [1, 2, 3, 0, 4] rfl dX7_shared_92 ?_
          refine A_iinc C (pc := 93) (k0 := 4) [(0, .ref (B + 47)), (1, .int x1), (2, .int x2), (3, .int v92), (4, .int (x4 + 1))] rfl ic_1 (by decide) [1, 2, 3, 4, 0] rfl dX7_shared_93 ?_
          refine A_goto C (pc := 96) 52 (by decide) dX7_shared_96 ?_
          exact hk52 _ _ hf
        · refine A_iconst C (pc := 86) ic_1 dX7_shared_86 ?_
          refine A_goto C (pc := 87) 91 (by decide) dX7_shared_87 ?_
          refine A_iadd C (pc := 91) dX7_shared_91 ?_
          obtain ⟨v92, e92, hf⟩ := bd_i hf
          refine A_nmI e92 ?_
          refine A_istore_n C (pc := 92) [(0, .ref (B + 47)), (1, .int x1), (2, .int x2), (3, .int v92), (4, .int x4)] rfl (by decide) [1, 2, 3, 0, 4] rfl dX7_shared_92 ?_
          refine A_iinc C (pc := 93) (k0 := 4) [(0, .ref (B + 47)), (1, .int x1), (2, .int x2), (3, .int v92), (4, .int (x4 + 1))] rfl ic_1 (by decide) [1, 2, 3, 4, 0] rfl dX7_shared_93 ?_
          refine A_goto C (pc := 96) 52 (by decide) dX7_shared_96 ?_
          exact hk52 _ _ hf
set_option maxRecDepth 100000 in
theorem w_X7_shared_L20 {M : Mem} {x1 : Int32} {x2 : Int32} {y0 : Int32} {r : Int32 × Mem} (C : Cx p s m args c cX7_shared 5 RX7 B D Y) (hr : meth.sig.returnType = (some .int)) (hk : meth.locks = false)  (hf : f_X7_shared_L20 M x1 x2 y0 = some r) : At p l e rm_X7_shared s m args below meth c 5 0 0 (QQ below args s B D Y r.2 o (some (.int r.1))) B D Y o 20 M [(0, .ref (B + 47)), (1, .int x1), (2, .int x2)] [.int y0, .ref (B + 47)] := by
  dsimp only [f_X7_shared_L20] at hf
  refine A_iconst C (pc := 20) ic_1 dX7_shared_20 ?_
  obtain ⟨z21, h21, hf⟩ := bd_i hf
  refine A_callV1 C (pc := 21) (A := [.int y0, .int 1]) (rest := []) k_X7_51 ky_X7_lets kv_X7_lets (m_X7_lets l B D Y o  h21) (by decide) rfl rfl rfl rfl (Nat.le_of_ble_eq_true rfl) ⟨rfl, rfl, Nat.le_of_ble_eq_true rfl, Nat.le_of_ble_eq_true rfl⟩ ⟨Nat.zero_le _, Nat.zero_le _⟩ dX7_shared_21 ?_
  refine A_if_ne C (pc := 24) 29 (by decide) dX7_shared_24 hf (fun _ hf => ?_) (fun _ hf => ?_)
  · refine A_aload_n C (pc := 29) 0 rfl dX7_shared_29 ?_
    refine A_g7_0 C (pc := 30) kf_X7_9 dX7_shared_30 ?_
    refine A_iload_n C (pc := 33) 1 rfl dX7_shared_33 ?_
    obtain ⟨c34, hf⟩ := chk_i hf
    refine A_iald C (pc := 34) (show IA 48 5 from ⟨rfl, rfl⟩) c34 dX7_shared_34 ?_
    refine A_aload_n C (pc := 35) 0 rfl dX7_shared_35 ?_
    refine A_g7_0 C (pc := 36) kf_X7_9 dX7_shared_36 ?_
    refine A_iload_n C (pc := 39) 2 rfl dX7_shared_39 ?_
    obtain ⟨c40, hf⟩ := chk_i hf
    refine A_iald C (pc := 40) (show IA 48 5 from ⟨rfl, rfl⟩) c40 dX7_shared_40 ?_
    refine A_icmp_eq C (pc := 41) 47 (by decide) dX7_shared_41 hf (fun _ hf => ?_) (fun _ hf => ?_)
    · refine A_iconst C (pc := 47) ic_0 dX7_shared_47 ?_
      refine A_istore_n C (pc := 48) [(0, .ref (B + 47)), (1, .int x1), (2, .int x2), (3, .int 0)] rfl (by decide) [1, 2, 3, 0] rfl dX7_shared_48 ?_
      refine A_iconst C (pc := 49) ic_0 dX7_shared_49 ?_
      refine A_istore C (pc := 50) [(0, .ref (B + 47)), (1, .int x1), (2, .int x2), (3, .int 0), (4, .int 0)] (by decide) [1, 2, 3, 4, 0] rfl dX7_shared_50 ?_
      exact w_X7_shared_L52 C hr hk FU _ _  hf
    · refine A_bipush C (pc := 44) bc_m9 dX7_shared_44 ?_
      exact R_iM C (pc := 46) hr hk rfl dX7_shared_46 hf
  · refine A_iconst C (pc := 27) ic_0 dX7_shared_27 ?_
    exact R_iM C (pc := 28) hr hk rfl dX7_shared_28 hf
set_option maxRecDepth 100000 in
theorem w_X7_shared_L19 {M : Mem} {x1 : Int32} {x2 : Int32} {r : Int32 × Mem} (C : Cx p s m args c cX7_shared 5 RX7 B D Y) (hr : meth.sig.returnType = (some .int)) (hk : meth.locks = false)  (hf : f_X7_shared_L19 M x1 x2 = some r) : At p l e rm_X7_shared s m args below meth c 5 0 0 (QQ below args s B D Y r.2 o (some (.int r.1))) B D Y o 19 M [(0, .ref (B + 47)), (1, .int x1), (2, .int x2)] [.ref (B + 47)] := by
  dsimp only [f_X7_shared_L19] at hf
  refine A_iconst C (pc := 19) ic_0 dX7_shared_19 ?_
  exact w_X7_shared_L20 C hr hk hf
set_option maxRecDepth 100000 in
theorem m_X7_shared (l : Launch) (B : Nat) (D : va_G) (Y : Nat → ClassId) (o : Ou) {M : Mem} {x1 : Int32} {x2 : Int32} {r : Int32 × Mem}  (hf : f_X7_shared M x1 x2 = some r) : MW l yX7_shared cX7_shared 5 (some .int) rm_X7_shared B D Y o [.ref (B + 47), .int x1, .int x2] M r.2 (some (.int r.1)) := by
  refine ofAt (L0 := [(0, .ref (B + 47)), (1, .int x1), (2, .int x2)]) (by decide +kernel) (Nat.le_of_ble_eq_true rfl) rfl (fun p e s m args below meth c C hr hk => ?_)
  dsimp only [f_X7_shared] at hf
  refine A_aload_n C (pc := 0) 0 rfl dX7_shared_0 ?_
  refine A_iload_n C (pc := 1) 1 rfl dX7_shared_1 ?_
  obtain ⟨z2, h2, hf⟩ := bd_i hf
  refine A_callS1 C (pc := 2) (A := [.int x1]) (rest := [.ref (B + 47)]) k_X7_43 ky_X7_isOrder ks_X7_isOrder (m_X7_isOrder l B D Y o  h2) rfl rfl (Nat.le_of_ble_eq_true rfl) ⟨rfl, rfl, Nat.le_of_ble_eq_true rfl, Nat.le_of_ble_eq_true rfl⟩ ⟨Nat.zero_le _, Nat.zero_le _⟩ dX7_shared_2 ?_
  refine A_if_eq C (pc := 5) 19 (by decide) dX7_shared_5 hf (fun _ hf => ?_) (fun _ hf => ?_)
  · exact w_X7_shared_L19 C hr hk hf
  · refine A_iload_n C (pc := 8) 2 rfl dX7_shared_8 ?_
    obtain ⟨z9, h9, hf⟩ := bd_i hf
    refine A_callS1 C (pc := 9) (A := [.int x2]) (rest := [.ref (B + 47)]) k_X7_43 ky_X7_isOrder ks_X7_isOrder (m_X7_isOrder l B D Y o  h9) rfl rfl (Nat.le_of_ble_eq_true rfl) ⟨rfl, rfl, Nat.le_of_ble_eq_true rfl, Nat.le_of_ble_eq_true rfl⟩ ⟨Nat.zero_le _, Nat.zero_le _⟩ dX7_shared_9 ?_
    refine A_if_eq C (pc := 12) 19 (by decide) dX7_shared_12 hf (fun _ hf => ?_) (fun _ hf => ?_)
    · exact w_X7_shared_L19 C hr hk hf
    · refine A_iconst C (pc := 15) ic_1 dX7_shared_15 ?_
      refine A_goto C (pc := 16) 20 (by decide) dX7_shared_16 ?_
      exact w_X7_shared_L20 C hr hk hf
set_option maxRecDepth 100000 in
theorem w_X7_placeOfRow_L177 {M : Mem} {x3 : Int32} {x5 : Int32} {x6 : Int32} {x7 : Int32} {x8 : Int32} {x9 : Int32} {y0 : Int32} {r : Int32 × Mem} (C : Cx p s m args c cX7_placeOfRow 11 RX7 B D Y) (hr : meth.sig.returnType = (some .int)) (hk : meth.locks = false)  {k73 : (Int32 × Int32 × Int32) → Option (Int32 × Mem)} (hk73 : ∀ (x5 : Int32) (x6 : Int32) (x7 : Int32), k73 (x5, x6, x7) = some r → At p l e rm_X7_placeOfRow s m args below meth c 11 0 0 (QQ below args s B D Y r.2 o (some (.int r.1))) B D Y o 73 M [(0, .ref (B + 47)), (3, .int x3), (5, .int x5), (6, .int x6), (7, .int x7)] []) {k135 : (Int32 × Int32) → Option (Int32 × Mem)} (hk135 : ∀ (x5 : Int32) (x9 : Int32), k135 (x5, x9) = some r → At p l e rm_X7_placeOfRow s m args below meth c 11 0 0 (QQ below args s B D Y r.2 o (some (.int r.1))) B D Y o 135 M [(0, .ref (B + 47)), (3, .int x3), (5, .int x5), (6, .int x6), (7, .int x7), (8, .int x8), (9, .int x9)] []) (hf : f_X7_placeOfRow_L177 M x3 x5 x6 x7 x8 x9 y0 k73 k135 = some r) : At p l e rm_X7_placeOfRow s m args below meth c 11 0 0 (QQ below args s B D Y r.2 o (some (.int r.1))) B D Y o 177 M [(0, .ref (B + 47)), (3, .int x3), (5, .int x5), (6, .int x6), (7, .int x7), (8, .int x8), (9, .int x9)] [.int y0] := by
  dsimp only [f_X7_placeOfRow_L177] at hf
  refine A_istore C (pc := 177) [(0, .ref (B + 47)), (3, .int x3), (5, .int x5), (6, .int x6), (7, .int x7), (8, .int x8), (9, .int x9), (10, .int y0)] (by decide) [1, 2, 3, 4, 5, 6, 7, 0] rfl dX7_placeOfRow_177 ?_
  refine A_iload C (pc := 179) 2 rfl dX7_placeOfRow_179 ?_
  refine A_iload C (pc := 181) 7 rfl dX7_placeOfRow_181 ?_
  refine A_if_eq C (pc := 183) 201 (by decide) dX7_placeOfRow_183 hf (fun _ hf => ?_) (fun _ hf => ?_)
  · refine A_iconst C (pc := 201) ic_0 dX7_placeOfRow_201 ?_
    refine A_iadd C (pc := 202) dX7_placeOfRow_202 ?_
    obtain ⟨v203, e203, hf⟩ := bd_i hf
    refine A_nmI e203 ?_
    refine A_istore C (pc := 203) [(0, .ref (B + 47)), (3, .int x3), (5, .int v203), (6, .int x6), (7, .int x7), (8, .int x8), (9, .int x9)] (by decide) [1, 2, 0, 3, 4, 5, 6] rfl dX7_placeOfRow_203 ?_
    refine A_iinc C (pc := 205) (k0 := 6) [(0, .ref (B + 47)), (3, .int x3), (5, .int v203), (6, .int x6), (7, .int x7), (8, .int x8), (9, .int (x9 + 1))] rfl ic_1 (by decide) [1, 2, 3, 4, 5, 6, 0] rfl dX7_placeOfRow_205 ?_
    refine A_goto C (pc := 208) 135 (by decide) dX7_placeOfRow_208 ?_
    exact hk135 _ _ hf
  · refine A_aload_n C (pc := 186) 0 rfl dX7_placeOfRow_186 ?_
    refine A_g7_4 C (pc := 187) kf_X7_23 dX7_placeOfRow_187 ?_
    refine A_iload C (pc := 190) 3 rfl dX7_placeOfRow_190 ?_
    refine A_iconst C (pc := 192) ic_1 dX7_placeOfRow_192 ?_
    refine A_iload C (pc := 193) 6 rfl dX7_placeOfRow_193 ?_
    refine A_ishl C (pc := 195) dX7_placeOfRow_195 ?_
    refine A_iadd C (pc := 196) dX7_placeOfRow_196 ?_
    obtain ⟨c197, hf⟩ := chk_i hf
    refine A_iald C (pc := 197) (show IA 106 512 from ⟨rfl, rfl⟩) c197 dX7_placeOfRow_197 ?_
    refine A_goto C (pc := 198) 202 (by decide) dX7_placeOfRow_198 ?_
    refine A_iadd C (pc := 202) dX7_placeOfRow_202 ?_
    obtain ⟨v203, e203, hf⟩ := bd_i hf
    refine A_nmI e203 ?_
    refine A_istore C (pc := 203) [(0, .ref (B + 47)), (3, .int x3), (5, .int v203), (6, .int x6), (7, .int x7), (8, .int x8), (9, .int x9)] (by decide) [1, 2, 0, 3, 4, 5, 6] rfl dX7_placeOfRow_203 ?_
    refine A_iinc C (pc := 205) (k0 := 6) [(0, .ref (B + 47)), (3, .int x3), (5, .int v203), (6, .int x6), (7, .int x7), (8, .int x8), (9, .int (x9 + 1))] rfl ic_1 (by decide) [1, 2, 3, 4, 5, 6, 0] rfl dX7_placeOfRow_205 ?_
    refine A_goto C (pc := 208) 135 (by decide) dX7_placeOfRow_208 ?_
    exact hk135 _ _ hf
set_option maxRecDepth 100000 in
theorem w_X7_placeOfRow_L176 {M : Mem} {x3 : Int32} {x5 : Int32} {x6 : Int32} {x7 : Int32} {x8 : Int32} {x9 : Int32} {r : Int32 × Mem} (C : Cx p s m args c cX7_placeOfRow 11 RX7 B D Y) (hr : meth.sig.returnType = (some .int)) (hk : meth.locks = false)  {k73 : (Int32 × Int32 × Int32) → Option (Int32 × Mem)} (hk73 : ∀ (x5 : Int32) (x6 : Int32) (x7 : Int32), k73 (x5, x6, x7) = some r → At p l e rm_X7_placeOfRow s m args below meth c 11 0 0 (QQ below args s B D Y r.2 o (some (.int r.1))) B D Y o 73 M [(0, .ref (B + 47)), (3, .int x3), (5, .int x5), (6, .int x6), (7, .int x7)] []) {k135 : (Int32 × Int32) → Option (Int32 × Mem)} (hk135 : ∀ (x5 : Int32) (x9 : Int32), k135 (x5, x9) = some r → At p l e rm_X7_placeOfRow s m args below meth c 11 0 0 (QQ below args s B D Y r.2 o (some (.int r.1))) B D Y o 135 M [(0, .ref (B + 47)), (3, .int x3), (5, .int x5), (6, .int x6), (7, .int x7), (8, .int x8), (9, .int x9)] []) (hf : f_X7_placeOfRow_L176 M x3 x5 x6 x7 x8 x9 k73 k135 = some r) : At p l e rm_X7_placeOfRow s m args below meth c 11 0 0 (QQ below args s B D Y r.2 o (some (.int r.1))) B D Y o 176 M [(0, .ref (B + 47)), (3, .int x3), (5, .int x5), (6, .int x6), (7, .int x7), (8, .int x8), (9, .int x9)] [] := by
  dsimp only [f_X7_placeOfRow_L176] at hf
  refine A_iconst C (pc := 176) ic_0 dX7_placeOfRow_176 ?_
  exact w_X7_placeOfRow_L177 C hr hk hk73 hk135 hf
set_option maxRecDepth 100000 in
theorem w_X7_placeOfRow_L135 {M : Mem} {x3 : Int32} {x6 : Int32} {x7 : Int32} {x8 : Int32} {r : Int32 × Mem} (C : Cx p s m args c cX7_placeOfRow 11 RX7 B D Y) (hr : meth.sig.returnType = (some .int)) (hk : meth.locks = false)  {k73 : (Int32 × Int32 × Int32) → Option (Int32 × Mem)} (hk73 : ∀ (x5 : Int32) (x6 : Int32) (x7 : Int32), k73 (x5, x6, x7) = some r → At p l e rm_X7_placeOfRow s m args below meth c 11 0 0 (QQ below args s B D Y r.2 o (some (.int r.1))) B D Y o 73 M [(0, .ref (B + 47)), (3, .int x3), (5, .int x5), (6, .int x6), (7, .int x7)] []) : ∀ (n : Nat) (x5 : Int32) (x9 : Int32), f_X7_placeOfRow_L135 M x3 x6 x7 x8 k73 n (x5, x9) = some r → At p l e rm_X7_placeOfRow s m args below meth c 11 0 0 (QQ below args s B D Y r.2 o (some (.int r.1))) B D Y o 135 M [(0, .ref (B + 47)), (3, .int x3), (5, .int x5), (6, .int x6), (7, .int x7), (8, .int x8), (9, .int x9)] [] := by
  intro n
  induction n with
  | zero => intro x5 x9 hf; exact nomatch (show (none : Option (Int32 × Mem)) = some r from hf)
  | succ n hk135 =>
    intro x5 x9 hf
    replace hf : g_X7_placeOfRow_L135 M x3 x6 x7 x8 k73 (f_X7_placeOfRow_L135 M x3 x6 x7 x8 k73 n) (x5, x9) = some r := hf
    dsimp only [g_X7_placeOfRow_L135] at hf
    refine A_iload C (pc := 135) 6 rfl dX7_placeOfRow_135 ?_
    refine A_iload C (pc := 137) 5 rfl dX7_placeOfRow_137 ?_
    refine A_icmp_ge C (pc := 139) 211 (by decide) dX7_placeOfRow_139 hf (fun _ hf => ?_) (fun _ hf => ?_)
    · refine A_iload C (pc := 211) 3 rfl dX7_placeOfRow_211 ?_
      refine A_iconst C (pc := 213) ic_1 dX7_placeOfRow_213 ?_
      refine A_iload C (pc := 214) 5 rfl dX7_placeOfRow_214 ?_
      refine A_ishl C (pc := 216) dX7_placeOfRow_216 ?_
      refine A_iadd C (pc := 217) dX7_placeOfRow_217 ?_
      obtain ⟨v218, e218, hf⟩ := bd_i hf
      refine A_nmI e218 ?_
      refine A_istore C (pc := 218) [(0, .ref (B + 47)), (3, .int x3), (5, .int x5), (6, .int v218), (7, .int x7)] (by decide) [1, 2, 3, 0, 4] rfl dX7_placeOfRow_218 ?_
      refine A_iinc C (pc := 220) (k0 := 4) [(0, .ref (B + 47)), (3, .int x3), (5, .int x5), (6, .int v218), (7, .int (x7 + 1))] rfl ic_1 (by decide) [1, 2, 3, 4, 0] rfl dX7_placeOfRow_220 ?_
      refine A_goto C (pc := 223) 73 (by decide) dX7_placeOfRow_223 ?_
      exact hk73 _ _ _ hf
    · refine A_iload C (pc := 142) 3 rfl dX7_placeOfRow_142 ?_
      refine A_iload C (pc := 144) 6 rfl dX7_placeOfRow_144 ?_
      obtain ⟨z146, h146, hf⟩ := bd_i hf
      refine A_callS1 C (pc := 146) (A := [.int x6, .int x9]) (rest := []) k_X7_47 ky_X7_has ks_X7_has (m_X7_has l B D Y o  h146) rfl rfl (Nat.le_of_ble_eq_true rfl) ⟨rfl, rfl, Nat.le_of_ble_eq_true rfl, Nat.le_of_ble_eq_true rfl⟩ ⟨Nat.zero_le _, Nat.zero_le _⟩ dX7_placeOfRow_146 ?_
      refine A_if_ne C (pc := 149) 176 (by decide) dX7_placeOfRow_149 hf (fun _ hf => ?_) (fun _ hf => ?_)
      · exact w_X7_placeOfRow_L176 C hr hk hk73 hk135 hf
      · refine A_aload_n C (pc := 152) 0 rfl dX7_placeOfRow_152 ?_
        refine A_g7_7 C (pc := 153) kf_X7_32 dX7_placeOfRow_153 ?_
        refine A_iload C (pc := 156) 6 rfl dX7_placeOfRow_156 ?_
        obtain ⟨c158, hf⟩ := chk_i hf
        refine A_iald C (pc := 158) (show IA 109 9 from ⟨rfl, rfl⟩) c158 dX7_placeOfRow_158 ?_
        refine A_iload C (pc := 159) 3 rfl dX7_placeOfRow_159 ?_
        refine A_iand C (pc := 161) dX7_placeOfRow_161 ?_
        refine A_aload_n C (pc := 162) 0 rfl dX7_placeOfRow_162 ?_
        refine A_g7_7 C (pc := 163) kf_X7_32 dX7_placeOfRow_163 ?_
        refine A_iload C (pc := 166) 6 rfl dX7_placeOfRow_166 ?_
        obtain ⟨c168, hf⟩ := chk_i hf
        refine A_iald C (pc := 168) (show IA 109 9 from ⟨rfl, rfl⟩) c168 dX7_placeOfRow_168 ?_
        refine A_icmp_ne C (pc := 169) 176 (by decide) dX7_placeOfRow_169 hf (fun _ hf => ?_) (fun _ hf => ?_)
        · exact w_X7_placeOfRow_L176 C hr hk hk73 hk135 hf
        · refine A_iconst C (pc := 172) ic_1 dX7_placeOfRow_172 ?_
          refine A_goto C (pc := 173) 177 (by decide) dX7_placeOfRow_173 ?_
          exact w_X7_placeOfRow_L177 C hr hk hk73 hk135 hf
set_option maxRecDepth 100000 in
theorem w_X7_placeOfRow_L73 {M : Mem} {x3 : Int32} {r : Int32 × Mem} (C : Cx p s m args c cX7_placeOfRow 11 RX7 B D Y) (hr : meth.sig.returnType = (some .int)) (hk : meth.locks = false)  : ∀ (n : Nat) (x5 : Int32) (x6 : Int32) (x7 : Int32), f_X7_placeOfRow_L73 M x3 n (x5, x6, x7) = some r → At p l e rm_X7_placeOfRow s m args below meth c 11 0 0 (QQ below args s B D Y r.2 o (some (.int r.1))) B D Y o 73 M [(0, .ref (B + 47)), (3, .int x3), (5, .int x5), (6, .int x6), (7, .int x7)] [] := by
  intro n
  induction n with
  | zero => intro x5 x6 x7 hf; exact nomatch (show (none : Option (Int32 × Mem)) = some r from hf)
  | succ n hk73 =>
    intro x5 x6 x7 hf
    replace hf : g_X7_placeOfRow_L73 M x3 (f_X7_placeOfRow_L73 M x3 n) (x5, x6, x7) = some r := hf
    dsimp only [g_X7_placeOfRow_L73] at hf
    refine A_iload C (pc := 73) 4 rfl dX7_placeOfRow_73 ?_
    refine A_iload_n C (pc := 75) 1 rfl dX7_placeOfRow_75 ?_
    refine A_icmp_ge C (pc := 76) 226 (by decide) dX7_placeOfRow_76 hf (fun _ hf => ?_) (fun _ hf => ?_)
    · refine A_iload C (pc := 226) 2 rfl dX7_placeOfRow_226 ?_
      exact R_iM C (pc := 228) hr hk rfl dX7_placeOfRow_228 hf
    · refine A_aload_n C (pc := 79) 0 rfl dX7_placeOfRow_79 ?_
      refine A_g7_6 C (pc := 80) kf_X7_29 dX7_placeOfRow_80 ?_
      refine A_iload C (pc := 83) 4 rfl dX7_placeOfRow_83 ?_
      obtain ⟨c85, hf⟩ := chk_i hf
      refine A_iald C (pc := 85) (show IA 108 9 from ⟨rfl, rfl⟩) c85 dX7_placeOfRow_85 ?_
      obtain ⟨v86, e86, hf⟩ := bd_i hf
      refine A_nmI e86 ?_
      refine A_istore C (pc := 86) [(0, .ref (B + 47)), (3, .int x3), (5, .int x5), (6, .int x6), (7, .int x7), (8, .int v86)] (by decide) [1, 2, 3, 4, 5, 0] rfl dX7_placeOfRow_86 ?_
      refine A_iload C (pc := 88) 5 rfl dX7_placeOfRow_88 ?_
      refine A_iconst C (pc := 90) ic_0 dX7_placeOfRow_90 ?_
      refine A_iload_n C (pc := 91) 1 rfl dX7_placeOfRow_91 ?_
      refine A_iconst C (pc := 92) ic_1 dX7_placeOfRow_92 ?_
      refine A_isub C (pc := 93) dX7_placeOfRow_93 ?_
      obtain ⟨z94, h94, hf⟩ := bd_i hf
      refine A_callS1 C (pc := 94) (A := [.int v86, .int 0, .int (x3 - 1)]) (rest := []) k_X7_39 ky_X7_in ks_X7_in (m_X7_in l B D Y o  h94) rfl rfl (Nat.le_of_ble_eq_true rfl) ⟨rfl, rfl, Nat.le_of_ble_eq_true rfl, Nat.le_of_ble_eq_true rfl⟩ ⟨Nat.zero_le _, Nat.zero_le _⟩ dX7_placeOfRow_94 ?_
      refine A_if_eq C (pc := 97) 130 (by decide) dX7_placeOfRow_97 hf (fun _ hf => ?_) (fun _ hf => ?_)
      · refine A_iconst C (pc := 130) ic_m1 dX7_placeOfRow_130 ?_
        exact R_iM C (pc := 131) hr hk rfl dX7_placeOfRow_131 hf
      · refine A_iload C (pc := 100) 3 rfl dX7_placeOfRow_100 ?_
        refine A_iload C (pc := 102) 5 rfl dX7_placeOfRow_102 ?_
        obtain ⟨z104, h104, hf⟩ := bd_i hf
        refine A_callS1 C (pc := 104) (A := [.int x6, .int v86]) (rest := []) k_X7_47 ky_X7_has ks_X7_has (m_X7_has l B D Y o  h104) rfl rfl (Nat.le_of_ble_eq_true rfl) ⟨rfl, rfl, Nat.le_of_ble_eq_true rfl, Nat.le_of_ble_eq_true rfl⟩ ⟨Nat.zero_le _, Nat.zero_le _⟩ dX7_placeOfRow_104 ?_
        refine A_if_ne C (pc := 107) 130 (by decide) dX7_placeOfRow_107 hf (fun _ hf => ?_) (fun _ hf => ?_)
        · refine A_iconst C (pc := 130) ic_m1 dX7_placeOfRow_130 ?_
          exact R_iM C (pc := 131) hr hk rfl dX7_placeOfRow_131 hf
        · refine A_aload_n C (pc := 110) 0 rfl dX7_placeOfRow_110 ?_
          refine A_g7_7 C (pc := 111) kf_X7_32 dX7_placeOfRow_111 ?_
          refine A_iload C (pc := 114) 5 rfl dX7_placeOfRow_114 ?_
          obtain ⟨c116, hf⟩ := chk_i hf
          refine A_iald C (pc := 116) (show IA 109 9 from ⟨rfl, rfl⟩) c116 dX7_placeOfRow_116 ?_
          refine A_iload C (pc := 117) 3 rfl dX7_placeOfRow_117 ?_
          refine A_iand C (pc := 119) dX7_placeOfRow_119 ?_
          refine A_aload_n C (pc := 120) 0 rfl dX7_placeOfRow_120 ?_
          refine A_g7_7 C (pc := 121) kf_X7_32 dX7_placeOfRow_121 ?_
          refine A_iload C (pc := 124) 5 rfl dX7_placeOfRow_124 ?_
          obtain ⟨c126, hf⟩ := chk_i hf
          refine A_iald C (pc := 126) (show IA 109 9 from ⟨rfl, rfl⟩) c126 dX7_placeOfRow_126 ?_
          refine A_icmp_eq C (pc := 127) 132 (by decide) dX7_placeOfRow_127 hf (fun _ hf => ?_) (fun _ hf => ?_)
          · refine A_iconst C (pc := 132) ic_0 dX7_placeOfRow_132 ?_
            refine A_istore C (pc := 133) [(0, .ref (B + 47)), (3, .int x3), (5, .int x5), (6, .int x6), (7, .int x7), (8, .int v86), (9, .int 0)] (by decide) [1, 2, 3, 4, 5, 6, 0] rfl dX7_placeOfRow_133 ?_
            exact w_X7_placeOfRow_L135 C hr hk hk73 FU _ _  hf
          · refine A_iconst C (pc := 130) ic_m1 dX7_placeOfRow_130 ?_
            exact R_iM C (pc := 131) hr hk rfl dX7_placeOfRow_131 hf
set_option maxRecDepth 100000 in
theorem w_X7_placeOfRow_L15 {x1 : Int32} {x2 : Int32} {x3 : Int32} {r : Int32 × Mem} (C : Cx p s m args c cX7_placeOfRow 11 RX7 B D Y) (hr : meth.sig.returnType = (some .int)) (hk : meth.locks = false)  : ∀ (n : Nat) (x4 : Int32) (x5 : Int32) (M : Mem), f_X7_placeOfRow_L15 x1 x2 x3 n (x4, x5, M) = some r → At p l e rm_X7_placeOfRow s m args below meth c 11 0 0 (QQ below args s B D Y r.2 o (some (.int r.1))) B D Y o 15 M [(0, .ref (B + 47)), (1, .int x1), (2, .int x2), (3, .int x3), (4, .int x4), (5, .int x5)] [] := by
  intro n
  induction n with
  | zero => intro x4 x5 M hf; exact nomatch (show (none : Option (Int32 × Mem)) = some r from hf)
  | succ n hk15 =>
    intro x4 x5 M hf
    replace hf : g_X7_placeOfRow_L15 x1 x2 x3 (f_X7_placeOfRow_L15 x1 x2 x3 n) (x4, x5, M) = some r := hf
    dsimp only [g_X7_placeOfRow_L15] at hf
    refine A_iload C (pc := 15) 5 rfl dX7_placeOfRow_15 ?_
    refine A_if_lt C (pc := 17) 47 (by decide) dX7_placeOfRow_17 hf (fun _ hf => ?_) (fun _ hf => ?_)
    · refine A_iload_n C (pc := 47) 2 rfl dX7_placeOfRow_47 ?_
      refine A_if_lt C (pc := 48) 56 (by decide) dX7_placeOfRow_48 hf (fun _ hf => ?_) (fun _ hf => ?_)
      · refine A_iconst C (pc := 56) ic_m1 dX7_placeOfRow_56 ?_
        exact R_iM C (pc := 57) hr hk rfl dX7_placeOfRow_57 hf
      · refine A_iload C (pc := 51) 4 rfl dX7_placeOfRow_51 ?_
        refine A_if_eq C (pc := 53) 58 (by decide) dX7_placeOfRow_53 hf (fun _ hf => ?_) (fun _ hf => ?_)
        · refine A_aload_n C (pc := 58) 0 rfl dX7_placeOfRow_58 ?_
          refine A_iload_n C (pc := 59) 1 rfl dX7_placeOfRow_59 ?_
          obtain ⟨z60, h60, hf⟩ := bd_i hf
          refine A_callV1 C (pc := 60) (A := [.int x1]) (rest := []) k_X7_81 ky_X7_rowsOf kv_X7_rowsOf (m_X7_rowsOf l B D Y o  h60) (by decide) rfl rfl rfl rfl (Nat.le_of_ble_eq_true rfl) ⟨rfl, rfl, Nat.le_of_ble_eq_true rfl, Nat.le_of_ble_eq_true rfl⟩ ⟨Nat.zero_le _, Nat.zero_le _⟩ dX7_placeOfRow_60 ?_
          refine A_pop C (pc := 63) rfl dX7_placeOfRow_63 ?_
          refine A_iconst C (pc := 64) ic_0 dX7_placeOfRow_64 ?_
          refine A_istore C (pc := 65) [(0, .ref (B + 47)), (3, .int x3), (5, .int 0)] (by decide) [1, 4, 0] rfl dX7_placeOfRow_65 ?_
          refine A_iconst C (pc := 67) ic_0 dX7_placeOfRow_67 ?_
          refine A_istore C (pc := 68) [(0, .ref (B + 47)), (3, .int x3), (5, .int 0), (6, .int 0)] (by decide) [1, 2, 3, 0] rfl dX7_placeOfRow_68 ?_
          refine A_iconst C (pc := 70) ic_0 dX7_placeOfRow_70 ?_
          refine A_istore C (pc := 71) [(0, .ref (B + 47)), (3, .int x3), (5, .int 0), (6, .int 0), (7, .int 0)] (by decide) [1, 2, 3, 4, 0] rfl dX7_placeOfRow_71 ?_
          exact w_X7_placeOfRow_L73 C hr hk FU _ _ _  hf
        · refine A_iconst C (pc := 56) ic_m1 dX7_placeOfRow_56 ?_
          exact R_iM C (pc := 57) hr hk rfl dX7_placeOfRow_57 hf
    · refine A_aload_n C (pc := 20) 0 rfl dX7_placeOfRow_20 ?_
      refine A_g7_6 C (pc := 21) kf_X7_29 dX7_placeOfRow_21 ?_
      refine A_iload C (pc := 24) 5 rfl dX7_placeOfRow_24 ?_
      refine A_iload C (pc := 26) 4 rfl dX7_placeOfRow_26 ?_
      refine A_bipush C (pc := 28) bc_10 dX7_placeOfRow_28 ?_
      refine A_irem C (pc := 30) (by decide) dX7_placeOfRow_30 ?_
      refine A_iconst C (pc := 31) ic_1 dX7_placeOfRow_31 ?_
      refine A_isub C (pc := 32) dX7_placeOfRow_32 ?_
      obtain ⟨c33, hf⟩ := chk_i hf
      obtain ⟨M33, e33, hf⟩ := bd_i hf
      refine A_iast C (pc := 33) (show IA 108 9 from ⟨rfl, rfl⟩) c33 dX7_placeOfRow_33 ?_
      refine A_nmM e33 ?_
      refine A_iload C (pc := 34) 4 rfl dX7_placeOfRow_34 ?_
      refine A_bipush C (pc := 36) bc_10 dX7_placeOfRow_36 ?_
      refine A_idiv C (pc := 38) (by decide) dX7_placeOfRow_38 ?_
      obtain ⟨v39, e39, hf⟩ := bd_i hf
      refine A_nmI e39 ?_
      refine A_istore C (pc := 39) [(0, .ref (B + 47)), (1, .int x1), (2, .int x2), (3, .int x3), (4, .int v39), (5, .int x5)] (by decide) [1, 2, 3, 4, 0, 5] rfl dX7_placeOfRow_39 ?_
      refine A_iinc C (pc := 41) (k0 := 5) [(0, .ref (B + 47)), (1, .int x1), (2, .int x2), (3, .int x3), (4, .int v39), (5, .int (x5 + (-1)))] rfl ic_m1 (by decide) [1, 2, 3, 4, 5, 0] rfl dX7_placeOfRow_41 ?_
      refine A_goto C (pc := 44) 15 (by decide) dX7_placeOfRow_44 ?_
      exact hk15 _ _ _ hf
set_option maxRecDepth 100000 in
theorem m_X7_placeOfRow (l : Launch) (B : Nat) (D : va_G) (Y : Nat → ClassId) (o : Ou) {M : Mem} {x1 : Int32} {x2 : Int32} {r : Int32 × Mem}  (hf : f_X7_placeOfRow M x1 x2 = some r) : MW l yX7_placeOfRow cX7_placeOfRow 11 (some .int) rm_X7_placeOfRow B D Y o [.ref (B + 47), .int x1, .int x2] M r.2 (some (.int r.1)) := by
  refine ofAt (L0 := [(0, .ref (B + 47)), (1, .int x1), (2, .int x2)]) (by decide +kernel) (Nat.le_of_ble_eq_true rfl) rfl (fun p e s m args below meth c C hr hk => ?_)
  dsimp only [f_X7_placeOfRow] at hf
  refine A_aload_n C (pc := 0) 0 rfl dX7_placeOfRow_0 ?_
  refine A_g7_0 C (pc := 1) kf_X7_9 dX7_placeOfRow_1 ?_
  refine A_iload_n C (pc := 4) 1 rfl dX7_placeOfRow_4 ?_
  obtain ⟨c5, hf⟩ := chk_i hf
  refine A_iald C (pc := 5) (show IA 48 5 from ⟨rfl, rfl⟩) c5 dX7_placeOfRow_5 ?_
  obtain ⟨v6, e6, hf⟩ := bd_i hf
  refine A_nmI e6 ?_
  refine A_istore_n C (pc := 6) [(0, .ref (B + 47)), (1, .int x1), (2, .int x2), (3, .int v6)] rfl (by decide) [1, 2, 3, 0] rfl dX7_placeOfRow_6 ?_
  refine A_iload_n C (pc := 7) 2 rfl dX7_placeOfRow_7 ?_
  refine A_istore C (pc := 8) [(0, .ref (B + 47)), (1, .int x1), (2, .int x2), (3, .int v6), (4, .int x2)] (by decide) [1, 2, 3, 4, 0] rfl dX7_placeOfRow_8 ?_
  refine A_iload_n C (pc := 10) 3 rfl dX7_placeOfRow_10 ?_
  refine A_iconst C (pc := 11) ic_1 dX7_placeOfRow_11 ?_
  refine A_isub C (pc := 12) dX7_placeOfRow_12 ?_
  obtain ⟨v13, e13, hf⟩ := bd_i hf
  refine A_nmI e13 ?_
  refine A_istore C (pc := 13) [(0, .ref (B + 47)), (1, .int x1), (2, .int x2), (3, .int v6), (4, .int x2), (5, .int v13)] (by decide) [1, 2, 3, 4, 5, 0] rfl dX7_placeOfRow_13 ?_
  exact w_X7_placeOfRow_L15 C hr hk FU _ _ _  hf
set_option maxRecDepth 100000 in
theorem m_X7_rows (l : Launch) (B : Nat) (D : va_G) (Y : Nat → ClassId) (o : Ou) {M : Mem} {x1 : Int32} {r : Int32 × Mem}  (hf : f_X7_rows M x1 = some r) : MW l yX7_rows cX7_rows 2 (some .int) rm_X7_rows B D Y o [.ref (B + 47), .int x1] M r.2 (some (.int r.1)) := by
  refine ofAt (L0 := [(0, .ref (B + 47)), (1, .int x1)]) (by decide +kernel) (Nat.le_of_ble_eq_true rfl) rfl (fun p e s m args below meth c C hr hk => ?_)
  dsimp only [f_X7_rows] at hf
  refine A_aload_n C (pc := 0) 0 rfl dX7_rows_0 ?_
  refine A_iload_n C (pc := 1) 1 rfl dX7_rows_1 ?_
  obtain ⟨z2, h2, hf⟩ := bd_i hf
  refine A_callS1 C (pc := 2) (A := [.int x1]) (rest := [.ref (B + 47)]) k_X7_43 ky_X7_isOrder ks_X7_isOrder (m_X7_isOrder l B D Y o  h2) rfl rfl (Nat.le_of_ble_eq_true rfl) ⟨rfl, rfl, Nat.le_of_ble_eq_true rfl, Nat.le_of_ble_eq_true rfl⟩ ⟨Nat.zero_le _, Nat.zero_le _⟩ dX7_rows_2 ?_
  refine A_iconst C (pc := 5) ic_1 dX7_rows_5 ?_
  obtain ⟨z6, h6, hf⟩ := bd_i hf
  refine A_callV1 C (pc := 6) (A := [.int z2, .int 1]) (rest := []) k_X7_51 ky_X7_lets kv_X7_lets (m_X7_lets l B D Y o  h6) (by decide) rfl rfl rfl rfl (Nat.le_of_ble_eq_true rfl) ⟨rfl, rfl, Nat.le_of_ble_eq_true rfl, Nat.le_of_ble_eq_true rfl⟩ ⟨Nat.zero_le _, Nat.zero_le _⟩ dX7_rows_6 ?_
  refine A_if_eq C (pc := 9) 20 (by decide) dX7_rows_9 hf (fun _ hf => ?_) (fun _ hf => ?_)
  · refine A_iconst C (pc := 20) ic_0 dX7_rows_20 ?_
    exact R_iM C (pc := 21) hr hk rfl dX7_rows_21 hf
  · refine A_aload_n C (pc := 12) 0 rfl dX7_rows_12 ?_
    refine A_iload_n C (pc := 13) 1 rfl dX7_rows_13 ?_
    obtain ⟨z14, h14, hf⟩ := bd_i hf
    refine A_callV1 C (pc := 14) (A := [.int x1]) (rest := []) k_X7_81 ky_X7_rowsOf kv_X7_rowsOf (m_X7_rowsOf l B D Y o  h14) (by decide) rfl rfl rfl rfl (Nat.le_of_ble_eq_true rfl) ⟨rfl, rfl, Nat.le_of_ble_eq_true rfl, Nat.le_of_ble_eq_true rfl⟩ ⟨Nat.zero_le _, Nat.zero_le _⟩ dX7_rows_14 ?_
    refine A_goto C (pc := 17) 21 (by decide) dX7_rows_17 ?_
    exact R_iM C (pc := 21) hr hk rfl dX7_rows_21 hf
set_option maxRecDepth 100000 in
theorem w_X7_rowAt_L26 {M : Mem} {x1 : Int32} {x2 : Int32} {y0 : Int32} {r : Int32 × Mem} (C : Cx p s m args c cX7_rowAt 3 RX7 B D Y) (hr : meth.sig.returnType = (some .int)) (hk : meth.locks = false)  (hf : f_X7_rowAt_L26 M x1 x2 y0 = some r) : At p l e rm_X7_rowAt s m args below meth c 3 0 0 (QQ below args s B D Y r.2 o (some (.int r.1))) B D Y o 26 M [(0, .ref (B + 47)), (1, .int x1), (2, .int x2)] [.int y0, .ref (B + 47)] := by
  dsimp only [f_X7_rowAt_L26] at hf
  refine A_iconst C (pc := 26) ic_1 dX7_rowAt_26 ?_
  obtain ⟨z27, h27, hf⟩ := bd_i hf
  refine A_callV1 C (pc := 27) (A := [.int y0, .int 1]) (rest := []) k_X7_51 ky_X7_lets kv_X7_lets (m_X7_lets l B D Y o  h27) (by decide) rfl rfl rfl rfl (Nat.le_of_ble_eq_true rfl) ⟨rfl, rfl, Nat.le_of_ble_eq_true rfl, Nat.le_of_ble_eq_true rfl⟩ ⟨Nat.zero_le _, Nat.zero_le _⟩ dX7_rowAt_27 ?_
  refine A_if_eq C (pc := 30) 42 (by decide) dX7_rowAt_30 hf (fun _ hf => ?_) (fun _ hf => ?_)
  · refine A_iconst C (pc := 42) ic_0 dX7_rowAt_42 ?_
    exact R_iM C (pc := 43) hr hk rfl dX7_rowAt_43 hf
  · refine A_aload_n C (pc := 33) 0 rfl dX7_rowAt_33 ?_
    refine A_iload_n C (pc := 34) 1 rfl dX7_rowAt_34 ?_
    refine A_iload_n C (pc := 35) 2 rfl dX7_rowAt_35 ?_
    obtain ⟨z36, h36, hf⟩ := bd_i hf
    refine A_callV1 C (pc := 36) (A := [.int x1, .int x2]) (rest := []) k_X7_84 ky_X7_lineUp kv_X7_lineUp (m_X7_lineUp l B D Y o  h36) (by decide) rfl rfl rfl rfl (Nat.le_of_ble_eq_true rfl) ⟨rfl, rfl, Nat.le_of_ble_eq_true rfl, Nat.le_of_ble_eq_true rfl⟩ ⟨Nat.zero_le _, Nat.zero_le _⟩ dX7_rowAt_36 ?_
    refine A_goto C (pc := 39) 43 (by decide) dX7_rowAt_39 ?_
    exact R_iM C (pc := 43) hr hk rfl dX7_rowAt_43 hf
set_option maxRecDepth 100000 in
theorem w_X7_rowAt_L25 {M : Mem} {x1 : Int32} {x2 : Int32} {r : Int32 × Mem} (C : Cx p s m args c cX7_rowAt 3 RX7 B D Y) (hr : meth.sig.returnType = (some .int)) (hk : meth.locks = false)  (hf : f_X7_rowAt_L25 M x1 x2 = some r) : At p l e rm_X7_rowAt s m args below meth c 3 0 0 (QQ below args s B D Y r.2 o (some (.int r.1))) B D Y o 25 M [(0, .ref (B + 47)), (1, .int x1), (2, .int x2)] [.ref (B + 47)] := by
  dsimp only [f_X7_rowAt_L25] at hf
  refine A_iconst C (pc := 25) ic_0 dX7_rowAt_25 ?_
  exact w_X7_rowAt_L26 C hr hk hf
set_option maxRecDepth 100000 in
theorem m_X7_rowAt (l : Launch) (B : Nat) (D : va_G) (Y : Nat → ClassId) (o : Ou) {M : Mem} {x1 : Int32} {x2 : Int32} {r : Int32 × Mem}  (hf : f_X7_rowAt M x1 x2 = some r) : MW l yX7_rowAt cX7_rowAt 3 (some .int) rm_X7_rowAt B D Y o [.ref (B + 47), .int x1, .int x2] M r.2 (some (.int r.1)) := by
  refine ofAt (L0 := [(0, .ref (B + 47)), (1, .int x1), (2, .int x2)]) (by decide +kernel) (Nat.le_of_ble_eq_true rfl) rfl (fun p e s m args below meth c C hr hk => ?_)
  dsimp only [f_X7_rowAt] at hf
  refine A_aload_n C (pc := 0) 0 rfl dX7_rowAt_0 ?_
  refine A_iload_n C (pc := 1) 1 rfl dX7_rowAt_1 ?_
  obtain ⟨z2, h2, hf⟩ := bd_i hf
  refine A_callS1 C (pc := 2) (A := [.int x1]) (rest := [.ref (B + 47)]) k_X7_43 ky_X7_isOrder ks_X7_isOrder (m_X7_isOrder l B D Y o  h2) rfl rfl (Nat.le_of_ble_eq_true rfl) ⟨rfl, rfl, Nat.le_of_ble_eq_true rfl, Nat.le_of_ble_eq_true rfl⟩ ⟨Nat.zero_le _, Nat.zero_le _⟩ dX7_rowAt_2 ?_
  refine A_if_eq C (pc := 5) 25 (by decide) dX7_rowAt_5 hf (fun _ hf => ?_) (fun _ hf => ?_)
  · exact w_X7_rowAt_L25 C hr hk hf
  · refine A_iload_n C (pc := 8) 2 rfl dX7_rowAt_8 ?_
    refine A_if_lt C (pc := 9) 25 (by decide) dX7_rowAt_9 hf (fun _ hf => ?_) (fun _ hf => ?_)
    · exact w_X7_rowAt_L25 C hr hk hf
    · refine A_iload_n C (pc := 12) 2 rfl dX7_rowAt_12 ?_
      refine A_aload_n C (pc := 13) 0 rfl dX7_rowAt_13 ?_
      refine A_iload_n C (pc := 14) 1 rfl dX7_rowAt_14 ?_
      obtain ⟨z15, h15, hf⟩ := bd_i hf
      refine A_callV1 C (pc := 15) (A := [.int x1]) (rest := [.int x2, .ref (B + 47)]) k_X7_81 ky_X7_rowsOf kv_X7_rowsOf (m_X7_rowsOf l B D Y o  h15) (by decide) rfl rfl rfl rfl (Nat.le_of_ble_eq_true rfl) ⟨rfl, rfl, Nat.le_of_ble_eq_true rfl, Nat.le_of_ble_eq_true rfl⟩ ⟨Nat.zero_le _, Nat.zero_le _⟩ dX7_rowAt_15 ?_
      refine A_icmp_ge C (pc := 18) 25 (by decide) dX7_rowAt_18 hf (fun _ hf => ?_) (fun _ hf => ?_)
      · exact w_X7_rowAt_L25 C hr hk hf
      · refine A_iconst C (pc := 21) ic_1 dX7_rowAt_21 ?_
        refine A_goto C (pc := 22) 26 (by decide) dX7_rowAt_22 ?_
        exact w_X7_rowAt_L26 C hr hk hf
set_option maxRecDepth 100000 in
theorem m_X7_rowPlace (l : Launch) (B : Nat) (D : va_G) (Y : Nat → ClassId) (o : Ou) {M : Mem} {x1 : Int32} {x2 : Int32} {r : Int32 × Mem}  (hf : f_X7_rowPlace M x1 x2 = some r) : MW l yX7_rowPlace cX7_rowPlace 3 (some .int) rm_X7_rowPlace B D Y o [.ref (B + 47), .int x1, .int x2] M r.2 (some (.int r.1)) := by
  refine ofAt (L0 := [(0, .ref (B + 47)), (1, .int x1), (2, .int x2)]) (by decide +kernel) (Nat.le_of_ble_eq_true rfl) rfl (fun p e s m args below meth c C hr hk => ?_)
  dsimp only [f_X7_rowPlace] at hf
  refine A_aload_n C (pc := 0) 0 rfl dX7_rowPlace_0 ?_
  refine A_iload_n C (pc := 1) 1 rfl dX7_rowPlace_1 ?_
  obtain ⟨z2, h2, hf⟩ := bd_i hf
  refine A_callS1 C (pc := 2) (A := [.int x1]) (rest := [.ref (B + 47)]) k_X7_43 ky_X7_isOrder ks_X7_isOrder (m_X7_isOrder l B D Y o  h2) rfl rfl (Nat.le_of_ble_eq_true rfl) ⟨rfl, rfl, Nat.le_of_ble_eq_true rfl, Nat.le_of_ble_eq_true rfl⟩ ⟨Nat.zero_le _, Nat.zero_le _⟩ dX7_rowPlace_2 ?_
  refine A_iconst C (pc := 5) ic_1 dX7_rowPlace_5 ?_
  obtain ⟨z6, h6, hf⟩ := bd_i hf
  refine A_callV1 C (pc := 6) (A := [.int z2, .int 1]) (rest := []) k_X7_51 ky_X7_lets kv_X7_lets (m_X7_lets l B D Y o  h6) (by decide) rfl rfl rfl rfl (Nat.le_of_ble_eq_true rfl) ⟨rfl, rfl, Nat.le_of_ble_eq_true rfl, Nat.le_of_ble_eq_true rfl⟩ ⟨Nat.zero_le _, Nat.zero_le _⟩ dX7_rowPlace_6 ?_
  refine A_if_eq C (pc := 9) 21 (by decide) dX7_rowPlace_9 hf (fun _ hf => ?_) (fun _ hf => ?_)
  · refine A_iconst C (pc := 21) ic_0 dX7_rowPlace_21 ?_
    exact R_iM C (pc := 22) hr hk rfl dX7_rowPlace_22 hf
  · refine A_aload_n C (pc := 12) 0 rfl dX7_rowPlace_12 ?_
    refine A_iload_n C (pc := 13) 1 rfl dX7_rowPlace_13 ?_
    refine A_iload_n C (pc := 14) 2 rfl dX7_rowPlace_14 ?_
    obtain ⟨z15, h15, hf⟩ := bd_i hf
    refine A_callV1 C (pc := 15) (A := [.int x1, .int x2]) (rest := []) k_X7_137 ky_X7_placeOfRow kv_X7_placeOfRow (m_X7_placeOfRow l B D Y o  h15) (by decide) rfl rfl rfl rfl (Nat.le_of_ble_eq_true rfl) ⟨rfl, rfl, Nat.le_of_ble_eq_true rfl, Nat.le_of_ble_eq_true rfl⟩ ⟨Nat.zero_le _, Nat.zero_le _⟩ dX7_rowPlace_15 ?_
    refine A_goto C (pc := 18) 22 (by decide) dX7_rowPlace_18 ?_
    exact R_iM C (pc := 22) hr hk rfl dX7_rowPlace_22 hf
set_option maxRecDepth 100000 in
theorem w_X7_nextRow_L28 {M : Mem} {x1 : Int32} {x2 : Int32} {y0 : Int32} {r : Int32 × Mem} (C : Cx p s m args c cX7_nextRow 4 RX7 B D Y) (hr : meth.sig.returnType = (some .int)) (hk : meth.locks = false)  (hf : f_X7_nextRow_L28 M x1 x2 y0 = some r) : At p l e rm_X7_nextRow s m args below meth c 4 0 0 (QQ below args s B D Y r.2 o (some (.int r.1))) B D Y o 28 M [(0, .ref (B + 47)), (1, .int x1), (2, .int x2)] [.int y0, .ref (B + 47)] := by
  dsimp only [f_X7_nextRow_L28] at hf
  refine A_iconst C (pc := 28) ic_2 dX7_nextRow_28 ?_
  obtain ⟨z29, h29, hf⟩ := bd_i hf
  refine A_callV1 C (pc := 29) (A := [.int y0, .int 2]) (rest := []) k_X7_51 ky_X7_lets kv_X7_lets (m_X7_lets l B D Y o  h29) (by decide) rfl rfl rfl rfl (Nat.le_of_ble_eq_true rfl) ⟨rfl, rfl, Nat.le_of_ble_eq_true rfl, Nat.le_of_ble_eq_true rfl⟩ ⟨Nat.zero_le _, Nat.zero_le _⟩ dX7_nextRow_29 ?_
  refine A_if_ne C (pc := 32) 37 (by decide) dX7_nextRow_32 hf (fun _ hf => ?_) (fun _ hf => ?_)
  · refine A_aload_n C (pc := 37) 0 rfl dX7_nextRow_37 ?_
    refine A_iload_n C (pc := 38) 1 rfl dX7_nextRow_38 ?_
    refine A_iload_n C (pc := 39) 2 rfl dX7_nextRow_39 ?_
    obtain ⟨z40, h40, hf⟩ := bd_i hf
    refine A_callV1 C (pc := 40) (A := [.int x1, .int x2]) (rest := []) k_X7_137 ky_X7_placeOfRow kv_X7_placeOfRow (m_X7_placeOfRow l B D Y o  h40) (by decide) rfl rfl rfl rfl (Nat.le_of_ble_eq_true rfl) ⟨rfl, rfl, Nat.le_of_ble_eq_true rfl, Nat.le_of_ble_eq_true rfl⟩ ⟨Nat.zero_le _, Nat.zero_le _⟩ dX7_nextRow_40 ?_
    refine A_iconst C (pc := 43) ic_1 dX7_nextRow_43 ?_
    refine A_iadd C (pc := 44) dX7_nextRow_44 ?_
    obtain ⟨v45, e45, hf⟩ := bd_i hf
    refine A_nmI e45 ?_
    refine A_istore_n C (pc := 45) [(0, .ref (B + 47)), (1, .int x1), (3, .int v45)] rfl (by decide) [1, 2, 0] rfl dX7_nextRow_45 ?_
    refine A_iload_n C (pc := 46) 2 rfl dX7_nextRow_46 ?_
    refine A_aload_n C (pc := 47) 0 rfl dX7_nextRow_47 ?_
    refine A_iload_n C (pc := 48) 1 rfl dX7_nextRow_48 ?_
    obtain ⟨z49, h49, hf⟩ := bd_i hf
    refine A_callV1 C (pc := 49) (A := [.int x1]) (rest := [.int v45]) k_X7_81 ky_X7_rowsOf kv_X7_rowsOf (m_X7_rowsOf l B D Y o  h49) (by decide) rfl rfl rfl rfl (Nat.le_of_ble_eq_true rfl) ⟨rfl, rfl, Nat.le_of_ble_eq_true rfl, Nat.le_of_ble_eq_true rfl⟩ ⟨Nat.zero_le _, Nat.zero_le _⟩ dX7_nextRow_49 ?_
    refine A_icmp_ge C (pc := 52) 64 (by decide) dX7_nextRow_52 hf (fun _ hf => ?_) (fun _ hf => ?_)
    · refine A_iconst C (pc := 64) ic_m1 dX7_nextRow_64 ?_
      exact R_iM C (pc := 65) hr hk rfl dX7_nextRow_65 hf
    · refine A_aload_n C (pc := 55) 0 rfl dX7_nextRow_55 ?_
      refine A_iload_n C (pc := 56) 1 rfl dX7_nextRow_56 ?_
      refine A_iload_n C (pc := 57) 2 rfl dX7_nextRow_57 ?_
      obtain ⟨z58, h58, hf⟩ := bd_i hf
      refine A_callV1 C (pc := 58) (A := [.int x1, .int v45]) (rest := []) k_X7_84 ky_X7_lineUp kv_X7_lineUp (m_X7_lineUp l B D Y o  h58) (by decide) rfl rfl rfl rfl (Nat.le_of_ble_eq_true rfl) ⟨rfl, rfl, Nat.le_of_ble_eq_true rfl, Nat.le_of_ble_eq_true rfl⟩ ⟨Nat.zero_le _, Nat.zero_le _⟩ dX7_nextRow_58 ?_
      refine A_goto C (pc := 61) 65 (by decide) dX7_nextRow_61 ?_
      exact R_iM C (pc := 65) hr hk rfl dX7_nextRow_65 hf
  · refine A_iconst C (pc := 35) ic_0 dX7_nextRow_35 ?_
    exact R_iM C (pc := 36) hr hk rfl dX7_nextRow_36 hf
set_option maxRecDepth 100000 in
theorem m_X7_nextRow (l : Launch) (B : Nat) (D : va_G) (Y : Nat → ClassId) (o : Ou) {M : Mem} {x1 : Int32} {x2 : Int32} {r : Int32 × Mem}  (hf : f_X7_nextRow M x1 x2 = some r) : MW l yX7_nextRow cX7_nextRow 4 (some .int) rm_X7_nextRow B D Y o [.ref (B + 47), .int x1, .int x2] M r.2 (some (.int r.1)) := by
  refine ofAt (L0 := [(0, .ref (B + 47)), (1, .int x1), (2, .int x2)]) (by decide +kernel) (Nat.le_of_ble_eq_true rfl) rfl (fun p e s m args below meth c C hr hk => ?_)
  dsimp only [f_X7_nextRow] at hf
  refine A_aload_n C (pc := 0) 0 rfl dX7_nextRow_0 ?_
  refine A_iload_n C (pc := 1) 1 rfl dX7_nextRow_1 ?_
  obtain ⟨z2, h2, hf⟩ := bd_i hf
  refine A_callS1 C (pc := 2) (A := [.int x1]) (rest := [.ref (B + 47)]) k_X7_43 ky_X7_isOrder ks_X7_isOrder (m_X7_isOrder l B D Y o  h2) rfl rfl (Nat.le_of_ble_eq_true rfl) ⟨rfl, rfl, Nat.le_of_ble_eq_true rfl, Nat.le_of_ble_eq_true rfl⟩ ⟨Nat.zero_le _, Nat.zero_le _⟩ dX7_nextRow_2 ?_
  refine A_iconst C (pc := 5) ic_1 dX7_nextRow_5 ?_
  obtain ⟨z6, h6, hf⟩ := bd_i hf
  refine A_callV1 C (pc := 6) (A := [.int z2, .int 1]) (rest := []) k_X7_51 ky_X7_lets kv_X7_lets (m_X7_lets l B D Y o  h6) (by decide) rfl rfl rfl rfl (Nat.le_of_ble_eq_true rfl) ⟨rfl, rfl, Nat.le_of_ble_eq_true rfl, Nat.le_of_ble_eq_true rfl⟩ ⟨Nat.zero_le _, Nat.zero_le _⟩ dX7_nextRow_6 ?_
  refine A_if_eq C (pc := 9) 35 (by decide) dX7_nextRow_9 hf (fun _ hf => ?_) (fun _ hf => ?_)
  · refine A_iconst C (pc := 35) ic_0 dX7_nextRow_35 ?_
    exact R_iM C (pc := 36) hr hk rfl dX7_nextRow_36 hf
  · refine A_aload_n C (pc := 12) 0 rfl dX7_nextRow_12 ?_
    refine A_aload_n C (pc := 13) 0 rfl dX7_nextRow_13 ?_
    refine A_iload_n C (pc := 14) 1 rfl dX7_nextRow_14 ?_
    refine A_iload_n C (pc := 15) 2 rfl dX7_nextRow_15 ?_
    obtain ⟨z16, h16, hf⟩ := bd_i hf
    refine A_callV1 C (pc := 16) (A := [.int x1, .int x2]) (rest := [.ref (B + 47)]) k_X7_137 ky_X7_placeOfRow kv_X7_placeOfRow (m_X7_placeOfRow l B D Y o  h16) (by decide) rfl rfl rfl rfl (Nat.le_of_ble_eq_true rfl) ⟨rfl, rfl, Nat.le_of_ble_eq_true rfl, Nat.le_of_ble_eq_true rfl⟩ ⟨Nat.zero_le _, Nat.zero_le _⟩ dX7_nextRow_16 ?_
    refine A_iconst C (pc := 19) ic_m1 dX7_nextRow_19 ?_
    refine A_icmp_eq C (pc := 20) 27 (by decide) dX7_nextRow_20 hf (fun _ hf => ?_) (fun _ hf => ?_)
    · refine A_iconst C (pc := 27) ic_0 dX7_nextRow_27 ?_
      exact w_X7_nextRow_L28 C hr hk hf
    · refine A_iconst C (pc := 23) ic_1 dX7_nextRow_23 ?_
      refine A_goto C (pc := 24) 28 (by decide) dX7_nextRow_24 ?_
      exact w_X7_nextRow_L28 C hr hk hf
set_option maxRecDepth 100000 in
theorem m_X7_with (l : Launch) (B : Nat) (D : va_G) (Y : Nat → ClassId) (o : Ou) {M : Mem} {x1 : Int32} {x2 : Int32} {x3 : Int32} {r : Int32 × Mem}  (hf : f_X7_with M x1 x2 x3 = some r) : MW l yX7_with cX7_with 4 (some .int) rm_X7_with B D Y o [.ref (B + 47), .int x1, .int x2, .int x3] M r.2 (some (.int r.1)) := by
  refine ofAt (L0 := [(0, .ref (B + 47)), (1, .int x1), (2, .int x2), (3, .int x3)]) (by decide +kernel) (Nat.le_of_ble_eq_true rfl) rfl (fun p e s m args below meth c C hr hk => ?_)
  dsimp only [f_X7_with] at hf
  refine A_iload_n C (pc := 0) 2 rfl dX7_with_0 ?_
  refine A_iload_n C (pc := 1) 3 rfl dX7_with_1 ?_
  refine A_icmp_ne C (pc := 2) 9 (by decide) dX7_with_2 hf (fun _ hf => ?_) (fun _ hf => ?_)
  · refine A_aload_n C (pc := 9) 0 rfl dX7_with_9 ?_
    refine A_iload_n C (pc := 10) 1 rfl dX7_with_10 ?_
    refine A_iload_n C (pc := 11) 2 rfl dX7_with_11 ?_
    refine A_iload_n C (pc := 12) 3 rfl dX7_with_12 ?_
    refine A_iconst C (pc := 13) ic_0 dX7_with_13 ?_
    obtain ⟨z14, h14, hf⟩ := bd_i hf
    refine A_callV1 C (pc := 14) (A := [.int x1, .int x2, .int x3, .int 0]) (rest := []) k_X7_133 ky_X7_follow kv_X7_follow (m_X7_follow l B D Y o  h14) (by decide) rfl rfl rfl rfl (Nat.le_of_ble_eq_true rfl) ⟨rfl, rfl, Nat.le_of_ble_eq_true rfl, Nat.le_of_ble_eq_true rfl⟩ ⟨Nat.zero_le _, Nat.zero_le _⟩ dX7_with_14 ?_
    exact R_iM C (pc := 17) hr hk rfl dX7_with_17 hf
  · refine A_iconst C (pc := 5) ic_0 dX7_with_5 ?_
    refine A_goto C (pc := 6) 17 (by decide) dX7_with_6 ?_
    exact R_iM C (pc := 17) hr hk rfl dX7_with_17 hf
set_option maxRecDepth 100000 in
theorem m_X7_at (l : Launch) (B : Nat) (D : va_G) (Y : Nat → ClassId) (o : Ou) {M : Mem} {x1 : Int32} {x2 : Int32} {x3 : Int32} {r : Int32 × Mem}  (hf : f_X7_at M x1 x2 x3 = some r) : MW l yX7_at cX7_at 4 (some .int) rm_X7_at B D Y o [.ref (B + 47), .int x1, .int x2, .int x3] M r.2 (some (.int r.1)) := by
  refine ofAt (L0 := [(0, .ref (B + 47)), (1, .int x1), (2, .int x2), (3, .int x3)]) (by decide +kernel) (Nat.le_of_ble_eq_true rfl) rfl (fun p e s m args below meth c C hr hk => ?_)
  dsimp only [f_X7_at] at hf
  refine A_iload_n C (pc := 0) 3 rfl dX7_at_0 ?_
  refine A_iconst C (pc := 1) ic_0 dX7_at_1 ?_
  refine A_aload_n C (pc := 2) 0 rfl dX7_at_2 ?_
  refine A_g7_0 C (pc := 3) kf_X7_9 dX7_at_3 ?_
  refine A_iload_n C (pc := 6) 1 rfl dX7_at_6 ?_
  obtain ⟨c7, hf⟩ := chk_i hf
  refine A_iald C (pc := 7) (show IA 48 5 from ⟨rfl, rfl⟩) c7 dX7_at_7 ?_
  refine A_iconst C (pc := 8) ic_1 dX7_at_8 ?_
  refine A_isub C (pc := 9) dX7_at_9 ?_
  obtain ⟨z10, h10, hf⟩ := bd_i hf
  refine A_callS1 C (pc := 10) (A := [.int x3, .int 0, .int ((M 48 x1.toNatClampNeg) - 1)]) (rest := []) k_X7_39 ky_X7_in ks_X7_in (m_X7_in l B D Y o  h10) rfl rfl (Nat.le_of_ble_eq_true rfl) ⟨rfl, rfl, Nat.le_of_ble_eq_true rfl, Nat.le_of_ble_eq_true rfl⟩ ⟨Nat.zero_le _, Nat.zero_le _⟩ dX7_at_10 ?_
  refine A_if_eq C (pc := 13) 27 (by decide) dX7_at_13 hf (fun _ hf => ?_) (fun _ hf => ?_)
  · refine A_iconst C (pc := 27) ic_0 dX7_at_27 ?_
    exact R_iM C (pc := 28) hr hk rfl dX7_at_28 hf
  · refine A_aload_n C (pc := 16) 0 rfl dX7_at_16 ?_
    refine A_iload_n C (pc := 17) 1 rfl dX7_at_17 ?_
    refine A_iload_n C (pc := 18) 2 rfl dX7_at_18 ?_
    refine A_iload_n C (pc := 19) 3 rfl dX7_at_19 ?_
    refine A_iconst C (pc := 20) ic_1 dX7_at_20 ?_
    obtain ⟨z21, h21, hf⟩ := bd_i hf
    refine A_callV1 C (pc := 21) (A := [.int x1, .int x2, .int x3, .int 1]) (rest := []) k_X7_133 ky_X7_follow kv_X7_follow (m_X7_follow l B D Y o  h21) (by decide) rfl rfl rfl rfl (Nat.le_of_ble_eq_true rfl) ⟨rfl, rfl, Nat.le_of_ble_eq_true rfl, Nat.le_of_ble_eq_true rfl⟩ ⟨Nat.zero_le _, Nat.zero_le _⟩ dX7_at_21 ?_
    refine A_goto C (pc := 24) 28 (by decide) dX7_at_24 ?_
    exact R_iM C (pc := 28) hr hk rfl dX7_at_28 hf
set_option maxRecDepth 100000 in
theorem w_X7_rowsWith_L24 {M : Mem} {x1 : Int32} {x2 : Int32} {x3 : Int32} {y0 : Int32} {r : Int32 × Mem} (C : Cx p s m args c cX7_rowsWith 4 RX7 B D Y) (hr : meth.sig.returnType = (some .int)) (hk : meth.locks = false)  (hf : f_X7_rowsWith_L24 M x1 x2 x3 y0 = some r) : At p l e rm_X7_rowsWith s m args below meth c 4 0 0 (QQ below args s B D Y r.2 o (some (.int r.1))) B D Y o 24 M [(0, .ref (B + 47)), (1, .int x1), (2, .int x2), (3, .int x3)] [.int y0, .ref (B + 47)] := by
  dsimp only [f_X7_rowsWith_L24] at hf
  refine A_iconst C (pc := 24) ic_1 dX7_rowsWith_24 ?_
  obtain ⟨z25, h25, hf⟩ := bd_i hf
  refine A_callV1 C (pc := 25) (A := [.int y0, .int 1]) (rest := []) k_X7_51 ky_X7_lets kv_X7_lets (m_X7_lets l B D Y o  h25) (by decide) rfl rfl rfl rfl (Nat.le_of_ble_eq_true rfl) ⟨rfl, rfl, Nat.le_of_ble_eq_true rfl, Nat.le_of_ble_eq_true rfl⟩ ⟨Nat.zero_le _, Nat.zero_le _⟩ dX7_rowsWith_25 ?_
  refine A_if_eq C (pc := 28) 41 (by decide) dX7_rowsWith_28 hf (fun _ hf => ?_) (fun _ hf => ?_)
  · refine A_iconst C (pc := 41) ic_0 dX7_rowsWith_41 ?_
    exact R_iM C (pc := 42) hr hk rfl dX7_rowsWith_42 hf
  · refine A_aload_n C (pc := 31) 0 rfl dX7_rowsWith_31 ?_
    refine A_iload_n C (pc := 32) 1 rfl dX7_rowsWith_32 ?_
    refine A_iload_n C (pc := 33) 2 rfl dX7_rowsWith_33 ?_
    refine A_iload_n C (pc := 34) 3 rfl dX7_rowsWith_34 ?_
    obtain ⟨z35, h35, hf⟩ := bd_i hf
    refine A_callV1 C (pc := 35) (A := [.int x1, .int x2, .int x3]) (rest := []) k_X7_140 ky_X7_with kv_X7_with (m_X7_with l B D Y o  h35) (by decide) rfl rfl rfl rfl (Nat.le_of_ble_eq_true rfl) ⟨rfl, rfl, Nat.le_of_ble_eq_true rfl, Nat.le_of_ble_eq_true rfl⟩ ⟨Nat.zero_le _, Nat.zero_le _⟩ dX7_rowsWith_35 ?_
    refine A_goto C (pc := 38) 42 (by decide) dX7_rowsWith_38 ?_
    exact R_iM C (pc := 42) hr hk rfl dX7_rowsWith_42 hf
set_option maxRecDepth 100000 in
theorem w_X7_rowsWith_L23 {M : Mem} {x1 : Int32} {x2 : Int32} {x3 : Int32} {r : Int32 × Mem} (C : Cx p s m args c cX7_rowsWith 4 RX7 B D Y) (hr : meth.sig.returnType = (some .int)) (hk : meth.locks = false)  (hf : f_X7_rowsWith_L23 M x1 x2 x3 = some r) : At p l e rm_X7_rowsWith s m args below meth c 4 0 0 (QQ below args s B D Y r.2 o (some (.int r.1))) B D Y o 23 M [(0, .ref (B + 47)), (1, .int x1), (2, .int x2), (3, .int x3)] [.ref (B + 47)] := by
  dsimp only [f_X7_rowsWith_L23] at hf
  refine A_iconst C (pc := 23) ic_0 dX7_rowsWith_23 ?_
  exact w_X7_rowsWith_L24 C hr hk hf
set_option maxRecDepth 100000 in
theorem m_X7_rowsWith (l : Launch) (B : Nat) (D : va_G) (Y : Nat → ClassId) (o : Ou) {M : Mem} {x1 : Int32} {x2 : Int32} {x3 : Int32} {r : Int32 × Mem}  (hf : f_X7_rowsWith M x1 x2 x3 = some r) : MW l yX7_rowsWith cX7_rowsWith 4 (some .int) rm_X7_rowsWith B D Y o [.ref (B + 47), .int x1, .int x2, .int x3] M r.2 (some (.int r.1)) := by
  refine ofAt (L0 := [(0, .ref (B + 47)), (1, .int x1), (2, .int x2), (3, .int x3)]) (by decide +kernel) (Nat.le_of_ble_eq_true rfl) rfl (fun p e s m args below meth c C hr hk => ?_)
  dsimp only [f_X7_rowsWith] at hf
  refine A_aload_n C (pc := 0) 0 rfl dX7_rowsWith_0 ?_
  refine A_aload_n C (pc := 1) 0 rfl dX7_rowsWith_1 ?_
  refine A_iload_n C (pc := 2) 1 rfl dX7_rowsWith_2 ?_
  refine A_iload_n C (pc := 3) 2 rfl dX7_rowsWith_3 ?_
  obtain ⟨z4, h4, hf⟩ := bd_i hf
  refine A_callV1 C (pc := 4) (A := [.int x1, .int x2]) (rest := [.ref (B + 47)]) k_X7_66 ky_X7_isThing kv_X7_isThing (m_X7_isThing l B D Y o  h4) (by decide) rfl rfl rfl rfl (Nat.le_of_ble_eq_true rfl) ⟨rfl, rfl, Nat.le_of_ble_eq_true rfl, Nat.le_of_ble_eq_true rfl⟩ ⟨Nat.zero_le _, Nat.zero_le _⟩ dX7_rowsWith_4 ?_
  refine A_if_eq C (pc := 7) 23 (by decide) dX7_rowsWith_7 hf (fun _ hf => ?_) (fun _ hf => ?_)
  · exact w_X7_rowsWith_L23 C hr hk hf
  · refine A_aload_n C (pc := 10) 0 rfl dX7_rowsWith_10 ?_
    refine A_iload_n C (pc := 11) 1 rfl dX7_rowsWith_11 ?_
    refine A_iload_n C (pc := 12) 3 rfl dX7_rowsWith_12 ?_
    obtain ⟨z13, h13, hf⟩ := bd_i hf
    refine A_callV1 C (pc := 13) (A := [.int x1, .int x3]) (rest := [.ref (B + 47)]) k_X7_66 ky_X7_isThing kv_X7_isThing (m_X7_isThing l B D Y o  h13) (by decide) rfl rfl rfl rfl (Nat.le_of_ble_eq_true rfl) ⟨rfl, rfl, Nat.le_of_ble_eq_true rfl, Nat.le_of_ble_eq_true rfl⟩ ⟨Nat.zero_le _, Nat.zero_le _⟩ dX7_rowsWith_13 ?_
    refine A_if_eq C (pc := 16) 23 (by decide) dX7_rowsWith_16 hf (fun _ hf => ?_) (fun _ hf => ?_)
    · exact w_X7_rowsWith_L23 C hr hk hf
    · refine A_iconst C (pc := 19) ic_1 dX7_rowsWith_19 ?_
      refine A_goto C (pc := 20) 24 (by decide) dX7_rowsWith_20 ?_
      exact w_X7_rowsWith_L24 C hr hk hf
set_option maxRecDepth 100000 in
theorem m_X7_rowsAt (l : Launch) (B : Nat) (D : va_G) (Y : Nat → ClassId) (o : Ou) {M : Mem} {x1 : Int32} {x2 : Int32} {x3 : Int32} {r : Int32 × Mem}  (hf : f_X7_rowsAt M x1 x2 x3 = some r) : MW l yX7_rowsAt cX7_rowsAt 4 (some .int) rm_X7_rowsAt B D Y o [.ref (B + 47), .int x1, .int x2, .int x3] M r.2 (some (.int r.1)) := by
  refine ofAt (L0 := [(0, .ref (B + 47)), (1, .int x1), (2, .int x2), (3, .int x3)]) (by decide +kernel) (Nat.le_of_ble_eq_true rfl) rfl (fun p e s m args below meth c C hr hk => ?_)
  dsimp only [f_X7_rowsAt] at hf
  refine A_aload_n C (pc := 0) 0 rfl dX7_rowsAt_0 ?_
  refine A_aload_n C (pc := 1) 0 rfl dX7_rowsAt_1 ?_
  refine A_iload_n C (pc := 2) 1 rfl dX7_rowsAt_2 ?_
  refine A_iload_n C (pc := 3) 2 rfl dX7_rowsAt_3 ?_
  obtain ⟨z4, h4, hf⟩ := bd_i hf
  refine A_callV1 C (pc := 4) (A := [.int x1, .int x2]) (rest := [.ref (B + 47)]) k_X7_66 ky_X7_isThing kv_X7_isThing (m_X7_isThing l B D Y o  h4) (by decide) rfl rfl rfl rfl (Nat.le_of_ble_eq_true rfl) ⟨rfl, rfl, Nat.le_of_ble_eq_true rfl, Nat.le_of_ble_eq_true rfl⟩ ⟨Nat.zero_le _, Nat.zero_le _⟩ dX7_rowsAt_4 ?_
  refine A_iconst C (pc := 7) ic_1 dX7_rowsAt_7 ?_
  obtain ⟨z8, h8, hf⟩ := bd_i hf
  refine A_callV1 C (pc := 8) (A := [.int z4, .int 1]) (rest := []) k_X7_51 ky_X7_lets kv_X7_lets (m_X7_lets l B D Y o  h8) (by decide) rfl rfl rfl rfl (Nat.le_of_ble_eq_true rfl) ⟨rfl, rfl, Nat.le_of_ble_eq_true rfl, Nat.le_of_ble_eq_true rfl⟩ ⟨Nat.zero_le _, Nat.zero_le _⟩ dX7_rowsAt_8 ?_
  refine A_if_eq C (pc := 11) 24 (by decide) dX7_rowsAt_11 hf (fun _ hf => ?_) (fun _ hf => ?_)
  · refine A_iconst C (pc := 24) ic_0 dX7_rowsAt_24 ?_
    exact R_iM C (pc := 25) hr hk rfl dX7_rowsAt_25 hf
  · refine A_aload_n C (pc := 14) 0 rfl dX7_rowsAt_14 ?_
    refine A_iload_n C (pc := 15) 1 rfl dX7_rowsAt_15 ?_
    refine A_iload_n C (pc := 16) 2 rfl dX7_rowsAt_16 ?_
    refine A_iload_n C (pc := 17) 3 rfl dX7_rowsAt_17 ?_
    obtain ⟨z18, h18, hf⟩ := bd_i hf
    refine A_callV1 C (pc := 18) (A := [.int x1, .int x2, .int x3]) (rest := []) k_X7_144 ky_X7_at kv_X7_at (m_X7_at l B D Y o  h18) (by decide) rfl rfl rfl rfl (Nat.le_of_ble_eq_true rfl) ⟨rfl, rfl, Nat.le_of_ble_eq_true rfl, Nat.le_of_ble_eq_true rfl⟩ ⟨Nat.zero_le _, Nat.zero_le _⟩ dX7_rowsAt_18 ?_
    refine A_goto C (pc := 21) 25 (by decide) dX7_rowsAt_21 ?_
    exact R_iM C (pc := 25) hr hk rfl dX7_rowsAt_25 hf
set_option maxRecDepth 100000 in
theorem w_X7_meanPlace_L21 {x1 : Int32} {x2 : Int32} {r : UInt64 × Mem} (C : Cx p s m args c cX7_meanPlace 5 RX7 B D Y) (hr : meth.sig.returnType = (some .double)) (hk : meth.locks = false)  : ∀ (n : Nat) (x3 : Int32) (x4 : Int32) (M : Mem), f_X7_meanPlace_L21 x1 x2 n (x3, x4, M) = some r → At p l e rm_X7_meanPlace s m args below meth c 5 0 0 (QQ below args s B D Y r.2 o (some (.double r.1))) B D Y o 21 M [(0, .ref (B + 47)), (1, .int x1), (2, .int x2), (3, .int x3), (4, .int x4)] [] := by
  intro n
  induction n with
  | zero => intro x3 x4 M hf; exact nomatch (show (none : Option (UInt64 × Mem)) = some r from hf)
  | succ n hk21 =>
    intro x3 x4 M hf
    replace hf : g_X7_meanPlace_L21 x1 x2 (f_X7_meanPlace_L21 x1 x2 n) (x3, x4, M) = some r := hf
    dsimp only [g_X7_meanPlace_L21] at hf
    refine A_iload C (pc := 21) 4 rfl dX7_meanPlace_21 ?_
    refine A_aload_n C (pc := 23) 0 rfl dX7_meanPlace_23 ?_
    refine A_g7_0 C (pc := 24) kf_X7_9 dX7_meanPlace_24 ?_
    refine A_iload_n C (pc := 27) 1 rfl dX7_meanPlace_27 ?_
    obtain ⟨c28, hf⟩ := chk_i hf
    refine A_iald C (pc := 28) (show IA 48 5 from ⟨rfl, rfl⟩) c28 dX7_meanPlace_28 ?_
    refine A_icmp_ge C (pc := 29) 52 (by decide) dX7_meanPlace_29 hf (fun _ hf => ?_) (fun _ hf => ?_)
    · refine A_iload_n C (pc := 52) 3 rfl dX7_meanPlace_52 ?_
      refine A_i2d C (pc := 53) dX7_meanPlace_53 ?_
      refine A_aload_n C (pc := 54) 0 rfl dX7_meanPlace_54 ?_
      refine A_iload_n C (pc := 55) 1 rfl dX7_meanPlace_55 ?_
      obtain ⟨z56, h56, hf⟩ := bd_i hf
      refine A_callV1 C (pc := 56) (A := [.int x1]) (rest := [.double (FP.i2d x3)]) k_X7_81 ky_X7_rowsOf kv_X7_rowsOf (m_X7_rowsOf l B D Y o  h56) (by decide) rfl rfl rfl rfl (Nat.le_of_ble_eq_true rfl) ⟨rfl, rfl, Nat.le_of_ble_eq_true rfl, Nat.le_of_ble_eq_true rfl⟩ ⟨Nat.zero_le _, Nat.zero_le _⟩ dX7_meanPlace_56 ?_
      refine A_i2d C (pc := 59) dX7_meanPlace_59 ?_
      obtain ⟨c60, hf⟩ := chk_i hf
      refine A_ddiv C (pc := 60) (nn64_i c60) dX7_meanPlace_60 ?_
      exact R_dM C (pc := 61) hr hk dX7_meanPlace_61 hf
    · refine A_iload_n C (pc := 32) 3 rfl dX7_meanPlace_32 ?_
      refine A_iload C (pc := 33) 4 rfl dX7_meanPlace_33 ?_
      refine A_aload_n C (pc := 35) 0 rfl dX7_meanPlace_35 ?_
      refine A_iload_n C (pc := 36) 1 rfl dX7_meanPlace_36 ?_
      refine A_iload_n C (pc := 37) 2 rfl dX7_meanPlace_37 ?_
      refine A_iload C (pc := 38) 4 rfl dX7_meanPlace_38 ?_
      obtain ⟨z40, h40, hf⟩ := bd_i hf
      refine A_callV1 C (pc := 40) (A := [.int x1, .int x2, .int x4]) (rest := [.int x4, .int x3]) k_X7_144 ky_X7_at kv_X7_at (m_X7_at l B D Y o  h40) (by decide) rfl rfl rfl rfl (Nat.le_of_ble_eq_true rfl) ⟨rfl, rfl, Nat.le_of_ble_eq_true rfl, Nat.le_of_ble_eq_true rfl⟩ ⟨Nat.zero_le _, Nat.zero_le _⟩ dX7_meanPlace_40 ?_
      refine A_imul C (pc := 43) dX7_meanPlace_43 ?_
      refine A_iadd C (pc := 44) dX7_meanPlace_44 ?_
      obtain ⟨v45, e45, hf⟩ := bd_i hf
      refine A_nmI e45 ?_
      refine A_istore_n C (pc := 45) [(0, .ref (B + 47)), (1, .int x1), (2, .int x2), (3, .int v45), (4, .int x4)] rfl (by decide) [1, 2, 3, 0, 4] rfl dX7_meanPlace_45 ?_
      refine A_iinc C (pc := 46) (k0 := 4) [(0, .ref (B + 47)), (1, .int x1), (2, .int x2), (3, .int v45), (4, .int (x4 + 1))] rfl ic_1 (by decide) [1, 2, 3, 4, 0] rfl dX7_meanPlace_46 ?_
      refine A_goto C (pc := 49) 21 (by decide) dX7_meanPlace_49 ?_
      exact hk21 _ _ _ hf
set_option maxRecDepth 100000 in
theorem m_X7_meanPlace (l : Launch) (B : Nat) (D : va_G) (Y : Nat → ClassId) (o : Ou) {M : Mem} {x1 : Int32} {x2 : Int32} {r : UInt64 × Mem}  (hf : f_X7_meanPlace M x1 x2 = some r) : MW l yX7_meanPlace cX7_meanPlace 5 (some .double) rm_X7_meanPlace B D Y o [.ref (B + 47), .int x1, .int x2] M r.2 (some (.double r.1)) := by
  refine ofAt (L0 := [(0, .ref (B + 47)), (1, .int x1), (2, .int x2)]) (by decide +kernel) (Nat.le_of_ble_eq_true rfl) rfl (fun p e s m args below meth c C hr hk => ?_)
  dsimp only [f_X7_meanPlace] at hf
  refine A_aload_n C (pc := 0) 0 rfl dX7_meanPlace_0 ?_
  refine A_aload_n C (pc := 1) 0 rfl dX7_meanPlace_1 ?_
  refine A_iload_n C (pc := 2) 1 rfl dX7_meanPlace_2 ?_
  refine A_iload_n C (pc := 3) 2 rfl dX7_meanPlace_3 ?_
  obtain ⟨z4, h4, hf⟩ := bd_i hf
  refine A_callV1 C (pc := 4) (A := [.int x1, .int x2]) (rest := [.ref (B + 47)]) k_X7_66 ky_X7_isThing kv_X7_isThing (m_X7_isThing l B D Y o  h4) (by decide) rfl rfl rfl rfl (Nat.le_of_ble_eq_true rfl) ⟨rfl, rfl, Nat.le_of_ble_eq_true rfl, Nat.le_of_ble_eq_true rfl⟩ ⟨Nat.zero_le _, Nat.zero_le _⟩ dX7_meanPlace_4 ?_
  refine A_iconst C (pc := 7) ic_1 dX7_meanPlace_7 ?_
  obtain ⟨z8, h8, hf⟩ := bd_i hf
  refine A_callV1 C (pc := 8) (A := [.int z4, .int 1]) (rest := []) k_X7_51 ky_X7_lets kv_X7_lets (m_X7_lets l B D Y o  h8) (by decide) rfl rfl rfl rfl (Nat.le_of_ble_eq_true rfl) ⟨rfl, rfl, Nat.le_of_ble_eq_true rfl, Nat.le_of_ble_eq_true rfl⟩ ⟨Nat.zero_le _, Nat.zero_le _⟩ dX7_meanPlace_8 ?_
  refine A_if_ne C (pc := 11) 16 (by decide) dX7_meanPlace_11 hf (fun _ hf => ?_) (fun _ hf => ?_)
  · refine A_iconst C (pc := 16) ic_0 dX7_meanPlace_16 ?_
    refine A_istore_n C (pc := 17) [(0, .ref (B + 47)), (1, .int x1), (2, .int x2), (3, .int 0)] rfl (by decide) [1, 2, 3, 0] rfl dX7_meanPlace_17 ?_
    refine A_iconst C (pc := 18) ic_0 dX7_meanPlace_18 ?_
    refine A_istore C (pc := 19) [(0, .ref (B + 47)), (1, .int x1), (2, .int x2), (3, .int 0), (4, .int 0)] (by decide) [1, 2, 3, 4, 0] rfl dX7_meanPlace_19 ?_
    exact w_X7_meanPlace_L21 C hr hk FU _ _ _  hf
  · refine A_dconst0 C (pc := 14) dX7_meanPlace_14 ?_
    exact R_dM C (pc := 15) hr hk dX7_meanPlace_15 hf
set_option maxRecDepth 100000 in
theorem w_X7_share_L24 {M : Mem} {x1 : Int32} {x2 : Int32} {x3 : Int32} {y0 : Int32} {r : UInt32 × Mem} (C : Cx p s m args c cX7_share 5 RX7 B D Y) (hr : meth.sig.returnType = (some .float)) (hk : meth.locks = false)  (hf : f_X7_share_L24 M x1 x2 x3 y0 = some r) : At p l e rm_X7_share s m args below meth c 5 0 0 (QQ below args s B D Y r.2 o (some (.float r.1))) B D Y o 24 M [(0, .ref (B + 47)), (1, .int x1), (2, .int x2), (3, .int x3)] [.int y0, .ref (B + 47)] := by
  dsimp only [f_X7_share_L24] at hf
  refine A_iconst C (pc := 24) ic_1 dX7_share_24 ?_
  obtain ⟨z25, h25, hf⟩ := bd_i hf
  refine A_callV1 C (pc := 25) (A := [.int y0, .int 1]) (rest := []) k_X7_51 ky_X7_lets kv_X7_lets (m_X7_lets l B D Y o  h25) (by decide) rfl rfl rfl rfl (Nat.le_of_ble_eq_true rfl) ⟨rfl, rfl, Nat.le_of_ble_eq_true rfl, Nat.le_of_ble_eq_true rfl⟩ ⟨Nat.zero_le _, Nat.zero_le _⟩ dX7_share_25 ?_
  refine A_if_ne C (pc := 28) 33 (by decide) dX7_share_28 hf (fun _ hf => ?_) (fun _ hf => ?_)
  · refine A_aload_n C (pc := 33) 0 rfl dX7_share_33 ?_
    refine A_iload_n C (pc := 34) 1 rfl dX7_share_34 ?_
    refine A_iload_n C (pc := 35) 2 rfl dX7_share_35 ?_
    refine A_iload_n C (pc := 36) 3 rfl dX7_share_36 ?_
    obtain ⟨z37, h37, hf⟩ := bd_i hf
    refine A_callV1 C (pc := 37) (A := [.int x1, .int x2, .int x3]) (rest := []) k_X7_140 ky_X7_with kv_X7_with (m_X7_with l B D Y o  h37) (by decide) rfl rfl rfl rfl (Nat.le_of_ble_eq_true rfl) ⟨rfl, rfl, Nat.le_of_ble_eq_true rfl, Nat.le_of_ble_eq_true rfl⟩ ⟨Nat.zero_le _, Nat.zero_le _⟩ dX7_share_37 ?_
    refine A_istore C (pc := 40) [(0, .ref (B + 47)), (1, .int x1), (4, .int z37.1)] (by decide) [1, 2, 0] rfl dX7_share_40 ?_
    refine A_iload C (pc := 42) 2 rfl dX7_share_42 ?_
    refine A_i2f C (pc := 44) dX7_share_44 ?_
    refine A_aload_n C (pc := 45) 0 rfl dX7_share_45 ?_
    refine A_iload_n C (pc := 46) 1 rfl dX7_share_46 ?_
    obtain ⟨z47, h47, hf⟩ := bd_i hf
    refine A_callV1 C (pc := 47) (A := [.int x1]) (rest := [.float (FP.i2f z37.1)]) k_X7_81 ky_X7_rowsOf kv_X7_rowsOf (m_X7_rowsOf l B D Y o  h47) (by decide) rfl rfl rfl rfl (Nat.le_of_ble_eq_true rfl) ⟨rfl, rfl, Nat.le_of_ble_eq_true rfl, Nat.le_of_ble_eq_true rfl⟩ ⟨Nat.zero_le _, Nat.zero_le _⟩ dX7_share_47 ?_
    refine A_i2f C (pc := 50) dX7_share_50 ?_
    obtain ⟨c51, hf⟩ := chk_i hf
    refine A_fdiv C (pc := 51) (nn32_i c51) dX7_share_51 ?_
    exact R_fM C (pc := 52) hr hk dX7_share_52 hf
  · refine A_fconst0 C (pc := 31) dX7_share_31 ?_
    exact R_fM C (pc := 32) hr hk dX7_share_32 hf
set_option maxRecDepth 100000 in
theorem w_X7_share_L23 {M : Mem} {x1 : Int32} {x2 : Int32} {x3 : Int32} {r : UInt32 × Mem} (C : Cx p s m args c cX7_share 5 RX7 B D Y) (hr : meth.sig.returnType = (some .float)) (hk : meth.locks = false)  (hf : f_X7_share_L23 M x1 x2 x3 = some r) : At p l e rm_X7_share s m args below meth c 5 0 0 (QQ below args s B D Y r.2 o (some (.float r.1))) B D Y o 23 M [(0, .ref (B + 47)), (1, .int x1), (2, .int x2), (3, .int x3)] [.ref (B + 47)] := by
  dsimp only [f_X7_share_L23] at hf
  refine A_iconst C (pc := 23) ic_0 dX7_share_23 ?_
  exact w_X7_share_L24 C hr hk hf
set_option maxRecDepth 100000 in
theorem m_X7_share (l : Launch) (B : Nat) (D : va_G) (Y : Nat → ClassId) (o : Ou) {M : Mem} {x1 : Int32} {x2 : Int32} {x3 : Int32} {r : UInt32 × Mem}  (hf : f_X7_share M x1 x2 x3 = some r) : MW l yX7_share cX7_share 5 (some .float) rm_X7_share B D Y o [.ref (B + 47), .int x1, .int x2, .int x3] M r.2 (some (.float r.1)) := by
  refine ofAt (L0 := [(0, .ref (B + 47)), (1, .int x1), (2, .int x2), (3, .int x3)]) (by decide +kernel) (Nat.le_of_ble_eq_true rfl) rfl (fun p e s m args below meth c C hr hk => ?_)
  dsimp only [f_X7_share] at hf
  refine A_aload_n C (pc := 0) 0 rfl dX7_share_0 ?_
  refine A_aload_n C (pc := 1) 0 rfl dX7_share_1 ?_
  refine A_iload_n C (pc := 2) 1 rfl dX7_share_2 ?_
  refine A_iload_n C (pc := 3) 2 rfl dX7_share_3 ?_
  obtain ⟨z4, h4, hf⟩ := bd_i hf
  refine A_callV1 C (pc := 4) (A := [.int x1, .int x2]) (rest := [.ref (B + 47)]) k_X7_66 ky_X7_isThing kv_X7_isThing (m_X7_isThing l B D Y o  h4) (by decide) rfl rfl rfl rfl (Nat.le_of_ble_eq_true rfl) ⟨rfl, rfl, Nat.le_of_ble_eq_true rfl, Nat.le_of_ble_eq_true rfl⟩ ⟨Nat.zero_le _, Nat.zero_le _⟩ dX7_share_4 ?_
  refine A_if_eq C (pc := 7) 23 (by decide) dX7_share_7 hf (fun _ hf => ?_) (fun _ hf => ?_)
  · exact w_X7_share_L23 C hr hk hf
  · refine A_aload_n C (pc := 10) 0 rfl dX7_share_10 ?_
    refine A_iload_n C (pc := 11) 1 rfl dX7_share_11 ?_
    refine A_iload_n C (pc := 12) 3 rfl dX7_share_12 ?_
    obtain ⟨z13, h13, hf⟩ := bd_i hf
    refine A_callV1 C (pc := 13) (A := [.int x1, .int x3]) (rest := [.ref (B + 47)]) k_X7_66 ky_X7_isThing kv_X7_isThing (m_X7_isThing l B D Y o  h13) (by decide) rfl rfl rfl rfl (Nat.le_of_ble_eq_true rfl) ⟨rfl, rfl, Nat.le_of_ble_eq_true rfl, Nat.le_of_ble_eq_true rfl⟩ ⟨Nat.zero_le _, Nat.zero_le _⟩ dX7_share_13 ?_
    refine A_if_eq C (pc := 16) 23 (by decide) dX7_share_16 hf (fun _ hf => ?_) (fun _ hf => ?_)
    · exact w_X7_share_L23 C hr hk hf
    · refine A_iconst C (pc := 19) ic_1 dX7_share_19 ?_
      refine A_goto C (pc := 20) 24 (by decide) dX7_share_20 ?_
      exact w_X7_share_L24 C hr hk hf
set_option maxRecDepth 100000 in
theorem w_X7_sumOf_L5 {M : Mem} {x1 : Int32} {x2 : Int32} {r : Int32} (C : Cx p s m args c cX7_sumOf 5 RX7 B D Y) (hr : meth.sig.returnType = (some .int)) (hk : meth.locks = false)  : ∀ (n : Nat) (x3 : Int32) (x4 : Int32), f_X7_sumOf_L5 M x1 x2 n (x3, x4) = some r → At p l e rm_X7_sumOf s m args below meth c 5 0 0 (QQ below args s B D Y M o (some (.int r))) B D Y o 5 M [(0, .ref (B + 47)), (1, .int x1), (2, .int x2), (3, .int x3), (4, .int x4)] [] := by
  intro n
  induction n with
  | zero => intro x3 x4 hf; exact nomatch (show (none : Option Int32) = some r from hf)
  | succ n hk5 =>
    intro x3 x4 hf
    replace hf : g_X7_sumOf_L5 M x1 x2 (f_X7_sumOf_L5 M x1 x2 n) (x3, x4) = some r := hf
    dsimp only [g_X7_sumOf_L5] at hf
    refine A_iload C (pc := 5) 4 rfl dX7_sumOf_5 ?_
    refine A_aload_n C (pc := 7) 0 rfl dX7_sumOf_7 ?_
    refine A_g7_0 C (pc := 8) kf_X7_9 dX7_sumOf_8 ?_
    refine A_iload_n C (pc := 11) 1 rfl dX7_sumOf_11 ?_
    obtain ⟨c12, hf⟩ := chk_i hf
    refine A_iald C (pc := 12) (show IA 48 5 from ⟨rfl, rfl⟩) c12 dX7_sumOf_12 ?_
    refine A_icmp_ge C (pc := 13) 49 (by decide) dX7_sumOf_13 hf (fun _ hf => ?_) (fun _ hf => ?_)
    · refine A_iload_n C (pc := 49) 3 rfl dX7_sumOf_49 ?_
      exact R_iP C (pc := 50) hr hk rfl dX7_sumOf_50 hf
    · refine A_iload_n C (pc := 16) 3 rfl dX7_sumOf_16 ?_
      refine A_aload_n C (pc := 17) 0 rfl dX7_sumOf_17 ?_
      refine A_iload_n C (pc := 18) 1 rfl dX7_sumOf_18 ?_
      refine A_iload C (pc := 19) 4 rfl dX7_sumOf_19 ?_
      refine A_iload_n C (pc := 21) 2 rfl dX7_sumOf_21 ?_
      obtain ⟨z22, h22, hf⟩ := bd_i hf
      refine A_callV1 C (pc := 22) (A := [.int x1, .int x4, .int x2]) (rest := [.int x3]) k_X7_75 ky_X7_isUpTo kv_X7_isUpTo (m_X7_isUpTo l B D Y o  h22) (by decide) rfl rfl rfl rfl (Nat.le_of_ble_eq_true rfl) ⟨rfl, rfl, Nat.le_of_ble_eq_true rfl, Nat.le_of_ble_eq_true rfl⟩ ⟨Nat.zero_le _, Nat.zero_le _⟩ dX7_sumOf_22 ?_
      refine A_if_eq C (pc := 25) 40 (by decide) dX7_sumOf_25 hf (fun _ hf => ?_) (fun _ hf => ?_)
      · refine A_iconst C (pc := 40) ic_0 dX7_sumOf_40 ?_
        refine A_iadd C (pc := 41) dX7_sumOf_41 ?_
        obtain ⟨v42, e42, hf⟩ := bd_i hf
        refine A_nmI e42 ?_
        refine A_istore_n C (pc := 42) [(0, .ref (B + 47)), (1, .int x1), (2, .int x2), (3, .int v42), (4, .int x4)] rfl (by decide) [1, 2, 3, 0, 4] rfl dX7_sumOf_42 ?_
        refine A_iinc C (pc := 43) (k0 := 4) [(0, .ref (B + 47)), (1, .int x1), (2, .int x2), (3, .int v42), (4, .int (x4 + 1))] rfl ic_1 (by decide) [1, 2, 3, 4, 0] rfl dX7_sumOf_43 ?_
        refine A_goto C (pc := 46) 5 (by decide) dX7_sumOf_46 ?_
        exact hk5 _ _ hf
      · refine A_aload_n C (pc := 28) 0 rfl dX7_sumOf_28 ?_
        refine A_g7_1 C (pc := 29) kf_X7_15 dX7_sumOf_29 ?_
        refine A_iload_n C (pc := 32) 1 rfl dX7_sumOf_32 ?_
        obtain ⟨c33, hf⟩ := chk_i hf
        refine A_aV C (pc := 33) c33 dX7_sumOf_33 ?_
        refine A_iload C (pc := 34) 4 rfl dX7_sumOf_34 ?_
        obtain ⟨c36, hf⟩ := chk_i hf
        refine A_iald C (pc := 36) (iVal (inb_lt c33)) c36 dX7_sumOf_36 ?_
        refine A_goto C (pc := 37) 41 (by decide) dX7_sumOf_37 ?_
        refine A_iadd C (pc := 41) dX7_sumOf_41 ?_
        obtain ⟨v42, e42, hf⟩ := bd_i hf
        refine A_nmI e42 ?_
        refine A_istore_n C (pc := 42) [(0, .ref (B + 47)), (1, .int x1), (2, .int x2), (3, .int v42), (4, .int x4)] rfl (by decide) [1, 2, 3, 0, 4] rfl dX7_sumOf_42 ?_
        refine A_iinc C (pc := 43) (k0 := 4) [(0, .ref (B + 47)), (1, .int x1), (2, .int x2), (3, .int v42), (4, .int (x4 + 1))] rfl ic_1 (by decide) [1, 2, 3, 4, 0] rfl dX7_sumOf_43 ?_
        refine A_goto C (pc := 46) 5 (by decide) dX7_sumOf_46 ?_
        exact hk5 _ _ hf
set_option maxRecDepth 100000 in
theorem m_X7_sumOf (l : Launch) (B : Nat) (D : va_G) (Y : Nat → ClassId) (o : Ou) {M : Mem} {x1 : Int32} {x2 : Int32} {r : Int32}  (hf : f_X7_sumOf M x1 x2 = some r) : MW l yX7_sumOf cX7_sumOf 5 (some .int) rm_X7_sumOf B D Y o [.ref (B + 47), .int x1, .int x2] M M (some (.int r)) := by
  refine ofAt (L0 := [(0, .ref (B + 47)), (1, .int x1), (2, .int x2)]) (by decide +kernel) (Nat.le_of_ble_eq_true rfl) rfl (fun p e s m args below meth c C hr hk => ?_)
  dsimp only [f_X7_sumOf] at hf
  refine A_iconst C (pc := 0) ic_0 dX7_sumOf_0 ?_
  refine A_istore_n C (pc := 1) [(0, .ref (B + 47)), (1, .int x1), (2, .int x2), (3, .int 0)] rfl (by decide) [1, 2, 3, 0] rfl dX7_sumOf_1 ?_
  refine A_iconst C (pc := 2) ic_0 dX7_sumOf_2 ?_
  refine A_istore C (pc := 3) [(0, .ref (B + 47)), (1, .int x1), (2, .int x2), (3, .int 0), (4, .int 0)] (by decide) [1, 2, 3, 4, 0] rfl dX7_sumOf_3 ?_
  exact w_X7_sumOf_L5 C hr hk FU _ _  hf
set_option maxRecDepth 100000 in
theorem w_X7_numberOf_L13 {M : Mem} {x1 : Int32} {x2 : Int32} {x3 : Int32} {r : Int32} (C : Cx p s m args c cX7_numberOf 6 RX7 B D Y) (hr : meth.sig.returnType = (some .int)) (hk : meth.locks = false) {nn : Nat} {rec : (Mem × Int32 × Int32 × Int32) → Option Int32} (hrec : ∀ (M : Mem) (x1 : Int32) (x2 : Int32) (x3 : Int32) (r : Int32) , rec (M, x1, x2, x3) = some r → MW l yX7_numberOf cX7_numberOf 6 (some .int) (rm_X7_numberOf nn) B D Y o [.ref (B + 47), .int x1, .int x2, .int x3] M M (some (.int r)))  : ∀ (n : Nat) (x4 : Int32) (x5 : Int32), f_X7_numberOf_L13 M x1 x2 x3 rec n (x4, x5) = some r → At p l e (rm_X7_numberOf (nn + 1)) s m args below meth c 6 0 0 (QQ below args s B D Y M o (some (.int r))) B D Y o 13 M [(0, .ref (B + 47)), (1, .int x1), (2, .int x2), (3, .int x3), (4, .int x4), (5, .int x5)] [] := by
  intro n
  induction n with
  | zero => intro x4 x5 hf; exact nomatch (show (none : Option Int32) = some r from hf)
  | succ n hk13 =>
    intro x4 x5 hf
    replace hf : g_X7_numberOf_L13 M x1 x2 x3 rec (f_X7_numberOf_L13 M x1 x2 x3 rec n) (x4, x5) = some r := hf
    dsimp only [g_X7_numberOf_L13] at hf
    refine A_iload C (pc := 13) 5 rfl dX7_numberOf_13 ?_
    refine A_aload_n C (pc := 15) 0 rfl dX7_numberOf_15 ?_
    refine A_g7_0 C (pc := 16) kf_X7_9 dX7_numberOf_16 ?_
    refine A_iload_n C (pc := 19) 1 rfl dX7_numberOf_19 ?_
    obtain ⟨c20, hf⟩ := chk_i hf
    refine A_iald C (pc := 20) (show IA 48 5 from ⟨rfl, rfl⟩) c20 dX7_numberOf_20 ?_
    refine A_icmp_ge C (pc := 21) 72 (by decide) dX7_numberOf_21 hf (fun _ hf => ?_) (fun _ hf => ?_)
    · refine A_iload C (pc := 72) 4 rfl dX7_numberOf_72 ?_
      refine A_ineg C (pc := 74) dX7_numberOf_74 ?_
      exact R_iP C (pc := 75) hr hk rfl dX7_numberOf_75 hf
    · refine A_iload C (pc := 24) 4 rfl dX7_numberOf_24 ?_
      refine A_aload_n C (pc := 26) 0 rfl dX7_numberOf_26 ?_
      refine A_iload_n C (pc := 27) 1 rfl dX7_numberOf_27 ?_
      refine A_iload_n C (pc := 28) 2 rfl dX7_numberOf_28 ?_
      refine A_iload C (pc := 29) 5 rfl dX7_numberOf_29 ?_
      obtain ⟨z31, h31, hf⟩ := bd_i hf
      refine A_callV1 C (pc := 31) (A := [.int x1, .int x2, .int x5]) (rest := [.int x4]) k_X7_75 ky_X7_isUpTo kv_X7_isUpTo (m_X7_isUpTo l B D Y o  h31) (by decide) rfl rfl rfl rfl (Nat.le_of_ble_eq_true rfl) ⟨rfl, rfl, (by simp only [rm_X7_isUpTo, rm_X7_numberOf]; omega), (by simp only [rm_X7_isUpTo, rm_X7_numberOf]; omega)⟩ ⟨Nat.zero_le _, Nat.zero_le _⟩ dX7_numberOf_31 ?_
      refine A_if_eq C (pc := 34) 62 (by decide) dX7_numberOf_34 hf (fun _ hf => ?_) (fun _ hf => ?_)
      · refine A_iconst C (pc := 62) ic_0 dX7_numberOf_62 ?_
        refine A_iadd C (pc := 63) dX7_numberOf_63 ?_
        obtain ⟨v64, e64, hf⟩ := bd_i hf
        refine A_nmI e64 ?_
        refine A_istore C (pc := 64) [(0, .ref (B + 47)), (1, .int x1), (2, .int x2), (3, .int x3), (4, .int v64), (5, .int x5)] (by decide) [1, 2, 3, 4, 0, 5] rfl dX7_numberOf_64 ?_
        refine A_iinc C (pc := 66) (k0 := 5) [(0, .ref (B + 47)), (1, .int x1), (2, .int x2), (3, .int x3), (4, .int v64), (5, .int (x5 + 1))] rfl ic_1 (by decide) [1, 2, 3, 4, 5, 0] rfl dX7_numberOf_66 ?_
        refine A_goto C (pc := 69) 13 (by decide) dX7_numberOf_69 ?_
        exact hk13 _ _ hf
      · refine A_aload_n C (pc := 37) 0 rfl dX7_numberOf_37 ?_
        refine A_g7_2 C (pc := 38) kf_X7_20 dX7_numberOf_38 ?_
        refine A_iload_n C (pc := 41) 1 rfl dX7_numberOf_41 ?_
        obtain ⟨c42, hf⟩ := chk_i hf
        refine A_aB C (pc := 42) c42 dX7_numberOf_42 ?_
        refine A_iload C (pc := 43) 5 rfl dX7_numberOf_43 ?_
        obtain ⟨c45, hf⟩ := chk_i hf
        refine A_aR C (pc := 45) (kBel (inb_lt c42)) c45 dX7_numberOf_45 ?_
        refine A_iload_n C (pc := 46) 3 rfl dX7_numberOf_46 ?_
        obtain ⟨c47, hf⟩ := chk_i hf
        refine A_zald C (pc := 47) (kRow (kBel (inb_lt c42)) (inb_lt c45)) c47 dX7_numberOf_47 ?_
        refine A_if_eq C (pc := 48) 62 (by decide) dX7_numberOf_48 hf (fun _ hf => ?_) (fun _ hf => ?_)
        · refine A_iconst C (pc := 62) ic_0 dX7_numberOf_62 ?_
          refine A_iadd C (pc := 63) dX7_numberOf_63 ?_
          obtain ⟨v64, e64, hf⟩ := bd_i hf
          refine A_nmI e64 ?_
          refine A_istore C (pc := 64) [(0, .ref (B + 47)), (1, .int x1), (2, .int x2), (3, .int x3), (4, .int v64), (5, .int x5)] (by decide) [1, 2, 3, 4, 0, 5] rfl dX7_numberOf_64 ?_
          refine A_iinc C (pc := 66) (k0 := 5) [(0, .ref (B + 47)), (1, .int x1), (2, .int x2), (3, .int x3), (4, .int v64), (5, .int (x5 + 1))] rfl ic_1 (by decide) [1, 2, 3, 4, 5, 0] rfl dX7_numberOf_66 ?_
          refine A_goto C (pc := 69) 13 (by decide) dX7_numberOf_69 ?_
          exact hk13 _ _ hf
        · refine A_aload_n C (pc := 51) 0 rfl dX7_numberOf_51 ?_
          refine A_iload_n C (pc := 52) 1 rfl dX7_numberOf_52 ?_
          refine A_iload_n C (pc := 53) 2 rfl dX7_numberOf_53 ?_
          refine A_iload C (pc := 54) 5 rfl dX7_numberOf_54 ?_
          obtain ⟨z56, h56, hf⟩ := bd_i hf
          refine A_callV1 C (pc := 56) (A := [.int x1, .int x2, .int x5]) (rest := [.int x4]) k_X7_147 ky_X7_numberOf kv_X7_numberOf (hrec _ _ _ _ _  h56) (by decide) rfl rfl rfl rfl (Nat.le_of_ble_eq_true rfl) ⟨rfl, rfl, (by simp only [rm_X7_numberOf]; omega), (by simp only [rm_X7_numberOf]; omega)⟩ ⟨Nat.zero_le _, Nat.zero_le _⟩ dX7_numberOf_56 ?_
          refine A_goto C (pc := 59) 63 (by decide) dX7_numberOf_59 ?_
          refine A_iadd C (pc := 63) dX7_numberOf_63 ?_
          obtain ⟨v64, e64, hf⟩ := bd_i hf
          refine A_nmI e64 ?_
          refine A_istore C (pc := 64) [(0, .ref (B + 47)), (1, .int x1), (2, .int x2), (3, .int x3), (4, .int v64), (5, .int x5)] (by decide) [1, 2, 3, 4, 0, 5] rfl dX7_numberOf_64 ?_
          refine A_iinc C (pc := 66) (k0 := 5) [(0, .ref (B + 47)), (1, .int x1), (2, .int x2), (3, .int x3), (4, .int v64), (5, .int (x5 + 1))] rfl ic_1 (by decide) [1, 2, 3, 4, 5, 0] rfl dX7_numberOf_66 ?_
          refine A_goto C (pc := 69) 13 (by decide) dX7_numberOf_69 ?_
          exact hk13 _ _ hf
set_option maxRecDepth 100000 in
theorem m_X7_numberOf (l : Launch) (B : Nat) (D : va_G) (Y : Nat → ClassId) (o : Ou)  : ∀ (n : Nat) (M : Mem) (x1 : Int32) (x2 : Int32) (x3 : Int32) (r : Int32) , f_X7_numberOf n (M, x1, x2, x3) = some r → MW l yX7_numberOf cX7_numberOf 6 (some .int) (rm_X7_numberOf n) B D Y o [.ref (B + 47), .int x1, .int x2, .int x3] M M (some (.int r)) := by
  intro nn
  induction nn with
  | zero => intro M x1 x2 x3 r  hf; exact nomatch (show (none : Option Int32) = some r from hf)
  | succ nn hrec =>
    intro M x1 x2 x3 r  hf
    replace hf : b_X7_numberOf (f_X7_numberOf nn) (M, x1, x2, x3) = some r := hf
    dsimp only [b_X7_numberOf] at hf
    refine ofAt (L0 := [(0, .ref (B + 47)), (1, .int x1), (2, .int x2), (3, .int x3)]) (by decide +kernel) (Nat.le_of_ble_eq_true rfl) rfl (fun p e s m args below meth c C hr hk => ?_)
    refine A_iload_n C (pc := 0) 2 rfl dX7_numberOf_0 ?_
    refine A_iload_n C (pc := 1) 3 rfl dX7_numberOf_1 ?_
    refine A_icmp_ne C (pc := 2) 7 (by decide) dX7_numberOf_2 hf (fun _ hf => ?_) (fun _ hf => ?_)
    · refine A_iconst C (pc := 7) ic_0 dX7_numberOf_7 ?_
      refine A_istore C (pc := 8) [(0, .ref (B + 47)), (1, .int x1), (2, .int x2), (3, .int x3), (4, .int 0)] (by decide) [1, 2, 3, 4, 0] rfl dX7_numberOf_8 ?_
      refine A_iconst C (pc := 10) ic_0 dX7_numberOf_10 ?_
      refine A_istore C (pc := 11) [(0, .ref (B + 47)), (1, .int x1), (2, .int x2), (3, .int x3), (4, .int 0), (5, .int 0)] (by decide) [1, 2, 3, 4, 5, 0] rfl dX7_numberOf_11 ?_
      exact w_X7_numberOf_L13 C hr hk hrec FU _ _  hf
    · refine A_iconst C (pc := 5) ic_1 dX7_numberOf_5 ?_
      exact R_iP C (pc := 6) hr hk rfl dX7_numberOf_6 hf
set_option maxRecDepth 100000 in
theorem m_X7_sum (l : Launch) (B : Nat) (D : va_G) (Y : Nat → ClassId) (o : Ou) {M : Mem} {x1 : Int32} {x2 : Int32} {r : Int32 × Mem}  (hf : f_X7_sum M x1 x2 = some r) : MW l yX7_sum cX7_sum 3 (some .int) rm_X7_sum B D Y o [.ref (B + 47), .int x1, .int x2] M r.2 (some (.int r.1)) := by
  refine ofAt (L0 := [(0, .ref (B + 47)), (1, .int x1), (2, .int x2)]) (by decide +kernel) (Nat.le_of_ble_eq_true rfl) rfl (fun p e s m args below meth c C hr hk => ?_)
  dsimp only [f_X7_sum] at hf
  refine A_aload_n C (pc := 0) 0 rfl dX7_sum_0 ?_
  refine A_aload_n C (pc := 1) 0 rfl dX7_sum_1 ?_
  refine A_iload_n C (pc := 2) 1 rfl dX7_sum_2 ?_
  refine A_iload_n C (pc := 3) 2 rfl dX7_sum_3 ?_
  obtain ⟨z4, h4, hf⟩ := bd_i hf
  refine A_callV1 C (pc := 4) (A := [.int x1, .int x2]) (rest := [.ref (B + 47)]) k_X7_66 ky_X7_isThing kv_X7_isThing (m_X7_isThing l B D Y o  h4) (by decide) rfl rfl rfl rfl (Nat.le_of_ble_eq_true rfl) ⟨rfl, rfl, Nat.le_of_ble_eq_true rfl, Nat.le_of_ble_eq_true rfl⟩ ⟨Nat.zero_le _, Nat.zero_le _⟩ dX7_sum_4 ?_
  refine A_iconst C (pc := 7) ic_1 dX7_sum_7 ?_
  obtain ⟨z8, h8, hf⟩ := bd_i hf
  refine A_callV1 C (pc := 8) (A := [.int z4, .int 1]) (rest := []) k_X7_51 ky_X7_lets kv_X7_lets (m_X7_lets l B D Y o  h8) (by decide) rfl rfl rfl rfl (Nat.le_of_ble_eq_true rfl) ⟨rfl, rfl, Nat.le_of_ble_eq_true rfl, Nat.le_of_ble_eq_true rfl⟩ ⟨Nat.zero_le _, Nat.zero_le _⟩ dX7_sum_8 ?_
  refine A_if_eq C (pc := 11) 23 (by decide) dX7_sum_11 hf (fun _ hf => ?_) (fun _ hf => ?_)
  · refine A_iconst C (pc := 23) ic_0 dX7_sum_23 ?_
    exact R_iM C (pc := 24) hr hk rfl dX7_sum_24 hf
  · refine A_aload_n C (pc := 14) 0 rfl dX7_sum_14 ?_
    refine A_iload_n C (pc := 15) 1 rfl dX7_sum_15 ?_
    refine A_iload_n C (pc := 16) 2 rfl dX7_sum_16 ?_
    obtain ⟨z17, h17, hf⟩ := bd_i hf
    refine A_callV1 C (pc := 17) (A := [.int x1, .int x2]) (rest := []) k_X7_150 ky_X7_sumOf kv_X7_sumOf (m_X7_sumOf l B D Y o  h17) (by decide) rfl rfl rfl rfl (Nat.le_of_ble_eq_true rfl) ⟨rfl, rfl, Nat.le_of_ble_eq_true rfl, Nat.le_of_ble_eq_true rfl⟩ ⟨Nat.zero_le _, Nat.zero_le _⟩ dX7_sum_17 ?_
    refine A_goto C (pc := 20) 24 (by decide) dX7_sum_20 ?_
    exact R_iM C (pc := 24) hr hk rfl dX7_sum_24 hf
set_option maxRecDepth 100000 in
theorem w_X7_number_L24 {M : Mem} {x1 : Int32} {x2 : Int32} {x3 : Int32} {y0 : Int32} {r : Int32 × Mem} (C : Cx p s m args c cX7_number 4 RX7 B D Y) (hr : meth.sig.returnType = (some .int)) (hk : meth.locks = false)  (hf : f_X7_number_L24 M x1 x2 x3 y0 = some r) : At p l e rm_X7_number s m args below meth c 4 0 0 (QQ below args s B D Y r.2 o (some (.int r.1))) B D Y o 24 M [(0, .ref (B + 47)), (1, .int x1), (2, .int x2), (3, .int x3)] [.int y0, .ref (B + 47)] := by
  dsimp only [f_X7_number_L24] at hf
  refine A_iconst C (pc := 24) ic_1 dX7_number_24 ?_
  obtain ⟨z25, h25, hf⟩ := bd_i hf
  refine A_callV1 C (pc := 25) (A := [.int y0, .int 1]) (rest := []) k_X7_51 ky_X7_lets kv_X7_lets (m_X7_lets l B D Y o  h25) (by decide) rfl rfl rfl rfl (Nat.le_of_ble_eq_true rfl) ⟨rfl, rfl, Nat.le_of_ble_eq_true rfl, Nat.le_of_ble_eq_true rfl⟩ ⟨Nat.zero_le _, Nat.zero_le _⟩ dX7_number_25 ?_
  refine A_if_eq C (pc := 28) 41 (by decide) dX7_number_28 hf (fun _ hf => ?_) (fun _ hf => ?_)
  · refine A_iconst C (pc := 41) ic_0 dX7_number_41 ?_
    exact R_iM C (pc := 42) hr hk rfl dX7_number_42 hf
  · refine A_aload_n C (pc := 31) 0 rfl dX7_number_31 ?_
    refine A_iload_n C (pc := 32) 1 rfl dX7_number_32 ?_
    refine A_iload_n C (pc := 33) 2 rfl dX7_number_33 ?_
    refine A_iload_n C (pc := 34) 3 rfl dX7_number_34 ?_
    obtain ⟨z35, h35, hf⟩ := bd_i hf
    refine A_callV1 C (pc := 35) (A := [.int x1, .int x2, .int x3]) (rest := []) k_X7_147 ky_X7_numberOf kv_X7_numberOf (m_X7_numberOf l B D Y o RD _ _ _ _ _  h35) (by decide) rfl rfl rfl rfl (Nat.le_of_ble_eq_true rfl) ⟨rfl, rfl, Nat.le_of_ble_eq_true rfl, Nat.le_of_ble_eq_true rfl⟩ ⟨Nat.zero_le _, Nat.zero_le _⟩ dX7_number_35 ?_
    refine A_goto C (pc := 38) 42 (by decide) dX7_number_38 ?_
    exact R_iM C (pc := 42) hr hk rfl dX7_number_42 hf
set_option maxRecDepth 100000 in
theorem w_X7_number_L23 {M : Mem} {x1 : Int32} {x2 : Int32} {x3 : Int32} {r : Int32 × Mem} (C : Cx p s m args c cX7_number 4 RX7 B D Y) (hr : meth.sig.returnType = (some .int)) (hk : meth.locks = false)  (hf : f_X7_number_L23 M x1 x2 x3 = some r) : At p l e rm_X7_number s m args below meth c 4 0 0 (QQ below args s B D Y r.2 o (some (.int r.1))) B D Y o 23 M [(0, .ref (B + 47)), (1, .int x1), (2, .int x2), (3, .int x3)] [.ref (B + 47)] := by
  dsimp only [f_X7_number_L23] at hf
  refine A_iconst C (pc := 23) ic_0 dX7_number_23 ?_
  exact w_X7_number_L24 C hr hk hf
set_option maxRecDepth 100000 in
theorem m_X7_number (l : Launch) (B : Nat) (D : va_G) (Y : Nat → ClassId) (o : Ou) {M : Mem} {x1 : Int32} {x2 : Int32} {x3 : Int32} {r : Int32 × Mem}  (hf : f_X7_number M x1 x2 x3 = some r) : MW l yX7_number cX7_number 4 (some .int) rm_X7_number B D Y o [.ref (B + 47), .int x1, .int x2, .int x3] M r.2 (some (.int r.1)) := by
  refine ofAt (L0 := [(0, .ref (B + 47)), (1, .int x1), (2, .int x2), (3, .int x3)]) (by decide +kernel) (Nat.le_of_ble_eq_true rfl) rfl (fun p e s m args below meth c C hr hk => ?_)
  dsimp only [f_X7_number] at hf
  refine A_aload_n C (pc := 0) 0 rfl dX7_number_0 ?_
  refine A_aload_n C (pc := 1) 0 rfl dX7_number_1 ?_
  refine A_iload_n C (pc := 2) 1 rfl dX7_number_2 ?_
  refine A_iload_n C (pc := 3) 2 rfl dX7_number_3 ?_
  obtain ⟨z4, h4, hf⟩ := bd_i hf
  refine A_callV1 C (pc := 4) (A := [.int x1, .int x2]) (rest := [.ref (B + 47)]) k_X7_66 ky_X7_isThing kv_X7_isThing (m_X7_isThing l B D Y o  h4) (by decide) rfl rfl rfl rfl (Nat.le_of_ble_eq_true rfl) ⟨rfl, rfl, Nat.le_of_ble_eq_true rfl, Nat.le_of_ble_eq_true rfl⟩ ⟨Nat.zero_le _, Nat.zero_le _⟩ dX7_number_4 ?_
  refine A_if_eq C (pc := 7) 23 (by decide) dX7_number_7 hf (fun _ hf => ?_) (fun _ hf => ?_)
  · exact w_X7_number_L23 C hr hk hf
  · refine A_aload_n C (pc := 10) 0 rfl dX7_number_10 ?_
    refine A_iload_n C (pc := 11) 1 rfl dX7_number_11 ?_
    refine A_iload_n C (pc := 12) 3 rfl dX7_number_12 ?_
    obtain ⟨z13, h13, hf⟩ := bd_i hf
    refine A_callV1 C (pc := 13) (A := [.int x1, .int x3]) (rest := [.ref (B + 47)]) k_X7_66 ky_X7_isThing kv_X7_isThing (m_X7_isThing l B D Y o  h13) (by decide) rfl rfl rfl rfl (Nat.le_of_ble_eq_true rfl) ⟨rfl, rfl, Nat.le_of_ble_eq_true rfl, Nat.le_of_ble_eq_true rfl⟩ ⟨Nat.zero_le _, Nat.zero_le _⟩ dX7_number_13 ?_
    refine A_if_eq C (pc := 16) 23 (by decide) dX7_number_16 hf (fun _ hf => ?_) (fun _ hf => ?_)
    · exact w_X7_number_L23 C hr hk hf
    · refine A_iconst C (pc := 19) ic_1 dX7_number_19 ?_
      refine A_goto C (pc := 20) 24 (by decide) dX7_number_20 ?_
      exact w_X7_number_L24 C hr hk hf
set_option maxRecDepth 100000 in
theorem w_X7_undone_L21 {M : Mem} {x1 : Int32} {x2 : Int32} {r : Int32 × Mem} (C : Cx p s m args c cX7_undone 5 RX7 B D Y) (hr : meth.sig.returnType = (some .int)) (hk : meth.locks = false)  : ∀ (n : Nat) (x3 : Int32) (x4 : Int32), f_X7_undone_L21 M x1 x2 n (x3, x4) = some r → At p l e rm_X7_undone s m args below meth c 5 0 0 (QQ below args s B D Y r.2 o (some (.int r.1))) B D Y o 21 M [(0, .ref (B + 47)), (1, .int x1), (2, .int x2), (3, .int x3), (4, .int x4)] [] := by
  intro n
  induction n with
  | zero => intro x3 x4 hf; exact nomatch (show (none : Option (Int32 × Mem)) = some r from hf)
  | succ n hk21 =>
    intro x3 x4 hf
    replace hf : g_X7_undone_L21 M x1 x2 (f_X7_undone_L21 M x1 x2 n) (x3, x4) = some r := hf
    dsimp only [g_X7_undone_L21] at hf
    refine A_iload C (pc := 21) 4 rfl dX7_undone_21 ?_
    refine A_aload_n C (pc := 23) 0 rfl dX7_undone_23 ?_
    refine A_g7_0 C (pc := 24) kf_X7_9 dX7_undone_24 ?_
    refine A_iload_n C (pc := 27) 1 rfl dX7_undone_27 ?_
    obtain ⟨c28, hf⟩ := chk_i hf
    refine A_iald C (pc := 28) (show IA 48 5 from ⟨rfl, rfl⟩) c28 dX7_undone_28 ?_
    refine A_icmp_ge C (pc := 29) 72 (by decide) dX7_undone_29 hf (fun _ hf => ?_) (fun _ hf => ?_)
    · refine A_iload_n C (pc := 72) 3 rfl dX7_undone_72 ?_
      exact R_iM C (pc := 73) hr hk rfl dX7_undone_73 hf
    · refine A_iload_n C (pc := 32) 3 rfl dX7_undone_32 ?_
      refine A_aload_n C (pc := 33) 0 rfl dX7_undone_33 ?_
      refine A_iload_n C (pc := 34) 1 rfl dX7_undone_34 ?_
      refine A_iload C (pc := 35) 4 rfl dX7_undone_35 ?_
      refine A_iload_n C (pc := 37) 2 rfl dX7_undone_37 ?_
      obtain ⟨z38, h38, hf⟩ := bd_i hf
      refine A_callV1 C (pc := 38) (A := [.int x1, .int x4, .int x2]) (rest := [.int x3]) k_X7_75 ky_X7_isUpTo kv_X7_isUpTo (m_X7_isUpTo l B D Y o  h38) (by decide) rfl rfl rfl rfl (Nat.le_of_ble_eq_true rfl) ⟨rfl, rfl, Nat.le_of_ble_eq_true rfl, Nat.le_of_ble_eq_true rfl⟩ ⟨Nat.zero_le _, Nat.zero_le _⟩ dX7_undone_38 ?_
      refine A_if_eq C (pc := 41) 63 (by decide) dX7_undone_41 hf (fun _ hf => ?_) (fun _ hf => ?_)
      · refine A_iconst C (pc := 63) ic_0 dX7_undone_63 ?_
        refine A_iadd C (pc := 64) dX7_undone_64 ?_
        obtain ⟨v65, e65, hf⟩ := bd_i hf
        refine A_nmI e65 ?_
        refine A_istore_n C (pc := 65) [(0, .ref (B + 47)), (1, .int x1), (2, .int x2), (3, .int v65), (4, .int x4)] rfl (by decide) [1, 2, 3, 0, 4] rfl dX7_undone_65 ?_
        refine A_iinc C (pc := 66) (k0 := 4) [(0, .ref (B + 47)), (1, .int x1), (2, .int x2), (3, .int v65), (4, .int (x4 + 1))] rfl ic_1 (by decide) [1, 2, 3, 4, 0] rfl dX7_undone_66 ?_
        refine A_goto C (pc := 69) 21 (by decide) dX7_undone_69 ?_
        exact hk21 _ _ hf
      · refine A_aload_n C (pc := 44) 0 rfl dX7_undone_44 ?_
        refine A_iload_n C (pc := 45) 1 rfl dX7_undone_45 ?_
        refine A_iload C (pc := 46) 4 rfl dX7_undone_46 ?_
        obtain ⟨z48, h48, hf⟩ := bd_i hf
        refine A_callV1 C (pc := 48) (A := [.int x1, .int x4]) (rest := [.int x3]) k_X7_150 ky_X7_sumOf kv_X7_sumOf (m_X7_sumOf l B D Y o  h48) (by decide) rfl rfl rfl rfl (Nat.le_of_ble_eq_true rfl) ⟨rfl, rfl, Nat.le_of_ble_eq_true rfl, Nat.le_of_ble_eq_true rfl⟩ ⟨Nat.zero_le _, Nat.zero_le _⟩ dX7_undone_48 ?_
        refine A_aload_n C (pc := 51) 0 rfl dX7_undone_51 ?_
        refine A_iload_n C (pc := 52) 1 rfl dX7_undone_52 ?_
        refine A_iload C (pc := 53) 4 rfl dX7_undone_53 ?_
        refine A_iload_n C (pc := 55) 2 rfl dX7_undone_55 ?_
        obtain ⟨z56, h56, hf⟩ := bd_i hf
        refine A_callV1 C (pc := 56) (A := [.int x1, .int x4, .int x2]) (rest := [.int z48, .int x3]) k_X7_147 ky_X7_numberOf kv_X7_numberOf (m_X7_numberOf l B D Y o RD _ _ _ _ _  h56) (by decide) rfl rfl rfl rfl (Nat.le_of_ble_eq_true rfl) ⟨rfl, rfl, Nat.le_of_ble_eq_true rfl, Nat.le_of_ble_eq_true rfl⟩ ⟨Nat.zero_le _, Nat.zero_le _⟩ dX7_undone_56 ?_
        refine A_imul C (pc := 59) dX7_undone_59 ?_
        refine A_goto C (pc := 60) 64 (by decide) dX7_undone_60 ?_
        refine A_iadd C (pc := 64) dX7_undone_64 ?_
        obtain ⟨v65, e65, hf⟩ := bd_i hf
        refine A_nmI e65 ?_
        refine A_istore_n C (pc := 65) [(0, .ref (B + 47)), (1, .int x1), (2, .int x2), (3, .int v65), (4, .int x4)] rfl (by decide) [1, 2, 3, 0, 4] rfl dX7_undone_65 ?_
        refine A_iinc C (pc := 66) (k0 := 4) [(0, .ref (B + 47)), (1, .int x1), (2, .int x2), (3, .int v65), (4, .int (x4 + 1))] rfl ic_1 (by decide) [1, 2, 3, 4, 0] rfl dX7_undone_66 ?_
        refine A_goto C (pc := 69) 21 (by decide) dX7_undone_69 ?_
        exact hk21 _ _ hf
set_option maxRecDepth 100000 in
theorem m_X7_undone (l : Launch) (B : Nat) (D : va_G) (Y : Nat → ClassId) (o : Ou) {M : Mem} {x1 : Int32} {x2 : Int32} {r : Int32 × Mem}  (hf : f_X7_undone M x1 x2 = some r) : MW l yX7_undone cX7_undone 5 (some .int) rm_X7_undone B D Y o [.ref (B + 47), .int x1, .int x2] M r.2 (some (.int r.1)) := by
  refine ofAt (L0 := [(0, .ref (B + 47)), (1, .int x1), (2, .int x2)]) (by decide +kernel) (Nat.le_of_ble_eq_true rfl) rfl (fun p e s m args below meth c C hr hk => ?_)
  dsimp only [f_X7_undone] at hf
  refine A_aload_n C (pc := 0) 0 rfl dX7_undone_0 ?_
  refine A_aload_n C (pc := 1) 0 rfl dX7_undone_1 ?_
  refine A_iload_n C (pc := 2) 1 rfl dX7_undone_2 ?_
  refine A_iload_n C (pc := 3) 2 rfl dX7_undone_3 ?_
  obtain ⟨z4, h4, hf⟩ := bd_i hf
  refine A_callV1 C (pc := 4) (A := [.int x1, .int x2]) (rest := [.ref (B + 47)]) k_X7_66 ky_X7_isThing kv_X7_isThing (m_X7_isThing l B D Y o  h4) (by decide) rfl rfl rfl rfl (Nat.le_of_ble_eq_true rfl) ⟨rfl, rfl, Nat.le_of_ble_eq_true rfl, Nat.le_of_ble_eq_true rfl⟩ ⟨Nat.zero_le _, Nat.zero_le _⟩ dX7_undone_4 ?_
  refine A_iconst C (pc := 7) ic_1 dX7_undone_7 ?_
  obtain ⟨z8, h8, hf⟩ := bd_i hf
  refine A_callV1 C (pc := 8) (A := [.int z4, .int 1]) (rest := []) k_X7_51 ky_X7_lets kv_X7_lets (m_X7_lets l B D Y o  h8) (by decide) rfl rfl rfl rfl (Nat.le_of_ble_eq_true rfl) ⟨rfl, rfl, Nat.le_of_ble_eq_true rfl, Nat.le_of_ble_eq_true rfl⟩ ⟨Nat.zero_le _, Nat.zero_le _⟩ dX7_undone_8 ?_
  refine A_if_ne C (pc := 11) 16 (by decide) dX7_undone_11 hf (fun _ hf => ?_) (fun _ hf => ?_)
  · refine A_iconst C (pc := 16) ic_0 dX7_undone_16 ?_
    refine A_istore_n C (pc := 17) [(0, .ref (B + 47)), (1, .int x1), (2, .int x2), (3, .int 0)] rfl (by decide) [1, 2, 3, 0] rfl dX7_undone_17 ?_
    refine A_iconst C (pc := 18) ic_0 dX7_undone_18 ?_
    refine A_istore C (pc := 19) [(0, .ref (B + 47)), (1, .int x1), (2, .int x2), (3, .int 0), (4, .int 0)] (by decide) [1, 2, 3, 4, 0] rfl dX7_undone_19 ?_
    exact w_X7_undone_L21 C hr hk FU _ _  hf
  · refine A_iconst C (pc := 14) ic_0 dX7_undone_14 ?_
    exact R_iM C (pc := 15) hr hk rfl dX7_undone_15 hf
set_option maxRecDepth 100000 in
theorem m_X7_isSound (l : Launch) (B : Nat) (D : va_G) (Y : Nat → ClassId) (o : Ou) {M : Mem} {x1 : Int32} {r : Int32 × Mem}  (hf : f_X7_isSound M x1 = some r) : MW l yX7_isSound cX7_isSound 2 (some .boolean) rm_X7_isSound B D Y o [.ref (B + 47), .int x1] M r.2 (some (.int r.1)) := by
  refine ofAt (L0 := [(0, .ref (B + 47)), (1, .int x1)]) (by decide +kernel) (Nat.le_of_ble_eq_true rfl) rfl (fun p e s m args below meth c C hr hk => ?_)
  dsimp only [f_X7_isSound] at hf
  refine A_aload_n C (pc := 0) 0 rfl dX7_isSound_0 ?_
  refine A_iload_n C (pc := 1) 1 rfl dX7_isSound_1 ?_
  obtain ⟨z2, h2, hf⟩ := bd_i hf
  refine A_callS1 C (pc := 2) (A := [.int x1]) (rest := [.ref (B + 47)]) k_X7_43 ky_X7_isOrder ks_X7_isOrder (m_X7_isOrder l B D Y o  h2) rfl rfl (Nat.le_of_ble_eq_true rfl) ⟨rfl, rfl, Nat.le_of_ble_eq_true rfl, Nat.le_of_ble_eq_true rfl⟩ ⟨Nat.zero_le _, Nat.zero_le _⟩ dX7_isSound_2 ?_
  refine A_iconst C (pc := 5) ic_1 dX7_isSound_5 ?_
  obtain ⟨z6, h6, hf⟩ := bd_i hf
  refine A_callV1 C (pc := 6) (A := [.int z2, .int 1]) (rest := []) k_X7_51 ky_X7_lets kv_X7_lets (m_X7_lets l B D Y o  h6) (by decide) rfl rfl rfl rfl (Nat.le_of_ble_eq_true rfl) ⟨rfl, rfl, Nat.le_of_ble_eq_true rfl, Nat.le_of_ble_eq_true rfl⟩ ⟨Nat.zero_le _, Nat.zero_le _⟩ dX7_isSound_6 ?_
  obtain ⟨c9, hf⟩ := chk_i hf
  exact R_iM C (pc := 9) hr hk (isb_nz c9) dX7_isSound_9 hf
set_option maxRecDepth 100000 in
theorem m_X7_areSound (l : Launch) (B : Nat) (D : va_G) (Y : Nat → ClassId) (o : Ou) {M : Mem} {x1 : Int32} {x2 : Int32} {r : Int32 × Mem}  (hf : f_X7_areSound M x1 x2 = some r) : MW l yX7_areSound cX7_areSound 3 (some .boolean) rm_X7_areSound B D Y o [.ref (B + 47), .int x1, .int x2] M r.2 (some (.int r.1)) := by
  refine ofAt (L0 := [(0, .ref (B + 47)), (1, .int x1), (2, .int x2)]) (by decide +kernel) (Nat.le_of_ble_eq_true rfl) rfl (fun p e s m args below meth c C hr hk => ?_)
  dsimp only [f_X7_areSound] at hf
  refine A_aload_n C (pc := 0) 0 rfl dX7_areSound_0 ?_
  refine A_iload_n C (pc := 1) 1 rfl dX7_areSound_1 ?_
  obtain ⟨z2, h2, hf⟩ := bd_i hf
  refine A_callS1 C (pc := 2) (A := [.int x1]) (rest := [.ref (B + 47)]) k_X7_43 ky_X7_isOrder ks_X7_isOrder (m_X7_isOrder l B D Y o  h2) rfl rfl (Nat.le_of_ble_eq_true rfl) ⟨rfl, rfl, Nat.le_of_ble_eq_true rfl, Nat.le_of_ble_eq_true rfl⟩ ⟨Nat.zero_le _, Nat.zero_le _⟩ dX7_areSound_2 ?_
  refine A_if_eq C (pc := 5) 19 (by decide) dX7_areSound_5 hf (fun _ hf => ?_) (fun _ hf => ?_)
  · refine A_iconst C (pc := 19) ic_0 dX7_areSound_19 ?_
    refine A_iconst C (pc := 20) ic_1 dX7_areSound_20 ?_
    obtain ⟨z21, h21, hf⟩ := bd_i hf
    refine A_callV1 C (pc := 21) (A := [.int 0, .int 1]) (rest := []) k_X7_51 ky_X7_lets kv_X7_lets (m_X7_lets l B D Y o  h21) (by decide) rfl rfl rfl rfl (Nat.le_of_ble_eq_true rfl) ⟨rfl, rfl, Nat.le_of_ble_eq_true rfl, Nat.le_of_ble_eq_true rfl⟩ ⟨Nat.zero_le _, Nat.zero_le _⟩ dX7_areSound_21 ?_
    obtain ⟨c24, hf⟩ := chk_i hf
    exact R_iM C (pc := 24) hr hk (isb_nz c24) dX7_areSound_24 hf
  · refine A_iload_n C (pc := 8) 2 rfl dX7_areSound_8 ?_
    obtain ⟨z9, h9, hf⟩ := bd_i hf
    refine A_callS1 C (pc := 9) (A := [.int x2]) (rest := [.ref (B + 47)]) k_X7_43 ky_X7_isOrder ks_X7_isOrder (m_X7_isOrder l B D Y o  h9) rfl rfl (Nat.le_of_ble_eq_true rfl) ⟨rfl, rfl, Nat.le_of_ble_eq_true rfl, Nat.le_of_ble_eq_true rfl⟩ ⟨Nat.zero_le _, Nat.zero_le _⟩ dX7_areSound_9 ?_
    refine A_if_eq C (pc := 12) 19 (by decide) dX7_areSound_12 hf (fun _ hf => ?_) (fun _ hf => ?_)
    · refine A_iconst C (pc := 19) ic_0 dX7_areSound_19 ?_
      refine A_iconst C (pc := 20) ic_1 dX7_areSound_20 ?_
      obtain ⟨z21, h21, hf⟩ := bd_i hf
      refine A_callV1 C (pc := 21) (A := [.int 0, .int 1]) (rest := []) k_X7_51 ky_X7_lets kv_X7_lets (m_X7_lets l B D Y o  h21) (by decide) rfl rfl rfl rfl (Nat.le_of_ble_eq_true rfl) ⟨rfl, rfl, Nat.le_of_ble_eq_true rfl, Nat.le_of_ble_eq_true rfl⟩ ⟨Nat.zero_le _, Nat.zero_le _⟩ dX7_areSound_21 ?_
      obtain ⟨c24, hf⟩ := chk_i hf
      exact R_iM C (pc := 24) hr hk (isb_nz c24) dX7_areSound_24 hf
    · refine A_iconst C (pc := 15) ic_1 dX7_areSound_15 ?_
      refine A_goto C (pc := 16) 20 (by decide) dX7_areSound_16 ?_
      refine A_iconst C (pc := 20) ic_1 dX7_areSound_20 ?_
      obtain ⟨z21, h21, hf⟩ := bd_i hf
      refine A_callV1 C (pc := 21) (A := [.int 1, .int 1]) (rest := []) k_X7_51 ky_X7_lets kv_X7_lets (m_X7_lets l B D Y o  h21) (by decide) rfl rfl rfl rfl (Nat.le_of_ble_eq_true rfl) ⟨rfl, rfl, Nat.le_of_ble_eq_true rfl, Nat.le_of_ble_eq_true rfl⟩ ⟨Nat.zero_le _, Nat.zero_le _⟩ dX7_areSound_21 ?_
      obtain ⟨c24, hf⟩ := chk_i hf
      exact R_iM C (pc := 24) hr hk (isb_nz c24) dX7_areSound_24 hf
set_option maxRecDepth 100000 in
theorem w_X7_checksum_L33 {M : Mem} {x3 : Int32} {r : Int64 × Mem} (C : Cx p s m args c cX7_checksum 5 RX7 B D Y) (hr : meth.sig.returnType = (some .long)) (hk : meth.locks = false)  {k11 : (Int64 × Int32 × Mem) → Option (Int64 × Mem)} (hk11 : ∀ (x1 : Int64) (x3 : Int32) (M : Mem), k11 (x1, x3, M) = some r → At p l e rm_X7_checksum s m args below meth c 5 0 0 (QQ below args s B D Y r.2 o (some (.long r.1))) B D Y o 11 M [(0, .ref (B + 47)), (1, .long x1), (3, .int x3)] []) : ∀ (n : Nat) (x1 : Int64) (x4 : Int32), f_X7_checksum_L33 M x3 k11 n (x1, x4) = some r → At p l e rm_X7_checksum s m args below meth c 5 0 0 (QQ below args s B D Y r.2 o (some (.long r.1))) B D Y o 33 M [(0, .ref (B + 47)), (1, .long x1), (3, .int x3), (4, .int x4)] [] := by
  intro n
  induction n with
  | zero => intro x1 x4 hf; exact nomatch (show (none : Option (Int64 × Mem)) = some r from hf)
  | succ n hk33 =>
    intro x1 x4 hf
    replace hf : g_X7_checksum_L33 M x3 k11 (f_X7_checksum_L33 M x3 k11 n) (x1, x4) = some r := hf
    dsimp only [g_X7_checksum_L33] at hf
    refine A_iload C (pc := 33) 3 rfl dX7_checksum_33 ?_
    refine A_aload_n C (pc := 35) 0 rfl dX7_checksum_35 ?_
    refine A_g7_0 C (pc := 36) kf_X7_9 dX7_checksum_36 ?_
    refine A_iload_n C (pc := 39) 2 rfl dX7_checksum_39 ?_
    obtain ⟨c40, hf⟩ := chk_i hf
    refine A_iald C (pc := 40) (show IA 48 5 from ⟨rfl, rfl⟩) c40 dX7_checksum_40 ?_
    refine A_icmp_ge C (pc := 41) 80 (by decide) dX7_checksum_41 hf (fun _ hf => ?_) (fun _ hf => ?_)
    · refine A_ldc2 C (pc := 80) kk_X7_155 dX7_checksum_80 ?_
      refine A_lload_n C (pc := 83) 1 rfl dX7_checksum_83 ?_
      refine A_lmul C (pc := 84) dX7_checksum_84 ?_
      refine A_aload_n C (pc := 85) 0 rfl dX7_checksum_85 ?_
      refine A_iload_n C (pc := 86) 2 rfl dX7_checksum_86 ?_
      refine A_iconst C (pc := 87) ic_m1 dX7_checksum_87 ?_
      obtain ⟨z88, h88, hf⟩ := bd_i hf
      refine A_callV1 C (pc := 88) (A := [.int x3, .int ((-1))]) (rest := [.long (31 * x1)]) k_X7_127 ky_X7_manyOf kv_X7_manyOf (m_X7_manyOf l B D Y o  h88) (by decide) rfl rfl rfl rfl (Nat.le_of_ble_eq_true rfl) ⟨rfl, rfl, Nat.le_of_ble_eq_true rfl, Nat.le_of_ble_eq_true rfl⟩ ⟨Nat.zero_le _, Nat.zero_le _⟩ dX7_checksum_88 ?_
      refine A_i2l C (pc := 91) dX7_checksum_91 ?_
      refine A_ladd C (pc := 92) dX7_checksum_92 ?_
      obtain ⟨v93, e93, hf⟩ := bd_i hf
      refine A_nmL e93 ?_
      refine A_lstore_n C (pc := 93) [(0, .ref (B + 47)), (1, .long v93), (3, .int x3)] rfl (by decide) [1, 0, 2] rfl dX7_checksum_93 ?_
      refine A_ldc2 C (pc := 94) kk_X7_155 dX7_checksum_94 ?_
      refine A_lload_n C (pc := 97) 1 rfl dX7_checksum_97 ?_
      refine A_lmul C (pc := 98) dX7_checksum_98 ?_
      refine A_aload_n C (pc := 99) 0 rfl dX7_checksum_99 ?_
      refine A_iload_n C (pc := 100) 2 rfl dX7_checksum_100 ?_
      obtain ⟨z101, h101, hf⟩ := bd_i hf
      refine A_callV1 C (pc := 101) (A := [.int x3]) (rest := [.long (31 * v93)]) k_X7_81 ky_X7_rowsOf kv_X7_rowsOf (m_X7_rowsOf l B D Y o  h101) (by decide) rfl rfl rfl rfl (Nat.le_of_ble_eq_true rfl) ⟨rfl, rfl, Nat.le_of_ble_eq_true rfl, Nat.le_of_ble_eq_true rfl⟩ ⟨Nat.zero_le _, Nat.zero_le _⟩ dX7_checksum_101 ?_
      refine A_i2l C (pc := 104) dX7_checksum_104 ?_
      refine A_ladd C (pc := 105) dX7_checksum_105 ?_
      obtain ⟨v106, e106, hf⟩ := bd_i hf
      refine A_nmL e106 ?_
      refine A_lstore_n C (pc := 106) [(0, .ref (B + 47)), (1, .long v106), (3, .int x3)] rfl (by decide) [1, 0, 2] rfl dX7_checksum_106 ?_
      refine A_ldc2 C (pc := 107) kk_X7_155 dX7_checksum_107 ?_
      refine A_lload_n C (pc := 110) 1 rfl dX7_checksum_110 ?_
      refine A_lmul C (pc := 111) dX7_checksum_111 ?_
      refine A_aload_n C (pc := 112) 0 rfl dX7_checksum_112 ?_
      refine A_iload_n C (pc := 113) 2 rfl dX7_checksum_113 ?_
      refine A_iconst C (pc := 114) ic_0 dX7_checksum_114 ?_
      obtain ⟨z115, h115, hf⟩ := bd_i hf
      refine A_callV1 C (pc := 115) (A := [.int x3, .int 0]) (rest := [.long (31 * v106)]) k_X7_111 ky_X7_mostOf kv_X7_mostOf (m_X7_mostOf l B D Y o  h115) (by decide) rfl rfl rfl rfl (Nat.le_of_ble_eq_true rfl) ⟨rfl, rfl, Nat.le_of_ble_eq_true rfl, Nat.le_of_ble_eq_true rfl⟩ ⟨Nat.zero_le _, Nat.zero_le _⟩ dX7_checksum_115 ?_
      refine A_i2l C (pc := 118) dX7_checksum_118 ?_
      refine A_ladd C (pc := 119) dX7_checksum_119 ?_
      obtain ⟨v120, e120, hf⟩ := bd_i hf
      refine A_nmL e120 ?_
      refine A_lstore_n C (pc := 120) [(0, .ref (B + 47)), (1, .long v120), (3, .int x3)] rfl (by decide) [1, 0, 2] rfl dX7_checksum_120 ?_
      refine A_ldc2 C (pc := 121) kk_X7_155 dX7_checksum_121 ?_
      refine A_lload_n C (pc := 124) 1 rfl dX7_checksum_124 ?_
      refine A_lmul C (pc := 125) dX7_checksum_125 ?_
      refine A_aload_n C (pc := 126) 0 rfl dX7_checksum_126 ?_
      refine A_iload_n C (pc := 127) 2 rfl dX7_checksum_127 ?_
      refine A_iconst C (pc := 128) ic_1 dX7_checksum_128 ?_
      obtain ⟨z129, h129, hf⟩ := bd_i hf
      refine A_callV1 C (pc := 129) (A := [.int x3, .int 1]) (rest := [.long (31 * v120)]) k_X7_111 ky_X7_mostOf kv_X7_mostOf (m_X7_mostOf l B D Y o  h129) (by decide) rfl rfl rfl rfl (Nat.le_of_ble_eq_true rfl) ⟨rfl, rfl, Nat.le_of_ble_eq_true rfl, Nat.le_of_ble_eq_true rfl⟩ ⟨Nat.zero_le _, Nat.zero_le _⟩ dX7_checksum_129 ?_
      refine A_i2l C (pc := 132) dX7_checksum_132 ?_
      refine A_ladd C (pc := 133) dX7_checksum_133 ?_
      obtain ⟨v134, e134, hf⟩ := bd_i hf
      refine A_nmL e134 ?_
      refine A_lstore_n C (pc := 134) [(0, .ref (B + 47)), (1, .long v134), (3, .int x3)] rfl (by decide) [1, 0, 2] rfl dX7_checksum_134 ?_
      refine A_iinc C (pc := 135) (k0 := 2) [(0, .ref (B + 47)), (1, .long v134), (3, .int (x3 + 1))] rfl ic_1 (by decide) [1, 2, 0] rfl dX7_checksum_135 ?_
      refine A_goto C (pc := 138) 11 (by decide) dX7_checksum_138 ?_
      exact hk11 _ _ _ hf
    · refine A_ldc2 C (pc := 44) kk_X7_155 dX7_checksum_44 ?_
      refine A_ldc2 C (pc := 47) kk_X7_155 dX7_checksum_47 ?_
      refine A_lload_n C (pc := 50) 1 rfl dX7_checksum_50 ?_
      refine A_lmul C (pc := 51) dX7_checksum_51 ?_
      refine A_aload_n C (pc := 52) 0 rfl dX7_checksum_52 ?_
      refine A_iload_n C (pc := 53) 2 rfl dX7_checksum_53 ?_
      refine A_iload C (pc := 54) 3 rfl dX7_checksum_54 ?_
      obtain ⟨z56, h56, hf⟩ := bd_i hf
      refine A_callV1 C (pc := 56) (A := [.int x3, .int x4]) (rest := [.long (31 * x1), .long 31]) k_X7_95 ky_X7_lowerOf kv_X7_lowerOf (m_X7_lowerOf l B D Y o  h56) (by decide) rfl rfl rfl rfl (Nat.le_of_ble_eq_true rfl) ⟨rfl, rfl, Nat.le_of_ble_eq_true rfl, Nat.le_of_ble_eq_true rfl⟩ ⟨Nat.zero_le _, Nat.zero_le _⟩ dX7_checksum_56 ?_
      refine A_i2l C (pc := 59) dX7_checksum_59 ?_
      refine A_ladd C (pc := 60) dX7_checksum_60 ?_
      refine A_lmul C (pc := 61) dX7_checksum_61 ?_
      refine A_aload_n C (pc := 62) 0 rfl dX7_checksum_62 ?_
      refine A_g7_1 C (pc := 63) kf_X7_15 dX7_checksum_63 ?_
      refine A_iload_n C (pc := 66) 2 rfl dX7_checksum_66 ?_
      obtain ⟨c67, hf⟩ := chk_i hf
      refine A_aV C (pc := 67) c67 dX7_checksum_67 ?_
      refine A_iload C (pc := 68) 3 rfl dX7_checksum_68 ?_
      obtain ⟨c70, hf⟩ := chk_i hf
      refine A_iald C (pc := 70) (iVal (inb_lt c67)) c70 dX7_checksum_70 ?_
      refine A_i2l C (pc := 71) dX7_checksum_71 ?_
      refine A_ladd C (pc := 72) dX7_checksum_72 ?_
      obtain ⟨v73, e73, hf⟩ := bd_i hf
      refine A_nmL e73 ?_
      refine A_lstore_n C (pc := 73) [(0, .ref (B + 47)), (1, .long v73), (3, .int x3), (4, .int x4)] rfl (by decide) [1, 0, 2, 3] rfl dX7_checksum_73 ?_
      refine A_iinc C (pc := 74) (k0 := 3) [(0, .ref (B + 47)), (1, .long v73), (3, .int x3), (4, .int (x4 + 1))] rfl ic_1 (by decide) [1, 2, 3, 0] rfl dX7_checksum_74 ?_
      refine A_goto C (pc := 77) 33 (by decide) dX7_checksum_77 ?_
      exact hk33 _ _ hf
set_option maxRecDepth 100000 in
theorem w_X7_checksum_L11  {r : Int64 × Mem} (C : Cx p s m args c cX7_checksum 5 RX7 B D Y) (hr : meth.sig.returnType = (some .long)) (hk : meth.locks = false)  : ∀ (n : Nat) (x1 : Int64) (x3 : Int32) (M : Mem), f_X7_checksum_L11 n (x1, x3, M) = some r → At p l e rm_X7_checksum s m args below meth c 5 0 0 (QQ below args s B D Y r.2 o (some (.long r.1))) B D Y o 11 M [(0, .ref (B + 47)), (1, .long x1), (3, .int x3)] [] := by
  intro n
  induction n with
  | zero => intro x1 x3 M hf; exact nomatch (show (none : Option (Int64 × Mem)) = some r from hf)
  | succ n hk11 =>
    intro x1 x3 M hf
    replace hf : g_X7_checksum_L11 (f_X7_checksum_L11 n) (x1, x3, M) = some r := hf
    dsimp only [g_X7_checksum_L11] at hf
    refine A_iload_n C (pc := 11) 2 rfl dX7_checksum_11 ?_
    refine A_iconst C (pc := 12) ic_4 dX7_checksum_12 ?_
    refine A_icmp_ge C (pc := 13) 141 (by decide) dX7_checksum_13 hf (fun _ hf => ?_) (fun _ hf => ?_)
    · refine A_lload_n C (pc := 141) 1 rfl dX7_checksum_141 ?_
      exact R_lM C (pc := 142) hr hk dX7_checksum_142 hf
    · refine A_ldc2 C (pc := 16) kk_X7_155 dX7_checksum_16 ?_
      refine A_lload_n C (pc := 19) 1 rfl dX7_checksum_19 ?_
      refine A_lmul C (pc := 20) dX7_checksum_20 ?_
      refine A_aload_n C (pc := 21) 0 rfl dX7_checksum_21 ?_
      refine A_g7_0 C (pc := 22) kf_X7_9 dX7_checksum_22 ?_
      refine A_iload_n C (pc := 25) 2 rfl dX7_checksum_25 ?_
      obtain ⟨c26, hf⟩ := chk_i hf
      refine A_iald C (pc := 26) (show IA 48 5 from ⟨rfl, rfl⟩) c26 dX7_checksum_26 ?_
      refine A_i2l C (pc := 27) dX7_checksum_27 ?_
      refine A_ladd C (pc := 28) dX7_checksum_28 ?_
      obtain ⟨v29, e29, hf⟩ := bd_i hf
      refine A_nmL e29 ?_
      refine A_lstore_n C (pc := 29) [(0, .ref (B + 47)), (1, .long v29), (3, .int x3)] rfl (by decide) [1, 0, 2] rfl dX7_checksum_29 ?_
      refine A_iconst C (pc := 30) ic_0 dX7_checksum_30 ?_
      refine A_istore C (pc := 31) [(0, .ref (B + 47)), (1, .long v29), (3, .int x3), (4, .int 0)] (by decide) [1, 2, 3, 0] rfl dX7_checksum_31 ?_
      exact w_X7_checksum_L33 C hr hk hk11 FU _ _  hf
set_option maxRecDepth 100000 in
theorem m_X7_checksum (l : Launch) (B : Nat) (D : va_G) (Y : Nat → ClassId) (o : Ou) {M : Mem}  {r : Int64 × Mem}  (hf : f_X7_checksum M = some r) : MW l yX7_checksum cX7_checksum 5 (some .long) rm_X7_checksum B D Y o [.ref (B + 47)] M r.2 (some (.long r.1)) := by
  refine ofAt (L0 := [(0, .ref (B + 47))]) (by decide +kernel) (Nat.le_of_ble_eq_true rfl) rfl (fun p e s m args below meth c C hr hk => ?_)
  dsimp only [f_X7_checksum] at hf
  refine A_aload_n C (pc := 0) 0 rfl dX7_checksum_0 ?_
  refine A_iconst C (pc := 1) ic_0 dX7_checksum_1 ?_
  obtain ⟨M2, e2, hf⟩ := bd_i hf
  refine A_p7_3 C (pc := 2) kf_X7_35 dX7_checksum_2 ?_
  refine A_nmM e2 ?_
  refine A_ldc2 C (pc := 5) kk_X7_153 dX7_checksum_5 ?_
  refine A_lstore_n C (pc := 8) [(0, .ref (B + 47)), (1, .long 17)] rfl (by decide) [1, 0] rfl dX7_checksum_8 ?_
  refine A_iconst C (pc := 9) ic_0 dX7_checksum_9 ?_
  refine A_istore_n C (pc := 10) [(0, .ref (B + 47)), (1, .long 17), (3, .int 0)] rfl (by decide) [1, 2, 0] rfl dX7_checksum_10 ?_
  exact w_X7_checksum_L11 C hr hk FU _ _ _  hf
end W3
