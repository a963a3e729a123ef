section W1
variable {p : Program} {l : Launch} {e : Env} {s : State} {m : MethodId} {args : Array Value} {below : List Frame} {meth : Method} {c : Code} {B : Nat} {D : va_G} {Y : Nat → ClassId} {o : Ou}
set_option maxRecDepth 100000 in
theorem w_X4_lineAsNumber_L4 {M : Mem} {q0 : Nat} {q1 : Nat} {r : Int32} (C : Cx p s m args c cX4_lineAsNumber 4 RX4 B D Y) (hr : meth.sig.returnType = (some .int)) (hk : meth.locks = false) (hq0 : kd q0 = 4) (hq1 : kd q1 = 2) : ∀ (n : Nat) (x2 : Int32) (x3 : Int32), f_X4_lineAsNumber_L4 M q0 q1 n (x2, x3) = some r → At p l e rm_X4_lineAsNumber s m args below meth c 4 0 0 (QQ below args s B D Y M o (some (.int r))) B D Y o 4 M [(0, .ref (B + q0)), (1, .ref (B + q1)), (2, .int x2), (3, .int x3)] [] := by
  intro n
  induction n with
  | zero => intro x2 x3 hf; exact nomatch (show (none : Option Int32) = some r from hf)
  | succ n hk4 =>
    intro x2 x3 hf
    replace hf : g_X4_lineAsNumber_L4 M q0 q1 (f_X4_lineAsNumber_L4 M q0 q1 n) (x2, x3) = some r := hf
    dsimp only [g_X4_lineAsNumber_L4] at hf
    refine A_iload_n C (pc := 4) 3 rfl dX4_lineAsNumber_4 ?_
    refine A_aload_n C (pc := 5) 1 rfl dX4_lineAsNumber_5 ?_
    refine A_g3_0 C (pc := 6) hq1 kf_X4_31 dX4_lineAsNumber_6 ?_
    refine A_icmp_ge C (pc := 9) 32 (by decide) dX4_lineAsNumber_9 hf (fun _ hf => ?_) (fun _ hf => ?_)
    · refine A_iload_n C (pc := 32) 2 rfl dX4_lineAsNumber_32 ?_
      exact R_iP C (pc := 33) hr hk rfl dX4_lineAsNumber_33 hf
    · refine A_iload_n C (pc := 12) 2 rfl dX4_lineAsNumber_12 ?_
      refine A_bipush C (pc := 13) bc_10 dX4_lineAsNumber_13 ?_
      refine A_imul C (pc := 15) dX4_lineAsNumber_15 ?_
      refine A_aload_n C (pc := 16) 0 rfl dX4_lineAsNumber_16 ?_
      refine A_g4_2 C (pc := 17) hq0 kf_X4_18 dX4_lineAsNumber_17 ?_
      refine A_iload_n C (pc := 20) 3 rfl dX4_lineAsNumber_20 ?_
      obtain ⟨c21, hf⟩ := chk_i hf
      refine A_iald C (pc := 21) (iR3 hq0) c21 dX4_lineAsNumber_21 ?_
      refine A_iadd C (pc := 22) dX4_lineAsNumber_22 ?_
      refine A_iconst C (pc := 23) ic_1 dX4_lineAsNumber_23 ?_
      refine A_iadd C (pc := 24) dX4_lineAsNumber_24 ?_
      obtain ⟨v25, e25, hf⟩ := bd_i hf
      refine A_nmI e25 ?_
      refine A_istore_n C (pc := 25) [(0, .ref (B + q0)), (1, .ref (B + q1)), (2, .int v25), (3, .int x3)] rfl (by decide) [1, 2, 0, 3] rfl dX4_lineAsNumber_25 ?_
      refine A_iinc C (pc := 26) (k0 := 3) [(0, .ref (B + q0)), (1, .ref (B + q1)), (2, .int v25), (3, .int (x3 + 1))] rfl ic_1 (by decide) [1, 2, 3, 0] rfl dX4_lineAsNumber_26 ?_
      refine A_goto C (pc := 29) 4 (by decide) dX4_lineAsNumber_29 ?_
      exact hk4 _ _ hf
set_option maxRecDepth 100000 in
theorem m_X4_lineAsNumber (l : Launch) (B : Nat) (D : va_G) (Y : Nat → ClassId) (o : Ou) {M : Mem} {q0 : Nat} {q1 : Nat} {r : Int32} (hq0 : kd q0 = 4) (hq1 : kd q1 = 2) (hf : f_X4_lineAsNumber M q0 q1 = some r) : MW l yX4_lineAsNumber cX4_lineAsNumber 4 (some .int) rm_X4_lineAsNumber B D Y o [.ref (B + q0), .ref (B + q1)] M M (some (.int r)) := by
  refine ofAt (L0 := [(0, .ref (B + q0)), (1, .ref (B + q1))]) (by decide +kernel) (Nat.le_of_ble_eq_true rfl) rfl (fun p e s m args below meth c C hr hk => ?_)
  dsimp only [f_X4_lineAsNumber] at hf
  refine A_iconst C (pc := 0) ic_0 dX4_lineAsNumber_0 ?_
  refine A_istore_n C (pc := 1) [(0, .ref (B + q0)), (1, .ref (B + q1)), (2, .int 0)] rfl (by decide) [1, 2, 0] rfl dX4_lineAsNumber_1 ?_
  refine A_iconst C (pc := 2) ic_0 dX4_lineAsNumber_2 ?_
  refine A_istore_n C (pc := 3) [(0, .ref (B + q0)), (1, .ref (B + q1)), (2, .int 0), (3, .int 0)] rfl (by decide) [1, 2, 3, 0] rfl dX4_lineAsNumber_3 ?_
  exact w_X4_lineAsNumber_L4 C hr hk hq0 hq1 FU _ _  hf
set_option maxRecDepth 100000 in
theorem w_X4_withoutLast_L4 {M0 : Mem} {x1 : Int32} {r : Int32} (C : Cx p s m args c cX4_withoutLast 4 RX4 B D Y) (hr : meth.sig.returnType = (some .int)) (hk : meth.locks = false)  : ∀ (n : Nat) (x2 : Int32) (x3 : Int32), f_X4_withoutLast_L4 x1 n (x2, x3) = some r → At p l e rm_X4_withoutLast s m args below meth c 4 0 0 (QQ below args s B D Y M0 o (some (.int r))) B D Y o 4 M0 [(1, .int x1), (2, .int x2), (3, .int x3)] [] := by
  intro n
  induction n with
  | zero => intro x2 x3 hf; exact nomatch (show (none : Option Int32) = some r from hf)
  | succ n hk4 =>
    intro x2 x3 hf
    replace hf : g_X4_withoutLast_L4 x1 (f_X4_withoutLast_L4 x1 n) (x2, x3) = some r := hf
    dsimp only [g_X4_withoutLast_L4] at hf
    refine A_iload_n C (pc := 4) 2 rfl dX4_withoutLast_4 ?_
    refine A_iload_n C (pc := 5) 0 rfl dX4_withoutLast_5 ?_
    refine A_icmp_ge C (pc := 6) 20 (by decide) dX4_withoutLast_6 hf (fun _ hf => ?_) (fun _ hf => ?_)
    · refine A_iload_n C (pc := 20) 1 rfl dX4_withoutLast_20 ?_
      exact R_iP C (pc := 21) hr hk rfl dX4_withoutLast_21 hf
    · refine A_iload_n C (pc := 9) 1 rfl dX4_withoutLast_9 ?_
      refine A_bipush C (pc := 10) bc_10 dX4_withoutLast_10 ?_
      refine A_idiv C (pc := 12) (by decide) dX4_withoutLast_12 ?_
      obtain ⟨v13, e13, hf⟩ := bd_i hf
      refine A_nmI e13 ?_
      refine A_istore_n C (pc := 13) [(1, .int x1), (2, .int v13), (3, .int x3)] rfl (by decide) [1, 0, 2] rfl dX4_withoutLast_13 ?_
      refine A_iinc C (pc := 14) (k0 := 2) [(1, .int x1), (2, .int v13), (3, .int (x3 + 1))] rfl ic_1 (by decide) [1, 2, 0] rfl dX4_withoutLast_14 ?_
      refine A_goto C (pc := 17) 4 (by decide) dX4_withoutLast_17 ?_
      exact hk4 _ _ hf
set_option maxRecDepth 100000 in
theorem m_X4_withoutLast (l : Launch) (B : Nat) (D : va_G) (Y : Nat → ClassId) (o : Ou) {M0 : Mem} {x0 : Int32} {x1 : Int32} {r : Int32}  (hf : f_X4_withoutLast x0 x1 = some r) : MW l yX4_withoutLast cX4_withoutLast 4 (some .int) rm_X4_withoutLast B D Y o [.int x0, .int x1] M0 M0 (some (.int r)) := by
  refine ofAt (L0 := [(0, .int x0), (1, .int x1)]) (by decide +kernel) (Nat.le_of_ble_eq_true rfl) rfl (fun p e s m args below meth c C hr hk => ?_)
  dsimp only [f_X4_withoutLast] at hf
  refine A_iload_n C (pc := 0) 0 rfl dX4_withoutLast_0 ?_
  refine A_istore_n C (pc := 1) [(1, .int x1), (2, .int x0)] rfl (by decide) [2, 0] rfl dX4_withoutLast_1 ?_
  refine A_iconst C (pc := 2) ic_0 dX4_withoutLast_2 ?_
  refine A_istore_n C (pc := 3) [(1, .int x1), (2, .int x0), (3, .int 0)] rfl (by decide) [1, 2, 0] rfl dX4_withoutLast_3 ?_
  exact w_X4_withoutLast_L4 C hr hk FU _ _  hf
set_option maxRecDepth 100000 in
theorem w_X4_findPlace_L31 {M : Mem} {q0 : Nat} {q1 : Nat} {x2 : Int32} {r : Int32 × Mem} (C : Cx p s m args c cX4_findPlace 7 RX4 B D Y) (hr : meth.sig.returnType = (some .int)) (hk : meth.locks = false) (hq0 : kd q0 = 4) (hq1 : kd q1 = 2) : ∀ (n : Nat) (x3 : Int32) (x4 : Int32) (x5 : Int32), f_X4_findPlace_L31 M q0 q1 x2 n (x3, x4, x5) = some r → At p l e rm_X4_findPlace s m args below meth c 7 0 0 (QQ below args s B D Y r.2 o (some (.int r.1))) B D Y o 31 M [(0, .ref (B + q0)), (1, .ref (B + q1)), (2, .int x2), (3, .int x3), (4, .int x4), (5, .int x5)] [] := by
  intro n
  induction n with
  | zero => intro x3 x4 x5 hf; exact nomatch (show (none : Option (Int32 × Mem)) = some r from hf)
  | succ n hk31 =>
    intro x3 x4 x5 hf
    replace hf : g_X4_findPlace_L31 M q0 q1 x2 (f_X4_findPlace_L31 M q0 q1 x2 n) (x3, x4, x5) = some r := hf
    dsimp only [g_X4_findPlace_L31] at hf
    refine A_iload C (pc := 31) 5 rfl dX4_findPlace_31 ?_
    refine A_aload_n C (pc := 33) 1 rfl dX4_findPlace_33 ?_
    refine A_g3_0 C (pc := 34) hq1 kf_X4_31 dX4_findPlace_34 ?_
    refine A_icmp_gt C (pc := 37) 105 (by decide) dX4_findPlace_37 hf (fun _ hf => ?_) (fun _ hf => ?_)
    · refine A_iload C (pc := 105) 4 rfl dX4_findPlace_105 ?_
      exact R_iM C (pc := 107) hr hk rfl dX4_findPlace_107 hf
    · refine A_iload_n C (pc := 40) 2 rfl dX4_findPlace_40 ?_
      refine A_aload_n C (pc := 41) 1 rfl dX4_findPlace_41 ?_
      refine A_g3_0 C (pc := 42) hq1 kf_X4_31 dX4_findPlace_42 ?_
      refine A_iload C (pc := 45) 5 rfl dX4_findPlace_45 ?_
      refine A_isub C (pc := 47) dX4_findPlace_47 ?_
      obtain ⟨z48, h48, hf⟩ := bd_i hf
      refine A_callS1 C (pc := 48) (A := [.int x2, .int ((M q1 0) - x5)]) (rest := []) k_X4_52 ky_X4_withoutLast ks_X4_withoutLast (m_X4_withoutLast l B D Y o  h48) rfl rfl (Nat.le_of_ble_eq_true rfl) ⟨rfl, rfl, Nat.le_of_ble_eq_true rfl, Nat.le_of_ble_eq_true rfl⟩ ⟨Nat.zero_le _, Nat.zero_le _⟩ dX4_findPlace_48 ?_
      refine A_bipush C (pc := 51) bc_10 dX4_findPlace_51 ?_
      refine A_irem C (pc := 53) (by decide) dX4_findPlace_53 ?_
      refine A_iconst C (pc := 54) ic_1 dX4_findPlace_54 ?_
      refine A_isub C (pc := 55) dX4_findPlace_55 ?_
      obtain ⟨v56, e56, hf⟩ := bd_i hf
      refine A_nmI e56 ?_
      refine A_istore C (pc := 56) [(0, .ref (B + q0)), (1, .ref (B + q1)), (2, .int x2), (3, .int x3), (4, .int x4), (5, .int x5), (6, .int v56)] (by decide) [1, 2, 3, 4, 5, 6, 0] rfl dX4_findPlace_56 ?_
      refine A_aload_n C (pc := 58) 1 rfl dX4_findPlace_58 ?_
      refine A_iload C (pc := 59) 6 rfl dX4_findPlace_59 ?_
      obtain ⟨z61, h61, hf⟩ := bd_i hf
      refine A_callV1 C (pc := 61) (A := [.int v56]) (rest := []) k_X4_59 ky_X3_hasThing kv_X3_hasThing (m_X3_hasThing l B D Y o hq1 h61) (kO hq1).1 (ent2 hq1) rfl rfl rfl (Nat.le_of_ble_eq_true rfl) ⟨rfl, rfl, Nat.le_of_ble_eq_true rfl, Nat.le_of_ble_eq_true rfl⟩ ⟨Nat.zero_le _, Nat.zero_le _⟩ dX4_findPlace_61 ?_
      refine A_if_eq C (pc := 64) 77 (by decide) dX4_findPlace_64 hf (fun _ hf => ?_) (fun _ hf => ?_)
      · refine A_iconst C (pc := 77) ic_m1 dX4_findPlace_77 ?_
        exact R_iM C (pc := 78) hr hk rfl dX4_findPlace_78 hf
      · refine A_aload_n C (pc := 67) 1 rfl dX4_findPlace_67 ?_
        refine A_iload_n C (pc := 68) 3 rfl dX4_findPlace_68 ?_
        refine A_iload C (pc := 69) 6 rfl dX4_findPlace_69 ?_
        obtain ⟨z71, h71, hf⟩ := bd_i hf
        refine A_callV1 C (pc := 71) (A := [.int x3, .int v56]) (rest := []) k_X4_35 ky_X3_canCome kv_X3_canCome (m_X3_canCome l B D Y o hq1 h71) (kO hq1).1 (ent2 hq1) rfl rfl rfl (Nat.le_of_ble_eq_true rfl) ⟨rfl, rfl, Nat.le_of_ble_eq_true rfl, Nat.le_of_ble_eq_true rfl⟩ ⟨Nat.zero_le _, Nat.zero_le _⟩ dX4_findPlace_71 ?_
        refine A_if_ne C (pc := 74) 79 (by decide) dX4_findPlace_74 hf (fun _ hf => ?_) (fun _ hf => ?_)
        · refine A_iload C (pc := 79) 4 rfl dX4_findPlace_79 ?_
          refine A_aload_n C (pc := 81) 0 rfl dX4_findPlace_81 ?_
          refine A_aload_n C (pc := 82) 1 rfl dX4_findPlace_82 ?_
          refine A_iload_n C (pc := 83) 3 rfl dX4_findPlace_83 ?_
          refine A_iload C (pc := 84) 6 rfl dX4_findPlace_84 ?_
          obtain ⟨z86, h86, hf⟩ := bd_i hf
          refine A_callV1 C (pc := 86) (A := [.ref (B + q1), .int x3, .int v56]) (rest := [.int x4]) k_X4_45 ky_X4_waysByLesser kv_X4_waysByLesser (m_X4_waysByLesser l B D Y o hq0 hq1 h86) (kR hq0).1 (ent4 hq0) rfl rfl rfl (Nat.le_of_ble_eq_true rfl) ⟨rfl, rfl, Nat.le_of_ble_eq_true rfl, Nat.le_of_ble_eq_true rfl⟩ ⟨Nat.zero_le _, Nat.zero_le _⟩ dX4_findPlace_86 ?_
          refine A_iadd C (pc := 89) dX4_findPlace_89 ?_
          obtain ⟨v90, e90, hf⟩ := bd_i hf
          refine A_nmI e90 ?_
          refine A_istore C (pc := 90) [(0, .ref (B + q0)), (1, .ref (B + q1)), (2, .int x2), (3, .int x3), (4, .int v90), (5, .int x5), (6, .int v56)] (by decide) [1, 2, 3, 4, 0, 5, 6] rfl dX4_findPlace_90 ?_
          refine A_iload_n C (pc := 92) 3 rfl dX4_findPlace_92 ?_
          refine A_iconst C (pc := 93) ic_1 dX4_findPlace_93 ?_
          refine A_iload C (pc := 94) 6 rfl dX4_findPlace_94 ?_
          refine A_ishl C (pc := 96) dX4_findPlace_96 ?_
          refine A_ior C (pc := 97) dX4_findPlace_97 ?_
          obtain ⟨v98, e98, hf⟩ := bd_i hf
          refine A_nmI e98 ?_
          refine A_istore_n C (pc := 98) [(0, .ref (B + q0)), (1, .ref (B + q1)), (2, .int x2), (3, .int v98), (4, .int v90), (5, .int x5)] rfl (by decide) [1, 2, 3, 0, 4, 5] rfl dX4_findPlace_98 ?_
          refine A_iinc C (pc := 99) (k0 := 5) [(0, .ref (B + q0)), (1, .ref (B + q1)), (2, .int x2), (3, .int v98), (4, .int v90), (5, .int (x5 + 1))] rfl ic_1 (by decide) [1, 2, 3, 4, 5, 0] rfl dX4_findPlace_99 ?_
          refine A_goto C (pc := 102) 31 (by decide) dX4_findPlace_102 ?_
          exact hk31 _ _ _ hf
        · refine A_iconst C (pc := 77) ic_m1 dX4_findPlace_77 ?_
          exact R_iM C (pc := 78) hr hk rfl dX4_findPlace_78 hf
set_option maxRecDepth 100000 in
theorem m_X4_findPlace (l : Launch) (B : Nat) (D : va_G) (Y : Nat → ClassId) (o : Ou) {M : Mem} {q0 : Nat} {q1 : Nat} {x2 : Int32} {r : Int32 × Mem} (hq0 : kd q0 = 4) (hq1 : kd q1 = 2) (hf : f_X4_findPlace M q0 q1 x2 = some r) : MW l yX4_findPlace cX4_findPlace 7 (some .int) rm_X4_findPlace B D Y o [.ref (B + q0), .ref (B + q1), .int x2] M r.2 (some (.int r.1)) := by
  refine ofAt (L0 := [(0, .ref (B + q0)), (1, .ref (B + q1)), (2, .int x2)]) (by decide +kernel) (Nat.le_of_ble_eq_true rfl) rfl (fun p e s m args below meth c C hr hk => ?_)
  dsimp only [f_X4_findPlace] at hf
  refine A_iload_n C (pc := 0) 2 rfl dX4_findPlace_0 ?_
  refine A_if_lt C (pc := 1) 15 (by decide) dX4_findPlace_1 hf (fun _ hf => ?_) (fun _ hf => ?_)
  · refine A_iconst C (pc := 15) ic_m1 dX4_findPlace_15 ?_
    exact R_iM C (pc := 16) hr hk rfl dX4_findPlace_16 hf
  · refine A_iload_n C (pc := 4) 2 rfl dX4_findPlace_4 ?_
    refine A_aload_n C (pc := 5) 1 rfl dX4_findPlace_5 ?_
    refine A_g3_0 C (pc := 6) hq1 kf_X4_31 dX4_findPlace_6 ?_
    obtain ⟨z9, h9, hf⟩ := bd_i hf
    refine A_callS1 C (pc := 9) (A := [.int x2, .int (M q1 0)]) (rest := []) k_X4_52 ky_X4_withoutLast ks_X4_withoutLast (m_X4_withoutLast l B D Y o  h9) rfl rfl (Nat.le_of_ble_eq_true rfl) ⟨rfl, rfl, Nat.le_of_ble_eq_true rfl, Nat.le_of_ble_eq_true rfl⟩ ⟨Nat.zero_le _, Nat.zero_le _⟩ dX4_findPlace_9 ?_
    refine A_if_eq C (pc := 12) 17 (by decide) dX4_findPlace_12 hf (fun _ hf => ?_) (fun _ hf => ?_)
    · refine A_aload_n C (pc := 17) 0 rfl dX4_findPlace_17 ?_
      refine A_aload_n C (pc := 18) 1 rfl dX4_findPlace_18 ?_
      obtain ⟨z19, h19, hf⟩ := bd_i hf
      refine A_callV1 C (pc := 19) (A := [.ref (B + q1)]) (rest := []) k_X4_56 ky_X4_fill kv_X4_fill (m_X4_fill l B D Y o hq0 hq1 h19) (kR hq0).1 (ent4 hq0) rfl rfl rfl (Nat.le_of_ble_eq_true rfl) ⟨rfl, rfl, Nat.le_of_ble_eq_true rfl, Nat.le_of_ble_eq_true rfl⟩ ⟨Nat.zero_le _, Nat.zero_le _⟩ dX4_findPlace_19 ?_
      refine A_pop C (pc := 22) rfl dX4_findPlace_22 ?_
      refine A_iconst C (pc := 23) ic_0 dX4_findPlace_23 ?_
      refine A_istore_n C (pc := 24) [(0, .ref (B + q0)), (1, .ref (B + q1)), (2, .int x2), (3, .int 0)] rfl (by decide) [1, 2, 3, 0] rfl dX4_findPlace_24 ?_
      refine A_iconst C (pc := 25) ic_0 dX4_findPlace_25 ?_
      refine A_istore C (pc := 26) [(0, .ref (B + q0)), (1, .ref (B + q1)), (2, .int x2), (3, .int 0), (4, .int 0)] (by decide) [1, 2, 3, 4, 0] rfl dX4_findPlace_26 ?_
      refine A_iconst C (pc := 28) ic_1 dX4_findPlace_28 ?_
      refine A_istore C (pc := 29) [(0, .ref (B + q0)), (1, .ref (B + q1)), (2, .int x2), (3, .int 0), (4, .int 0), (5, .int 1)] (by decide) [1, 2, 3, 4, 5, 0] rfl dX4_findPlace_29 ?_
      exact w_X4_findPlace_L31 C hr hk hq0 hq1 FU _ _ _  hf
    · refine A_iconst C (pc := 15) ic_m1 dX4_findPlace_15 ?_
      exact R_iM C (pc := 16) hr hk rfl dX4_findPlace_16 hf
set_option maxRecDepth 100000 in
theorem m_X4_waysThrough (l : Launch) (B : Nat) (D : va_G) (Y : Nat → ClassId) (o : Ou) {M : Mem} {q0 : Nat} {q1 : Nat} {x2 : Int32} {x3 : Int32} {r : Int32} (hq0 : kd q0 = 4) (hq1 : kd q1 = 2) (hf : f_X4_waysThrough M q0 q1 x2 x3 = some r) : MW l yX4_waysThrough cX4_waysThrough 4 (some .int) rm_X4_waysThrough B D Y o [.ref (B + q0), .ref (B + q1), .int x2, .int x3] M M (some (.int r)) := by
  refine ofAt (L0 := [(0, .ref (B + q0)), (1, .ref (B + q1)), (2, .int x2), (3, .int x3)]) (by decide +kernel) (Nat.le_of_ble_eq_true rfl) rfl (fun p e s m args below meth c C hr hk => ?_)
  dsimp only [f_X4_waysThrough] at hf
  refine A_aload_n C (pc := 0) 1 rfl dX4_waysThrough_0 ?_
  refine A_iload_n C (pc := 1) 2 rfl dX4_waysThrough_1 ?_
  refine A_iload_n C (pc := 2) 3 rfl dX4_waysThrough_2 ?_
  obtain ⟨z3, h3, hf⟩ := bd_i hf
  refine A_callV1 C (pc := 3) (A := [.int x2, .int x3]) (rest := []) k_X4_35 ky_X3_canCome kv_X3_canCome (m_X3_canCome l B D Y o hq1 h3) (kO hq1).1 (ent2 hq1) rfl rfl rfl (Nat.le_of_ble_eq_true rfl) ⟨rfl, rfl, Nat.le_of_ble_eq_true rfl, Nat.le_of_ble_eq_true rfl⟩ ⟨Nat.zero_le _, Nat.zero_le _⟩ dX4_waysThrough_3 ?_
  refine A_if_eq C (pc := 6) 38 (by decide) dX4_waysThrough_6 hf (fun _ hf => ?_) (fun _ hf => ?_)
  · refine A_iconst C (pc := 38) ic_0 dX4_waysThrough_38 ?_
    exact R_iP C (pc := 39) hr hk rfl dX4_waysThrough_39 hf
  · refine A_aload_n C (pc := 9) 0 rfl dX4_waysThrough_9 ?_
    refine A_g4_0 C (pc := 10) hq0 kf_X4_9 dX4_waysThrough_10 ?_
    refine A_iload_n C (pc := 13) 2 rfl dX4_waysThrough_13 ?_
    obtain ⟨c14, hf⟩ := chk_i hf
    refine A_iald C (pc := 14) (iR1 hq0) c14 dX4_waysThrough_14 ?_
    refine A_if_eq C (pc := 15) 38 (by decide) dX4_waysThrough_15 hf (fun _ hf => ?_) (fun _ hf => ?_)
    · refine A_iconst C (pc := 38) ic_0 dX4_waysThrough_38 ?_
      exact R_iP C (pc := 39) hr hk rfl dX4_waysThrough_39 hf
    · refine A_aload_n C (pc := 18) 0 rfl dX4_waysThrough_18 ?_
      refine A_g4_0 C (pc := 19) hq0 kf_X4_9 dX4_waysThrough_19 ?_
      refine A_iload_n C (pc := 22) 2 rfl dX4_waysThrough_22 ?_
      obtain ⟨c23, hf⟩ := chk_i hf
      refine A_iald C (pc := 23) (iR1 hq0) c23 dX4_waysThrough_23 ?_
      refine A_aload_n C (pc := 24) 0 rfl dX4_waysThrough_24 ?_
      refine A_g4_1 C (pc := 25) hq0 kf_X4_15 dX4_waysThrough_25 ?_
      refine A_iload_n C (pc := 28) 2 rfl dX4_waysThrough_28 ?_
      refine A_iconst C (pc := 29) ic_1 dX4_waysThrough_29 ?_
      refine A_iload_n C (pc := 30) 3 rfl dX4_waysThrough_30 ?_
      refine A_ishl C (pc := 31) dX4_waysThrough_31 ?_
      refine A_ior C (pc := 32) dX4_waysThrough_32 ?_
      obtain ⟨c33, hf⟩ := chk_i hf
      refine A_iald C (pc := 33) (iR2 hq0) c33 dX4_waysThrough_33 ?_
      refine A_imul C (pc := 34) dX4_waysThrough_34 ?_
      refine A_goto C (pc := 35) 39 (by decide) dX4_waysThrough_35 ?_
      exact R_iP C (pc := 39) hr hk rfl dX4_waysThrough_39 hf
set_option maxRecDepth 100000 in
theorem w_X4_countAhead_L6 {M : Mem} {q0 : Nat} {q1 : Nat} {x2 : Int32} {x3 : Int32} {r : Int32} (C : Cx p s m args c cX4_countAhead 6 RX4 B D Y) (hr : meth.sig.returnType = (some .int)) (hk : meth.locks = false) (hq0 : kd q0 = 4) (hq1 : kd q1 = 2) : ∀ (n : Nat) (x4 : Int32) (x5 : Int32), f_X4_countAhead_L6 M q0 q1 x2 x3 n (x4, x5) = some r → At p l e rm_X4_countAhead s m args below meth c 6 0 0 (QQ below args s B D Y M o (some (.int r))) B D Y o 6 M [(0, .ref (B + q0)), (1, .ref (B + q1)), (2, .int x2), (3, .int x3), (4, .int x4), (5, .int x5)] [] := by
  intro n
  induction n with
  | zero => intro x4 x5 hf; exact nomatch (show (none : Option Int32) = some r from hf)
  | succ n hk6 =>
    intro x4 x5 hf
    replace hf : g_X4_countAhead_L6 M q0 q1 x2 x3 (f_X4_countAhead_L6 M q0 q1 x2 x3 n) (x4, x5) = some r := hf
    dsimp only [g_X4_countAhead_L6] at hf
    refine A_iload C (pc := 6) 5 rfl dX4_countAhead_6 ?_
    refine A_aload_n C (pc := 8) 1 rfl dX4_countAhead_8 ?_
    obtain ⟨z9, h9, hf⟩ := bd_i hf
    refine A_callV1 C (pc := 9) (A := []) (rest := [.int x5]) k_X4_21 ky_X3_setLimit kv_X3_setLimit (m_X3_setLimit l B D Y o hq1 h9) (kO hq1).1 (ent2 hq1) rfl rfl rfl (Nat.le_of_ble_eq_true rfl) ⟨rfl, rfl, Nat.le_of_ble_eq_true rfl, Nat.le_of_ble_eq_true rfl⟩ ⟨Nat.zero_le _, Nat.zero_le _⟩ dX4_countAhead_9 ?_
    refine A_icmp_ge C (pc := 12) 43 (by decide) dX4_countAhead_12 hf (fun _ hf => ?_) (fun _ hf => ?_)
    · refine A_iload C (pc := 43) 4 rfl dX4_countAhead_43 ?_
      exact R_iP C (pc := 45) hr hk rfl dX4_countAhead_45 hf
    · refine A_iload C (pc := 15) 5 rfl dX4_countAhead_15 ?_
      refine A_iload_n C (pc := 17) 2 rfl dX4_countAhead_17 ?_
      obtain ⟨z18, h18, hf⟩ := bd_i hf
      refine A_callS1 C (pc := 18) (A := [.int x5, .int x2]) (rest := []) k_X4_63 ky_X6_has ks_X6_has (m_X6_has l B D Y o  h18) rfl rfl (Nat.le_of_ble_eq_true rfl) ⟨rfl, rfl, Nat.le_of_ble_eq_true rfl, Nat.le_of_ble_eq_true rfl⟩ ⟨Nat.zero_le _, Nat.zero_le _⟩ dX4_countAhead_18 ?_
      refine A_if_eq C (pc := 21) 37 (by decide) dX4_countAhead_21 hf (fun _ hf => ?_) (fun _ hf => ?_)
      · refine A_iinc C (pc := 37) (k0 := 5) [(0, .ref (B + q0)), (1, .ref (B + q1)), (2, .int x2), (3, .int x3), (4, .int x4), (5, .int (x5 + 1))] rfl ic_1 (by decide) [1, 2, 3, 4, 5, 0] rfl dX4_countAhead_37 ?_
        refine A_goto C (pc := 40) 6 (by decide) dX4_countAhead_40 ?_
        exact hk6 _ _ hf
      · refine A_iload C (pc := 24) 4 rfl dX4_countAhead_24 ?_
        refine A_aload_n C (pc := 26) 0 rfl dX4_countAhead_26 ?_
        refine A_aload_n C (pc := 27) 1 rfl dX4_countAhead_27 ?_
        refine A_iload C (pc := 28) 5 rfl dX4_countAhead_28 ?_
        refine A_iload_n C (pc := 30) 3 rfl dX4_countAhead_30 ?_
        obtain ⟨z31, h31, hf⟩ := bd_i hf
        refine A_callV1 C (pc := 31) (A := [.ref (B + q1), .int x5, .int x3]) (rest := [.int x4]) k_X4_66 ky_X4_waysThrough kv_X4_waysThrough (m_X4_waysThrough l B D Y o hq0 hq1 h31) (kR hq0).1 (ent4 hq0) rfl rfl rfl (Nat.le_of_ble_eq_true rfl) ⟨rfl, rfl, Nat.le_of_ble_eq_true rfl, Nat.le_of_ble_eq_true rfl⟩ ⟨Nat.zero_le _, Nat.zero_le _⟩ dX4_countAhead_31 ?_
        refine A_iadd C (pc := 34) dX4_countAhead_34 ?_
        obtain ⟨v35, e35, hf⟩ := bd_i hf
        refine A_nmI e35 ?_
        refine A_istore C (pc := 35) [(0, .ref (B + q0)), (1, .ref (B + q1)), (2, .int x2), (3, .int x3), (4, .int v35), (5, .int x5)] (by decide) [1, 2, 3, 4, 0, 5] rfl dX4_countAhead_35 ?_
        refine A_iinc C (pc := 37) (k0 := 5) [(0, .ref (B + q0)), (1, .ref (B + q1)), (2, .int x2), (3, .int x3), (4, .int v35), (5, .int (x5 + 1))] rfl ic_1 (by decide) [1, 2, 3, 4, 5, 0] rfl dX4_countAhead_37 ?_
        refine A_goto C (pc := 40) 6 (by decide) dX4_countAhead_40 ?_
        exact hk6 _ _ hf
set_option maxRecDepth 100000 in
theorem m_X4_countAhead (l : Launch) (B : Nat) (D : va_G) (Y : Nat → ClassId) (o : Ou) {M : Mem} {q0 : Nat} {q1 : Nat} {x2 : Int32} {x3 : Int32} {r : Int32} (hq0 : kd q0 = 4) (hq1 : kd q1 = 2) (hf : f_X4_countAhead M q0 q1 x2 x3 = some r) : MW l yX4_countAhead cX4_countAhead 6 (some .int) rm_X4_countAhead B D Y o [.ref (B + q0), .ref (B + q1), .int x2, .int x3] M M (some (.int r)) := by
  refine ofAt (L0 := [(0, .ref (B + q0)), (1, .ref (B + q1)), (2, .int x2), (3, .int x3)]) (by decide +kernel) (Nat.le_of_ble_eq_true rfl) rfl (fun p e s m args below meth c C hr hk => ?_)
  dsimp only [f_X4_countAhead] at hf
  refine A_iconst C (pc := 0) ic_0 dX4_countAhead_0 ?_
  refine A_istore C (pc := 1) [(0, .ref (B + q0)), (1, .ref (B + q1)), (2, .int x2), (3, .int x3), (4, .int 0)] (by decide) [1, 2, 3, 4, 0] rfl dX4_countAhead_1 ?_
  refine A_iconst C (pc := 3) ic_0 dX4_countAhead_3 ?_
  refine A_istore C (pc := 4) [(0, .ref (B + q0)), (1, .ref (B + q1)), (2, .int x2), (3, .int x3), (4, .int 0), (5, .int 0)] (by decide) [1, 2, 3, 4, 5, 0] rfl dX4_countAhead_4 ?_
  exact w_X4_countAhead_L6 C hr hk hq0 hq1 FU _ _  hf
set_option maxRecDepth 100000 in
theorem w_X4_countAtPlace_L6 {M : Mem} {q0 : Nat} {q1 : Nat} {x2 : Int32} {x3 : Int32} {r : Int32} (C : Cx p s m args c cX4_countAtPlace 6 RX4 B D Y) (hr : meth.sig.returnType = (some .int)) (hk : meth.locks = false) (hq0 : kd q0 = 4) (hq1 : kd q1 = 2) : ∀ (n : Nat) (x4 : Int32) (x5 : Int32), f_X4_countAtPlace_L6 M q0 q1 x2 x3 n (x4, x5) = some r → At p l e rm_X4_countAtPlace s m args below meth c 6 0 0 (QQ below args s B D Y M o (some (.int r))) B D Y o 6 M [(0, .ref (B + q0)), (1, .ref (B + q1)), (2, .int x2), (3, .int x3), (4, .int x4), (5, .int x5)] [] := by
  intro n
  induction n with
  | zero => intro x4 x5 hf; exact nomatch (show (none : Option Int32) = some r from hf)
  | succ n hk6 =>
    intro x4 x5 hf
    replace hf : g_X4_countAtPlace_L6 M q0 q1 x2 x3 (f_X4_countAtPlace_L6 M q0 q1 x2 x3 n) (x4, x5) = some r := hf
    dsimp only [g_X4_countAtPlace_L6] at hf
    refine A_iload C (pc := 6) 5 rfl dX4_countAtPlace_6 ?_
    refine A_aload_n C (pc := 8) 1 rfl dX4_countAtPlace_8 ?_
    obtain ⟨z9, h9, hf⟩ := bd_i hf
    refine A_callV1 C (pc := 9) (A := []) (rest := [.int x5]) k_X4_21 ky_X3_setLimit kv_X3_setLimit (m_X3_setLimit l B D Y o hq1 h9) (kO hq1).1 (ent2 hq1) rfl rfl rfl (Nat.le_of_ble_eq_true rfl) ⟨rfl, rfl, Nat.le_of_ble_eq_true rfl, Nat.le_of_ble_eq_true rfl⟩ ⟨Nat.zero_le _, Nat.zero_le _⟩ dX4_countAtPlace_9 ?_
    refine A_icmp_ge C (pc := 12) 43 (by decide) dX4_countAtPlace_12 hf (fun _ hf => ?_) (fun _ hf => ?_)
    · refine A_iload C (pc := 43) 4 rfl dX4_countAtPlace_43 ?_
      exact R_iP C (pc := 45) hr hk rfl dX4_countAtPlace_45 hf
    · refine A_iload C (pc := 15) 5 rfl dX4_countAtPlace_15 ?_
      obtain ⟨z17, h17, hf⟩ := bd_i hf
      refine A_callS1 C (pc := 17) (A := [.int x5]) (rest := []) k_X4_69 ky_J6_bitCount_0f7a4 ks_J6_bitCount_0f7a4 (m_J6_bitCount_0f7a4 l B D Y o  h17) rfl rfl (Nat.le_of_ble_eq_true rfl) ⟨rfl, rfl, Nat.le_of_ble_eq_true rfl, Nat.le_of_ble_eq_true rfl⟩ ⟨Nat.zero_le _, Nat.zero_le _⟩ dX4_countAtPlace_17 ?_
      refine A_iload_n C (pc := 20) 3 rfl dX4_countAtPlace_20 ?_
      refine A_icmp_ne C (pc := 21) 37 (by decide) dX4_countAtPlace_21 hf (fun _ hf => ?_) (fun _ hf => ?_)
      · refine A_iinc C (pc := 37) (k0 := 5) [(0, .ref (B + q0)), (1, .ref (B + q1)), (2, .int x2), (3, .int x3), (4, .int x4), (5, .int (x5 + 1))] rfl ic_1 (by decide) [1, 2, 3, 4, 5, 0] rfl dX4_countAtPlace_37 ?_
        refine A_goto C (pc := 40) 6 (by decide) dX4_countAtPlace_40 ?_
        exact hk6 _ _ hf
      · refine A_iload C (pc := 24) 4 rfl dX4_countAtPlace_24 ?_
        refine A_aload_n C (pc := 26) 0 rfl dX4_countAtPlace_26 ?_
        refine A_aload_n C (pc := 27) 1 rfl dX4_countAtPlace_27 ?_
        refine A_iload C (pc := 28) 5 rfl dX4_countAtPlace_28 ?_
        refine A_iload_n C (pc := 30) 2 rfl dX4_countAtPlace_30 ?_
        obtain ⟨z31, h31, hf⟩ := bd_i hf
        refine A_callV1 C (pc := 31) (A := [.ref (B + q1), .int x5, .int x2]) (rest := [.int x4]) k_X4_66 ky_X4_waysThrough kv_X4_waysThrough (m_X4_waysThrough l B D Y o hq0 hq1 h31) (kR hq0).1 (ent4 hq0) rfl rfl rfl (Nat.le_of_ble_eq_true rfl) ⟨rfl, rfl, Nat.le_of_ble_eq_true rfl, Nat.le_of_ble_eq_true rfl⟩ ⟨Nat.zero_le _, Nat.zero_le _⟩ dX4_countAtPlace_31 ?_
        refine A_iadd C (pc := 34) dX4_countAtPlace_34 ?_
        obtain ⟨v35, e35, hf⟩ := bd_i hf
        refine A_nmI e35 ?_
        refine A_istore C (pc := 35) [(0, .ref (B + q0)), (1, .ref (B + q1)), (2, .int x2), (3, .int x3), (4, .int v35), (5, .int x5)] (by decide) [1, 2, 3, 4, 0, 5] rfl dX4_countAtPlace_35 ?_
        refine A_iinc C (pc := 37) (k0 := 5) [(0, .ref (B + q0)), (1, .ref (B + q1)), (2, .int x2), (3, .int x3), (4, .int v35), (5, .int (x5 + 1))] rfl ic_1 (by decide) [1, 2, 3, 4, 5, 0] rfl dX4_countAtPlace_37 ?_
        refine A_goto C (pc := 40) 6 (by decide) dX4_countAtPlace_40 ?_
        exact hk6 _ _ hf
set_option maxRecDepth 100000 in
theorem m_X4_countAtPlace (l : Launch) (B : Nat) (D : va_G) (Y : Nat → ClassId) (o : Ou) {M : Mem} {q0 : Nat} {q1 : Nat} {x2 : Int32} {x3 : Int32} {r : Int32} (hq0 : kd q0 = 4) (hq1 : kd q1 = 2) (hf : f_X4_countAtPlace M q0 q1 x2 x3 = some r) : MW l yX4_countAtPlace cX4_countAtPlace 6 (some .int) rm_X4_countAtPlace B D Y o [.ref (B + q0), .ref (B + q1), .int x2, .int x3] M M (some (.int r)) := by
  refine ofAt (L0 := [(0, .ref (B + q0)), (1, .ref (B + q1)), (2, .int x2), (3, .int x3)]) (by decide +kernel) (Nat.le_of_ble_eq_true rfl) rfl (fun p e s m args below meth c C hr hk => ?_)
  dsimp only [f_X4_countAtPlace] at hf
  refine A_iconst C (pc := 0) ic_0 dX4_countAtPlace_0 ?_
  refine A_istore C (pc := 1) [(0, .ref (B + q0)), (1, .ref (B + q1)), (2, .int x2), (3, .int x3), (4, .int 0)] (by decide) [1, 2, 3, 4, 0] rfl dX4_countAtPlace_1 ?_
  refine A_iconst C (pc := 3) ic_0 dX4_countAtPlace_3 ?_
  refine A_istore C (pc := 4) [(0, .ref (B + q0)), (1, .ref (B + q1)), (2, .int x2), (3, .int x3), (4, .int 0), (5, .int 0)] (by decide) [1, 2, 3, 4, 5, 0] rfl dX4_countAtPlace_4 ?_
  exact w_X4_countAtPlace_L6 C hr hk hq0 hq1 FU _ _  hf
set_option maxRecDepth 100000 in
theorem w_X4_sumOfPlaces_L5 {M : Mem} {q0 : Nat} {q1 : Nat} {x2 : Int32} {r : Int32} (C : Cx p s m args c cX4_sumOfPlaces 5 RX4 B D Y) (hr : meth.sig.returnType = (some .int)) (hk : meth.locks = false) (hq0 : kd q0 = 4) (hq1 : kd q1 = 2) : ∀ (n : Nat) (x3 : Int32) (x4 : Int32), f_X4_sumOfPlaces_L5 M q0 q1 x2 n (x3, x4) = some r → At p l e rm_X4_sumOfPlaces s m args below meth c 5 0 0 (QQ below args s B D Y M o (some (.int r))) B D Y o 5 M [(0, .ref (B + q0)), (1, .ref (B + q1)), (2, .int x2), (3, .int x3), (4, .int x4)] [] := by
  intro n
  induction n with
  | zero => intro x3 x4 hf; exact nomatch (show (none : Option Int32) = some r from hf)
  | succ n hk5 =>
    intro x3 x4 hf
    replace hf : g_X4_sumOfPlaces_L5 M q0 q1 x2 (f_X4_sumOfPlaces_L5 M q0 q1 x2 n) (x3, x4) = some r := hf
    dsimp only [g_X4_sumOfPlaces_L5] at hf
    refine A_iload C (pc := 5) 4 rfl dX4_sumOfPlaces_5 ?_
    refine A_aload_n C (pc := 7) 1 rfl dX4_sumOfPlaces_7 ?_
    obtain ⟨z8, h8, hf⟩ := bd_i hf
    refine A_callV1 C (pc := 8) (A := []) (rest := [.int x4]) k_X4_21 ky_X3_setLimit kv_X3_setLimit (m_X3_setLimit l B D Y o hq1 h8) (kO hq1).1 (ent2 hq1) rfl rfl rfl (Nat.le_of_ble_eq_true rfl) ⟨rfl, rfl, Nat.le_of_ble_eq_true rfl, Nat.le_of_ble_eq_true rfl⟩ ⟨Nat.zero_le _, Nat.zero_le _⟩ dX4_sumOfPlaces_8 ?_
    refine A_icmp_ge C (pc := 11) 37 (by decide) dX4_sumOfPlaces_11 hf (fun _ hf => ?_) (fun _ hf => ?_)
    · refine A_iload_n C (pc := 37) 3 rfl dX4_sumOfPlaces_37 ?_
      exact R_iP C (pc := 38) hr hk rfl dX4_sumOfPlaces_38 hf
    · refine A_iload_n C (pc := 14) 3 rfl dX4_sumOfPlaces_14 ?_
      refine A_iload C (pc := 15) 4 rfl dX4_sumOfPlaces_15 ?_
      obtain ⟨z17, h17, hf⟩ := bd_i hf
      refine A_callS1 C (pc := 17) (A := [.int x4]) (rest := [.int x3]) k_X4_69 ky_J6_bitCount_0f7a4 ks_J6_bitCount_0f7a4 (m_J6_bitCount_0f7a4 l B D Y o  h17) rfl rfl (Nat.le_of_ble_eq_true rfl) ⟨rfl, rfl, Nat.le_of_ble_eq_true rfl, Nat.le_of_ble_eq_true rfl⟩ ⟨Nat.zero_le _, Nat.zero_le _⟩ dX4_sumOfPlaces_17 ?_
      refine A_aload_n C (pc := 20) 0 rfl dX4_sumOfPlaces_20 ?_
      refine A_aload_n C (pc := 21) 1 rfl dX4_sumOfPlaces_21 ?_
      refine A_iload C (pc := 22) 4 rfl dX4_sumOfPlaces_22 ?_
      refine A_iload_n C (pc := 24) 2 rfl dX4_sumOfPlaces_24 ?_
      obtain ⟨z25, h25, hf⟩ := bd_i hf
      refine A_callV1 C (pc := 25) (A := [.ref (B + q1), .int x4, .int x2]) (rest := [.int z17, .int x3]) k_X4_66 ky_X4_waysThrough kv_X4_waysThrough (m_X4_waysThrough l B D Y o hq0 hq1 h25) (kR hq0).1 (ent4 hq0) rfl rfl rfl (Nat.le_of_ble_eq_true rfl) ⟨rfl, rfl, Nat.le_of_ble_eq_true rfl, Nat.le_of_ble_eq_true rfl⟩ ⟨Nat.zero_le _, Nat.zero_le _⟩ dX4_sumOfPlaces_25 ?_
      refine A_imul C (pc := 28) dX4_sumOfPlaces_28 ?_
      refine A_iadd C (pc := 29) dX4_sumOfPlaces_29 ?_
      obtain ⟨v30, e30, hf⟩ := bd_i hf
      refine A_nmI e30 ?_
      refine A_istore_n C (pc := 30) [(0, .ref (B + q0)), (1, .ref (B + q1)), (2, .int x2), (3, .int v30), (4, .int x4)] rfl (by decide) [1, 2, 3, 0, 4] rfl dX4_sumOfPlaces_30 ?_
      refine A_iinc C (pc := 31) (k0 := 4) [(0, .ref (B + q0)), (1, .ref (B + q1)), (2, .int x2), (3, .int v30), (4, .int (x4 + 1))] rfl ic_1 (by decide) [1, 2, 3, 4, 0] rfl dX4_sumOfPlaces_31 ?_
      refine A_goto C (pc := 34) 5 (by decide) dX4_sumOfPlaces_34 ?_
      exact hk5 _ _ hf
set_option maxRecDepth 100000 in
theorem m_X4_sumOfPlaces (l : Launch) (B : Nat) (D : va_G) (Y : Nat → ClassId) (o : Ou) {M : Mem} {q0 : Nat} {q1 : Nat} {x2 : Int32} {r : Int32} (hq0 : kd q0 = 4) (hq1 : kd q1 = 2) (hf : f_X4_sumOfPlaces M q0 q1 x2 = some r) : MW l yX4_sumOfPlaces cX4_sumOfPlaces 5 (some .int) rm_X4_sumOfPlaces B D Y o [.ref (B + q0), .ref (B + q1), .int x2] M M (some (.int r)) := by
  refine ofAt (L0 := [(0, .ref (B + q0)), (1, .ref (B + q1)), (2, .int x2)]) (by decide +kernel) (Nat.le_of_ble_eq_true rfl) rfl (fun p e s m args below meth c C hr hk => ?_)
  dsimp only [f_X4_sumOfPlaces] at hf
  refine A_iconst C (pc := 0) ic_0 dX4_sumOfPlaces_0 ?_
  refine A_istore_n C (pc := 1) [(0, .ref (B + q0)), (1, .ref (B + q1)), (2, .int x2), (3, .int 0)] rfl (by decide) [1, 2, 3, 0] rfl dX4_sumOfPlaces_1 ?_
  refine A_iconst C (pc := 2) ic_0 dX4_sumOfPlaces_2 ?_
  refine A_istore C (pc := 3) [(0, .ref (B + q0)), (1, .ref (B + q1)), (2, .int x2), (3, .int 0), (4, .int 0)] (by decide) [1, 2, 3, 4, 0] rfl dX4_sumOfPlaces_3 ?_
  exact w_X4_sumOfPlaces_L5 C hr hk hq0 hq1 FU _ _  hf
set_option maxRecDepth 100000 in
theorem w_X5_isOrdered_L2 {M : Mem} {q0 : Nat} {r : Int32} (C : Cx p s m args c cX5_isOrdered 2 RX5 B D Y) (hr : meth.sig.returnType = (some .boolean)) (hk : meth.locks = false) (hq0 : kd q0 = 2) : ∀ (n : Nat) (x1 : Int32), f_X5_isOrdered_L2 M q0 n x1 = some r → At p l e rm_X5_isOrdered s m args below meth c 2 0 0 (QQ below args s B D Y M o (some (.int r))) B D Y o 2 M [(0, .ref (B + q0)), (1, .int x1)] [] := by
  intro n
  induction n with
  | zero => intro x1 hf; exact nomatch (show (none : Option Int32) = some r from hf)
  | succ n hk2 =>
    intro x1 hf
    replace hf : g_X5_isOrdered_L2 M q0 (f_X5_isOrdered_L2 M q0 n) x1 = some r := hf
    dsimp only [g_X5_isOrdered_L2] at hf
    refine A_iload_n C (pc := 2) 1 rfl dX5_isOrdered_2 ?_
    refine A_aload_n C (pc := 3) 0 rfl dX5_isOrdered_3 ?_
    refine A_g3_0 C (pc := 4) hq0 kf_X5_84 dX5_isOrdered_4 ?_
    refine A_icmp_ge C (pc := 7) 49 (by decide) dX5_isOrdered_7 hf (fun _ hf => ?_) (fun _ hf => ?_)
    · refine A_iconst C (pc := 49) ic_1 dX5_isOrdered_49 ?_
      exact R_iP C (pc := 50) hr hk nz_1 dX5_isOrdered_50 hf
    · refine A_aload_n C (pc := 10) 0 rfl dX5_isOrdered_10 ?_
      refine A_iload_n C (pc := 11) 1 rfl dX5_isOrdered_11 ?_
      refine A_iload_n C (pc := 12) 1 rfl dX5_isOrdered_12 ?_
      obtain ⟨z13, h13, hf⟩ := bd_i hf
      refine A_callV1 C (pc := 13) (A := [.int x1, .int x1]) (rest := []) k_X5_88 ky_X3_isBelow kv_X3_isBelow (m_X3_isBelow l B D Y o hq0 h13) (kO hq0).1 (ent2 hq0) rfl rfl rfl (Nat.le_of_ble_eq_true rfl) ⟨rfl, rfl, Nat.le_of_ble_eq_true rfl, Nat.le_of_ble_eq_true rfl⟩ ⟨Nat.zero_le _, Nat.zero_le _⟩ dX5_isOrdered_13 ?_
      refine A_if_ne C (pc := 16) 41 (by decide) dX5_isOrdered_16 hf (fun _ hf => ?_) (fun _ hf => ?_)
      · refine A_iconst C (pc := 41) ic_0 dX5_isOrdered_41 ?_
        exact R_iP C (pc := 42) hr hk nz_0 dX5_isOrdered_42 hf
      · refine A_aload_n C (pc := 19) 0 rfl dX5_isOrdered_19 ?_
        refine A_aload_n C (pc := 20) 0 rfl dX5_isOrdered_20 ?_
        refine A_g3_1 C (pc := 21) hq0 kf_X5_92 dX5_isOrdered_21 ?_
        refine A_iload_n C (pc := 24) 1 rfl dX5_isOrdered_24 ?_
        obtain ⟨c25, hf⟩ := chk_i hf
        refine A_iald C (pc := 25) (iO1 hq0) c25 dX5_isOrdered_25 ?_
        obtain ⟨z26, h26, hf⟩ := bd_i hf
        refine A_callV1 C (pc := 26) (A := [.int (M (q0 + 1) x1.toNatClampNeg)]) (rest := []) k_X5_95 ky_X3_allBelow kv_X3_allBelow (m_X3_allBelow l B D Y o hq0 h26) (kO hq0).1 (ent2 hq0) rfl rfl rfl (Nat.le_of_ble_eq_true rfl) ⟨rfl, rfl, Nat.le_of_ble_eq_true rfl, Nat.le_of_ble_eq_true rfl⟩ ⟨Nat.zero_le _, Nat.zero_le _⟩ dX5_isOrdered_26 ?_
        refine A_aload_n C (pc := 29) 0 rfl dX5_isOrdered_29 ?_
        refine A_g3_1 C (pc := 30) hq0 kf_X5_92 dX5_isOrdered_30 ?_
        refine A_iload_n C (pc := 33) 1 rfl dX5_isOrdered_33 ?_
        obtain ⟨c34, hf⟩ := chk_i hf
        refine A_iald C (pc := 34) (iO1 hq0) c34 dX5_isOrdered_34 ?_
        obtain ⟨z35, h35, hf⟩ := bd_i hf
        refine A_callS1 C (pc := 35) (A := [.int z26, .int (M (q0 + 1) x1.toNatClampNeg)]) (rest := []) k_X5_99 ky_X6_isWithin ks_X6_isWithin (m_X6_isWithin l B D Y o  h35) rfl rfl (Nat.le_of_ble_eq_true rfl) ⟨rfl, rfl, Nat.le_of_ble_eq_true rfl, Nat.le_of_ble_eq_true rfl⟩ ⟨Nat.zero_le _, Nat.zero_le _⟩ dX5_isOrdered_35 ?_
        refine A_if_ne C (pc := 38) 43 (by decide) dX5_isOrdered_38 hf (fun _ hf => ?_) (fun _ hf => ?_)
        · refine A_iinc C (pc := 43) (k0 := 1) [(0, .ref (B + q0)), (1, .int (x1 + 1))] rfl ic_1 (by decide) [1, 0] rfl dX5_isOrdered_43 ?_
          refine A_goto C (pc := 46) 2 (by decide) dX5_isOrdered_46 ?_
          exact hk2 _ hf
        · refine A_iconst C (pc := 41) ic_0 dX5_isOrdered_41 ?_
          exact R_iP C (pc := 42) hr hk nz_0 dX5_isOrdered_42 hf
set_option maxRecDepth 100000 in
theorem m_X5_isOrdered (l : Launch) (B : Nat) (D : va_G) (Y : Nat → ClassId) (o : Ou) {M : Mem} {q0 : Nat} {r : Int32} (hq0 : kd q0 = 2) (hf : f_X5_isOrdered M q0 = some r) : MW l yX5_isOrdered cX5_isOrdered 2 (some .boolean) rm_X5_isOrdered B D Y o [.ref (B + q0)] M M (some (.int r)) := by
  refine ofAt (L0 := [(0, .ref (B + q0))]) (by decide +kernel) (Nat.le_of_ble_eq_true rfl) rfl (fun p e s m args below meth c C hr hk => ?_)
  dsimp only [f_X5_isOrdered] at hf
  refine A_iconst C (pc := 0) ic_0 dX5_isOrdered_0 ?_
  refine A_istore_n C (pc := 1) [(0, .ref (B + q0)), (1, .int 0)] rfl (by decide) [1, 0] rfl dX5_isOrdered_1 ?_
  exact w_X5_isOrdered_L2 C hr hk hq0 FU _  hf
set_option maxRecDepth 100000 in
theorem w_X5_linksLeastFor_L114 {M : Mem} {q1 : Nat} {x3 : Int32} {x5 : Int32} {x6 : Int32} {y0 : Int32} {r : Int32 × Mem} (C : Cx p s m args c cX5_linksLeastFor 8 RX5 B D Y) (hr : meth.sig.returnType = (some .boolean)) (hk : meth.locks = false) (hq1 : kd q1 = 2) {k84 : Int32 → Option (Int32 × Mem)} (hk84 : ∀ (x6 : Int32), k84 x6 = some r → At p l e rm_X5_linksLeastFor s m args below meth c 8 0 0 (QQ below args s B D Y r.2 o (some (.int r.1))) B D Y o 84 M [(0, .ref (B + 26)), (1, .ref (B + q1)), (3, .int x3), (5, .int x5), (6, .int x6)] []) (hf : f_X5_linksLeastFor_L114 M q1 x3 x5 x6 y0 k84 = some r) : At p l e rm_X5_linksLeastFor s m args below meth c 8 0 0 (QQ below args s B D Y r.2 o (some (.int r.1))) B D Y o 114 M [(0, .ref (B + 26)), (1, .ref (B + q1)), (3, .int x3), (5, .int x5), (6, .int x6)] [.int y0] := by
  dsimp only [f_X5_linksLeastFor_L114] at hf
  refine A_istore C (pc := 114) [(0, .ref (B + 26)), (1, .ref (B + q1)), (3, .int x3), (5, .int x5), (6, .int x6), (7, .int y0)] (by decide) [1, 2, 3, 4, 5, 0] rfl dX5_linksLeastFor_114 ?_
  refine A_aload_n C (pc := 116) 0 rfl dX5_linksLeastFor_116 ?_
  refine A_g5_0 C (pc := 117) kf_X5_12 dX5_linksLeastFor_117 ?_
  refine A_g3_1 C (pc := 120) ((show kd 27 = 2 from rfl)) kf_X5_92 dX5_linksLeastFor_120 ?_
  refine A_iload C (pc := 123) 4 rfl dX5_linksLeastFor_123 ?_
  obtain ⟨c125, hf⟩ := chk_i hf
  refine A_iald C (pc := 125) (iO1 (show kd 27 = 2 from rfl)) c125 dX5_linksLeastFor_125 ?_
  refine A_iload C (pc := 126) 5 rfl dX5_linksLeastFor_126 ?_
  refine A_if_eq C (pc := 128) 144 (by decide) dX5_linksLeastFor_128 hf (fun _ hf => ?_) (fun _ hf => ?_)
  · refine A_aload_n C (pc := 144) 1 rfl dX5_linksLeastFor_144 ?_
    refine A_g3_1 C (pc := 145) hq1 kf_X5_92 dX5_linksLeastFor_145 ?_
    refine A_iload C (pc := 148) 4 rfl dX5_linksLeastFor_148 ?_
    obtain ⟨c150, hf⟩ := chk_i hf
    refine A_iald C (pc := 150) (iO1 hq1) c150 dX5_linksLeastFor_150 ?_
    refine A_icmp_eq C (pc := 151) 156 (by decide) dX5_linksLeastFor_151 hf (fun _ hf => ?_) (fun _ hf => ?_)
    · refine A_iinc C (pc := 156) (k0 := 4) [(0, .ref (B + 26)), (1, .ref (B + q1)), (3, .int x3), (5, .int x5), (6, .int (x6 + 1))] rfl ic_1 (by decide) [1, 2, 3, 4, 0] rfl dX5_linksLeastFor_156 ?_
      refine A_goto C (pc := 159) 84 (by decide) dX5_linksLeastFor_159 ?_
      exact hk84 _ hf
    · refine A_iconst C (pc := 154) ic_0 dX5_linksLeastFor_154 ?_
      exact R_iM C (pc := 155) hr hk nz_0 dX5_linksLeastFor_155 hf
  · refine A_aload_n C (pc := 131) 1 rfl dX5_linksLeastFor_131 ?_
    refine A_g3_1 C (pc := 132) hq1 kf_X5_92 dX5_linksLeastFor_132 ?_
    refine A_iload C (pc := 135) 4 rfl dX5_linksLeastFor_135 ?_
    obtain ⟨c137, hf⟩ := chk_i hf
    refine A_iald C (pc := 137) (iO1 hq1) c137 dX5_linksLeastFor_137 ?_
    refine A_iload C (pc := 138) 3 rfl dX5_linksLeastFor_138 ?_
    refine A_ior C (pc := 140) dX5_linksLeastFor_140 ?_
    refine A_goto C (pc := 141) 151 (by decide) dX5_linksLeastFor_141 ?_
    refine A_icmp_eq C (pc := 151) 156 (by decide) dX5_linksLeastFor_151 hf (fun _ hf => ?_) (fun _ hf => ?_)
    · refine A_iinc C (pc := 156) (k0 := 4) [(0, .ref (B + 26)), (1, .ref (B + q1)), (3, .int x3), (5, .int x5), (6, .int (x6 + 1))] rfl ic_1 (by decide) [1, 2, 3, 4, 0] rfl dX5_linksLeastFor_156 ?_
      refine A_goto C (pc := 159) 84 (by decide) dX5_linksLeastFor_159 ?_
      exact hk84 _ hf
    · refine A_iconst C (pc := 154) ic_0 dX5_linksLeastFor_154 ?_
      exact R_iM C (pc := 155) hr hk nz_0 dX5_linksLeastFor_155 hf
set_option maxRecDepth 100000 in
theorem w_X5_linksLeastFor_L109 {M : Mem} {q1 : Nat} {x3 : Int32} {x5 : Int32} {x6 : Int32} {r : Int32 × Mem} (C : Cx p s m args c cX5_linksLeastFor 8 RX5 B D Y) (hr : meth.sig.returnType = (some .boolean)) (hk : meth.locks = false) (hq1 : kd q1 = 2) {k84 : Int32 → Option (Int32 × Mem)} (hk84 : ∀ (x6 : Int32), k84 x6 = some r → At p l e rm_X5_linksLeastFor s m args below meth c 8 0 0 (QQ below args s B D Y r.2 o (some (.int r.1))) B D Y o 84 M [(0, .ref (B + 26)), (1, .ref (B + q1)), (3, .int x3), (5, .int x5), (6, .int x6)] []) (hf : f_X5_linksLeastFor_L109 M q1 x3 x5 x6 k84 = some r) : At p l e rm_X5_linksLeastFor s m args below meth c 8 0 0 (QQ below args s B D Y r.2 o (some (.int r.1))) B D Y o 109 M [(0, .ref (B + 26)), (1, .ref (B + q1)), (3, .int x3), (5, .int x5), (6, .int x6)] [] := by
  dsimp only [f_X5_linksLeastFor_L109] at hf
  refine A_iconst C (pc := 109) ic_1 dX5_linksLeastFor_109 ?_
  refine A_goto C (pc := 110) 114 (by decide) dX5_linksLeastFor_110 ?_
  exact w_X5_linksLeastFor_L114 C hr hk hq1 hk84 hf
set_option maxRecDepth 100000 in
theorem w_X5_linksLeastFor_L84 {M : Mem} {q1 : Nat} {x3 : Int32} {x5 : Int32} {r : Int32 × Mem} (C : Cx p s m args c cX5_linksLeastFor 8 RX5 B D Y) (hr : meth.sig.returnType = (some .boolean)) (hk : meth.locks = false) (hq1 : kd q1 = 2) : ∀ (n : Nat) (x6 : Int32), f_X5_linksLeastFor_L84 M q1 x3 x5 n x6 = some r → At p l e rm_X5_linksLeastFor s m args below meth c 8 0 0 (QQ below args s B D Y r.2 o (some (.int r.1))) B D Y o 84 M [(0, .ref (B + 26)), (1, .ref (B + q1)), (3, .int x3), (5, .int x5), (6, .int x6)] [] := by
  intro n
  induction n with
  | zero => intro x6 hf; exact nomatch (show (none : Option (Int32 × Mem)) = some r from hf)
  | succ n hk84 =>
    intro x6 hf
    replace hf : g_X5_linksLeastFor_L84 M q1 x3 x5 (f_X5_linksLeastFor_L84 M q1 x3 x5 n) x6 = some r := hf
    dsimp only [g_X5_linksLeastFor_L84] at hf
    refine A_iload C (pc := 84) 4 rfl dX5_linksLeastFor_84 ?_
    refine A_aload_n C (pc := 86) 1 rfl dX5_linksLeastFor_86 ?_
    refine A_g3_0 C (pc := 87) hq1 kf_X5_84 dX5_linksLeastFor_87 ?_
    refine A_icmp_ge C (pc := 90) 162 (by decide) dX5_linksLeastFor_90 hf (fun _ hf => ?_) (fun _ hf => ?_)
    · refine A_aload_n C (pc := 162) 0 rfl dX5_linksLeastFor_162 ?_
      refine A_g5_0 C (pc := 163) kf_X5_12 dX5_linksLeastFor_163 ?_
      obtain ⟨z166, h166, hf⟩ := bd_i hf
      refine A_callS1 C (pc := 166) (A := [.ref (B + 27)]) (rest := []) k_X5_49 ky_X5_isOrdered ks_X5_isOrdered (m_X5_isOrdered l B D Y o ((show kd 27 = 2 from rfl)) h166) rfl rfl (Nat.le_of_ble_eq_true rfl) ⟨rfl, rfl, Nat.le_of_ble_eq_true rfl, Nat.le_of_ble_eq_true rfl⟩ ⟨Nat.zero_le _, Nat.zero_le _⟩ dX5_linksLeastFor_166 ?_
      obtain ⟨c169, hf⟩ := chk_i hf
      exact R_iM C (pc := 169) hr hk (isb_nz c169) dX5_linksLeastFor_169 hf
    · refine A_iload C (pc := 93) 4 rfl dX5_linksLeastFor_93 ?_
      refine A_iload_n C (pc := 95) 2 rfl dX5_linksLeastFor_95 ?_
      refine A_icmp_eq C (pc := 96) 109 (by decide) dX5_linksLeastFor_96 hf (fun _ hf => ?_) (fun _ hf => ?_)
      · exact w_X5_linksLeastFor_L109 C hr hk hq1 hk84 hf
      · refine A_aload_n C (pc := 99) 1 rfl dX5_linksLeastFor_99 ?_
        refine A_iload_n C (pc := 100) 2 rfl dX5_linksLeastFor_100 ?_
        refine A_iload C (pc := 101) 4 rfl dX5_linksLeastFor_101 ?_
        obtain ⟨z103, h103, hf⟩ := bd_i hf
        refine A_callV1 C (pc := 103) (A := [.int x3, .int x6]) (rest := []) k_X5_88 ky_X3_isBelow kv_X3_isBelow (m_X3_isBelow l B D Y o hq1 h103) (kO hq1).1 (ent2 hq1) rfl rfl rfl (Nat.le_of_ble_eq_true rfl) ⟨rfl, rfl, Nat.le_of_ble_eq_true rfl, Nat.le_of_ble_eq_true rfl⟩ ⟨Nat.zero_le _, Nat.zero_le _⟩ dX5_linksLeastFor_103 ?_
        refine A_if_eq C (pc := 106) 113 (by decide) dX5_linksLeastFor_106 hf (fun _ hf => ?_) (fun _ hf => ?_)
        · refine A_iconst C (pc := 113) ic_0 dX5_linksLeastFor_113 ?_
          exact w_X5_linksLeastFor_L114 C hr hk hq1 hk84 hf
        · exact w_X5_linksLeastFor_L109 C hr hk hq1 hk84 hf
set_option maxRecDepth 100000 in
theorem w_X5_linksLeastFor_L50 {M : Mem} {q1 : Nat} {x2 : Int32} {x3 : Int32} {x4 : Int32} {y0 : Int32} {y1 : Int32} {r : Int32 × Mem} (C : Cx p s m args c cX5_linksLeastFor 8 RX5 B D Y) (hr : meth.sig.returnType = (some .boolean)) (hk : meth.locks = false) (hq1 : kd q1 = 2) (hf : f_X5_linksLeastFor_L50 M q1 x2 x3 x4 y0 y1 = some r) : At p l e rm_X5_linksLeastFor s m args below meth c 8 0 0 (QQ below args s B D Y r.2 o (some (.int r.1))) B D Y o 50 M [(0, .ref (B + 26)), (1, .ref (B + q1)), (2, .int x2), (3, .int x3), (4, .int x4)] [.int y0, .int y1] := by
  dsimp only [f_X5_linksLeastFor_L50] at hf
  refine A_icmp_eq C (pc := 50) 55 (by decide) dX5_linksLeastFor_50 hf (fun _ hf => ?_) (fun _ hf => ?_)
  · refine A_iload C (pc := 55) 4 rfl dX5_linksLeastFor_55 ?_
    refine A_if_eq C (pc := 57) 69 (by decide) dX5_linksLeastFor_57 hf (fun _ hf => ?_) (fun _ hf => ?_)
    · refine A_aload_n C (pc := 69) 1 rfl dX5_linksLeastFor_69 ?_
      refine A_g3_1 C (pc := 70) hq1 kf_X5_92 dX5_linksLeastFor_70 ?_
      refine A_iload_n C (pc := 73) 2 rfl dX5_linksLeastFor_73 ?_
      obtain ⟨c74, hf⟩ := chk_i hf
      refine A_iald C (pc := 74) (iO1 hq1) c74 dX5_linksLeastFor_74 ?_
      refine A_iconst C (pc := 75) ic_1 dX5_linksLeastFor_75 ?_
      refine A_iload_n C (pc := 76) 2 rfl dX5_linksLeastFor_76 ?_
      refine A_ishl C (pc := 77) dX5_linksLeastFor_77 ?_
      refine A_ior C (pc := 78) dX5_linksLeastFor_78 ?_
      obtain ⟨v79, e79, hf⟩ := bd_i hf
      refine A_nmI e79 ?_
      refine A_istore C (pc := 79) [(0, .ref (B + 26)), (1, .ref (B + q1)), (3, .int x3), (5, .int v79)] (by decide) [1, 2, 4, 0] rfl dX5_linksLeastFor_79 ?_
      refine A_iconst C (pc := 81) ic_0 dX5_linksLeastFor_81 ?_
      refine A_istore C (pc := 82) [(0, .ref (B + 26)), (1, .ref (B + q1)), (3, .int x3), (5, .int v79), (6, .int 0)] (by decide) [1, 2, 3, 4, 0] rfl dX5_linksLeastFor_82 ?_
      exact w_X5_linksLeastFor_L84 C hr hk hq1 FU _  hf
    · refine A_aload_n C (pc := 60) 0 rfl dX5_linksLeastFor_60 ?_
      refine A_g5_0 C (pc := 61) kf_X5_12 dX5_linksLeastFor_61 ?_
      refine A_aload_n C (pc := 64) 1 rfl dX5_linksLeastFor_64 ?_
      obtain ⟨z65, h65, hf⟩ := bd_i hf
      refine A_callV1 C (pc := 65) (A := [.ref (B + q1)]) (rest := []) k_X5_114 ky_X3_hasPairsOf kv_X3_hasPairsOf (m_X3_hasPairsOf l B D Y o ((show kd 27 = 2 from rfl)) hq1 h65) (kO ((show kd 27 = 2 from rfl))).1 (ent2 ((show kd 27 = 2 from rfl))) rfl rfl rfl (Nat.le_of_ble_eq_true rfl) ⟨rfl, rfl, Nat.le_of_ble_eq_true rfl, Nat.le_of_ble_eq_true rfl⟩ ⟨Nat.zero_le _, Nat.zero_le _⟩ dX5_linksLeastFor_65 ?_
      obtain ⟨c68, hf⟩ := chk_i hf
      exact R_iM C (pc := 68) hr hk (isb_nz c68) dX5_linksLeastFor_68 hf
  · refine A_iconst C (pc := 53) ic_0 dX5_linksLeastFor_53 ?_
    exact R_iM C (pc := 54) hr hk nz_0 dX5_linksLeastFor_54 hf
set_option maxRecDepth 100000 in
theorem w_X5_linksLeastFor_L45 {M : Mem} {q1 : Nat} {x2 : Int32} {x3 : Int32} {x4 : Int32} {y0 : Int32} {r : Int32 × Mem} (C : Cx p s m args c cX5_linksLeastFor 8 RX5 B D Y) (hr : meth.sig.returnType = (some .boolean)) (hk : meth.locks = false) (hq1 : kd q1 = 2) (hf : f_X5_linksLeastFor_L45 M q1 x2 x3 x4 y0 = some r) : At p l e rm_X5_linksLeastFor s m args below meth c 8 0 0 (QQ below args s B D Y r.2 o (some (.int r.1))) B D Y o 45 M [(0, .ref (B + 26)), (1, .ref (B + q1)), (2, .int x2), (3, .int x3), (4, .int x4)] [.int y0] := by
  dsimp only [f_X5_linksLeastFor_L45] at hf
  refine A_iconst C (pc := 45) ic_1 dX5_linksLeastFor_45 ?_
  refine A_goto C (pc := 46) 50 (by decide) dX5_linksLeastFor_46 ?_
  exact w_X5_linksLeastFor_L50 C hr hk hq1 hf
set_option maxRecDepth 100000 in
theorem w_X5_linksLeastFor_L27 {M : Mem} {q1 : Nat} {x2 : Int32} {x3 : Int32} {y0 : Int32} {r : Int32 × Mem} (C : Cx p s m args c cX5_linksLeastFor 8 RX5 B D Y) (hr : meth.sig.returnType = (some .boolean)) (hk : meth.locks = false) (hq1 : kd q1 = 2) (hf : f_X5_linksLeastFor_L27 M q1 x2 x3 y0 = some r) : At p l e rm_X5_linksLeastFor s m args below meth c 8 0 0 (QQ below args s B D Y r.2 o (some (.int r.1))) B D Y o 27 M [(0, .ref (B + 26)), (1, .ref (B + q1)), (2, .int x2), (3, .int x3)] [.int y0] := by
  dsimp only [f_X5_linksLeastFor_L27] at hf
  refine A_istore C (pc := 27) [(0, .ref (B + 26)), (1, .ref (B + q1)), (2, .int x2), (3, .int x3), (4, .int y0)] (by decide) [1, 2, 3, 4, 0] rfl dX5_linksLeastFor_27 ?_
  refine A_iload C (pc := 29) 4 rfl dX5_linksLeastFor_29 ?_
  refine A_iload_n C (pc := 31) 2 rfl dX5_linksLeastFor_31 ?_
  refine A_iload_n C (pc := 32) 3 rfl dX5_linksLeastFor_32 ?_
  refine A_icmp_eq C (pc := 33) 45 (by decide) dX5_linksLeastFor_33 hf (fun _ hf => ?_) (fun _ hf => ?_)
  · exact w_X5_linksLeastFor_L45 C hr hk hq1 hf
  · refine A_aload_n C (pc := 36) 1 rfl dX5_linksLeastFor_36 ?_
    refine A_iload_n C (pc := 37) 3 rfl dX5_linksLeastFor_37 ?_
    refine A_iload_n C (pc := 38) 2 rfl dX5_linksLeastFor_38 ?_
    obtain ⟨z39, h39, hf⟩ := bd_i hf
    refine A_callV1 C (pc := 39) (A := [.int x3, .int x2]) (rest := [.int y0]) k_X5_88 ky_X3_isBelow kv_X3_isBelow (m_X3_isBelow l B D Y o hq1 h39) (kO hq1).1 (ent2 hq1) rfl rfl rfl (Nat.le_of_ble_eq_true rfl) ⟨rfl, rfl, Nat.le_of_ble_eq_true rfl, Nat.le_of_ble_eq_true rfl⟩ ⟨Nat.zero_le _, Nat.zero_le _⟩ dX5_linksLeastFor_39 ?_
    refine A_if_eq C (pc := 42) 49 (by decide) dX5_linksLeastFor_42 hf (fun _ hf => ?_) (fun _ hf => ?_)
    · refine A_iconst C (pc := 49) ic_0 dX5_linksLeastFor_49 ?_
      exact w_X5_linksLeastFor_L50 C hr hk hq1 hf
    · exact w_X5_linksLeastFor_L45 C hr hk hq1 hf
set_option maxRecDepth 100000 in
theorem m_X5_linksLeastFor (l : Launch) (B : Nat) (D : va_G) (Y : Nat → ClassId) (o : Ou) {M : Mem} {q1 : Nat} {x2 : Int32} {x3 : Int32} {r : Int32 × Mem} (hq1 : kd q1 = 2) (hf : f_X5_linksLeastFor M q1 x2 x3 = some r) : MW l yX5_linksLeastFor cX5_linksLeastFor 8 (some .boolean) rm_X5_linksLeastFor B D Y o [.ref (B + 26), .ref (B + q1), .int x2, .int x3] M r.2 (some (.int r.1)) := by
  refine ofAt (L0 := [(0, .ref (B + 26)), (1, .ref (B + q1)), (2, .int x2), (3, .int x3)]) (by decide +kernel) (Nat.le_of_ble_eq_true rfl) rfl (fun p e s m args below meth c C hr hk => ?_)
  dsimp only [f_X5_linksLeastFor] at hf
  refine A_aload_n C (pc := 0) 0 rfl dX5_linksLeastFor_0 ?_
  refine A_g5_0 C (pc := 1) kf_X5_12 dX5_linksLeastFor_1 ?_
  refine A_aload_n C (pc := 4) 1 rfl dX5_linksLeastFor_4 ?_
  obtain ⟨z5, h5, hf⟩ := bd_i hf
  refine A_callV0 C (pc := 5) (A := [.ref (B + q1)]) (rest := []) k_X5_106 ky_X3_become kv_X3_become (m_X3_become l B D Y o ((show kd 27 = 2 from rfl)) hq1 h5) (kO ((show kd 27 = 2 from rfl))).1 (ent2 ((show kd 27 = 2 from rfl))) rfl rfl rfl (Nat.le_of_ble_eq_true rfl) ⟨rfl, rfl, Nat.le_of_ble_eq_true rfl, Nat.le_of_ble_eq_true rfl⟩ ⟨Nat.zero_le _, Nat.zero_le _⟩ dX5_linksLeastFor_5 ?_
  refine A_aload_n C (pc := 8) 0 rfl dX5_linksLeastFor_8 ?_
  refine A_g5_0 C (pc := 9) kf_X5_12 dX5_linksLeastFor_9 ?_
  refine A_iload_n C (pc := 12) 2 rfl dX5_linksLeastFor_12 ?_
  refine A_iload_n C (pc := 13) 3 rfl dX5_linksLeastFor_13 ?_
  obtain ⟨z14, h14, hf⟩ := bd_i hf
  refine A_callV1 C (pc := 14) (A := [.int x2, .int x3]) (rest := []) k_X5_110 ky_X3_link kv_X3_link (m_X3_link l B D Y o ((show kd 27 = 2 from rfl)) h14) (kO ((show kd 27 = 2 from rfl))).1 (ent2 ((show kd 27 = 2 from rfl))) rfl rfl rfl (Nat.le_of_ble_eq_true rfl) ⟨rfl, rfl, Nat.le_of_ble_eq_true rfl, Nat.le_of_ble_eq_true rfl⟩ ⟨Nat.zero_le _, Nat.zero_le _⟩ dX5_linksLeastFor_14 ?_
  refine A_bipush C (pc := 17) bc_m9 dX5_linksLeastFor_17 ?_
  refine A_icmp_ne C (pc := 19) 26 (by decide) dX5_linksLeastFor_19 hf (fun _ hf => ?_) (fun _ hf => ?_)
  · refine A_iconst C (pc := 26) ic_0 dX5_linksLeastFor_26 ?_
    exact w_X5_linksLeastFor_L27 C hr hk hq1 hf
  · refine A_iconst C (pc := 22) ic_1 dX5_linksLeastFor_22 ?_
    refine A_goto C (pc := 23) 27 (by decide) dX5_linksLeastFor_23 ?_
    exact w_X5_linksLeastFor_L27 C hr hk hq1 hf
set_option maxRecDepth 100000 in
theorem w_X5_linksLeast_L12 {q1 : Nat} {x2 : Int32} {r : Int32 × Mem} (C : Cx p s m args c cX5_linksLeast 4 RX5 B D Y) (hr : meth.sig.returnType = (some .boolean)) (hk : meth.locks = false) (hq1 : kd q1 = 2) {k2 : (Int32 × Mem) → Option (Int32 × Mem)} (hk2 : ∀ (x2 : Int32) (M : Mem), k2 (x2, M) = some r → At p l e rm_X5_linksLeast s m args below meth c 4 0 0 (QQ below args s B D Y r.2 o (some (.int r.1))) B D Y o 2 M [(0, .ref (B + 26)), (1, .ref (B + q1)), (2, .int x2)] []) : ∀ (n : Nat) (x3 : Int32) (M : Mem), f_X5_linksLeast_L12 q1 x2 k2 n (x3, M) = some r → At p l e rm_X5_linksLeast s m args below meth c 4 0 0 (QQ below args s B D Y r.2 o (some (.int r.1))) B D Y o 12 M [(0, .ref (B + 26)), (1, .ref (B + q1)), (2, .int x2), (3, .int x3)] [] := by
  intro n
  induction n with
  | zero => intro x3 M hf; exact nomatch (show (none : Option (Int32 × Mem)) = some r from hf)
  | succ n hk12 =>
    intro x3 M hf
    replace hf : g_X5_linksLeast_L12 q1 x2 k2 (f_X5_linksLeast_L12 q1 x2 k2 n) (x3, M) = some r := hf
    dsimp only [g_X5_linksLeast_L12] at hf
    refine A_iload_n C (pc := 12) 3 rfl dX5_linksLeast_12 ?_
    refine A_aload_n C (pc := 13) 1 rfl dX5_linksLeast_13 ?_
    refine A_g3_0 C (pc := 14) hq1 kf_X5_84 dX5_linksLeast_14 ?_
    refine A_icmp_ge C (pc := 17) 38 (by decide) dX5_linksLeast_17 hf (fun _ hf => ?_) (fun _ hf => ?_)
    · refine A_iinc C (pc := 38) (k0 := 2) [(0, .ref (B + 26)), (1, .ref (B + q1)), (2, .int (x2 + 1))] rfl ic_1 (by decide) [1, 2, 0] rfl dX5_linksLeast_38 ?_
      refine A_goto C (pc := 41) 2 (by decide) dX5_linksLeast_41 ?_
      exact hk2 _ _ hf
    · refine A_aload_n C (pc := 20) 0 rfl dX5_linksLeast_20 ?_
      refine A_aload_n C (pc := 21) 1 rfl dX5_linksLeast_21 ?_
      refine A_iload_n C (pc := 22) 2 rfl dX5_linksLeast_22 ?_
      refine A_iload_n C (pc := 23) 3 rfl dX5_linksLeast_23 ?_
      obtain ⟨z24, h24, hf⟩ := bd_i hf
      refine A_callV1 C (pc := 24) (A := [.ref (B + q1), .int x2, .int x3]) (rest := []) k_X5_102 ky_X5_linksLeastFor kv_X5_linksLeastFor (m_X5_linksLeastFor l B D Y o hq1 h24) (by decide) rfl rfl rfl rfl (Nat.le_of_ble_eq_true rfl) ⟨rfl, rfl, Nat.le_of_ble_eq_true rfl, Nat.le_of_ble_eq_true rfl⟩ ⟨Nat.zero_le _, Nat.zero_le _⟩ dX5_linksLeast_24 ?_
      refine A_if_ne C (pc := 27) 32 (by decide) dX5_linksLeast_27 hf (fun _ hf => ?_) (fun _ hf => ?_)
      · refine A_iinc C (pc := 32) (k0 := 3) [(0, .ref (B + 26)), (1, .ref (B + q1)), (2, .int x2), (3, .int (x3 + 1))] rfl ic_1 (by decide) [1, 2, 3, 0] rfl dX5_linksLeast_32 ?_
        refine A_goto C (pc := 35) 12 (by decide) dX5_linksLeast_35 ?_
        exact hk12 _ _ hf
      · refine A_iconst C (pc := 30) ic_0 dX5_linksLeast_30 ?_
        exact R_iM C (pc := 31) hr hk nz_0 dX5_linksLeast_31 hf
set_option maxRecDepth 100000 in
theorem w_X5_linksLeast_L2 {q1 : Nat} {r : Int32 × Mem} (C : Cx p s m args c cX5_linksLeast 4 RX5 B D Y) (hr : meth.sig.returnType = (some .boolean)) (hk : meth.locks = false) (hq1 : kd q1 = 2) : ∀ (n : Nat) (x2 : Int32) (M : Mem), f_X5_linksLeast_L2 q1 n (x2, M) = some r → At p l e rm_X5_linksLeast s m args below meth c 4 0 0 (QQ below args s B D Y r.2 o (some (.int r.1))) B D Y o 2 M [(0, .ref (B + 26)), (1, .ref (B + q1)), (2, .int x2)] [] := by
  intro n
  induction n with
  | zero => intro x2 M hf; exact nomatch (show (none : Option (Int32 × Mem)) = some r from hf)
  | succ n hk2 =>
    intro x2 M hf
    replace hf : g_X5_linksLeast_L2 q1 (f_X5_linksLeast_L2 q1 n) (x2, M) = some r := hf
    dsimp only [g_X5_linksLeast_L2] at hf
    refine A_iload_n C (pc := 2) 2 rfl dX5_linksLeast_2 ?_
    refine A_aload_n C (pc := 3) 1 rfl dX5_linksLeast_3 ?_
    refine A_g3_0 C (pc := 4) hq1 kf_X5_84 dX5_linksLeast_4 ?_
    refine A_icmp_ge C (pc := 7) 44 (by decide) dX5_linksLeast_7 hf (fun _ hf => ?_) (fun _ hf => ?_)
    · refine A_iconst C (pc := 44) ic_1 dX5_linksLeast_44 ?_
      exact R_iM C (pc := 45) hr hk nz_1 dX5_linksLeast_45 hf
    · refine A_iconst C (pc := 10) ic_0 dX5_linksLeast_10 ?_
      refine A_istore_n C (pc := 11) [(0, .ref (B + 26)), (1, .ref (B + q1)), (2, .int x2), (3, .int 0)] rfl (by decide) [1, 2, 3, 0] rfl dX5_linksLeast_11 ?_
      exact w_X5_linksLeast_L12 C hr hk hq1 hk2 FU _ _  hf
set_option maxRecDepth 100000 in
theorem m_X5_linksLeast (l : Launch) (B : Nat) (D : va_G) (Y : Nat → ClassId) (o : Ou) {M : Mem} {q1 : Nat} {r : Int32 × Mem} (hq1 : kd q1 = 2) (hf : f_X5_linksLeast M q1 = some r) : MW l yX5_linksLeast cX5_linksLeast 4 (some .boolean) rm_X5_linksLeast B D Y o [.ref (B + 26), .ref (B + q1)] M r.2 (some (.int r.1)) := by
  refine ofAt (L0 := [(0, .ref (B + 26)), (1, .ref (B + q1))]) (by decide +kernel) (Nat.le_of_ble_eq_true rfl) rfl (fun p e s m args below meth c C hr hk => ?_)
  dsimp only [f_X5_linksLeast] at hf
  refine A_iconst C (pc := 0) ic_0 dX5_linksLeast_0 ?_
  refine A_istore_n C (pc := 1) [(0, .ref (B + 26)), (1, .ref (B + q1)), (2, .int 0)] rfl (by decide) [1, 2, 0] rfl dX5_linksLeast_1 ?_
  exact w_X5_linksLeast_L2 C hr hk hq1 FU _ _  hf
set_option maxRecDepth 100000 in
theorem w_X5_looseComesBack_L12 {q1 : Nat} {x2 : Int32} {r : Int32 × Mem} (C : Cx p s m args c cX5_looseComesBack 4 RX5 B D Y) (hr : meth.sig.returnType = (some .boolean)) (hk : meth.locks = false) (hq1 : kd q1 = 2) {k2 : (Int32 × Mem) → Option (Int32 × Mem)} (hk2 : ∀ (x2 : Int32) (M : Mem), k2 (x2, M) = some r → At p l e rm_X5_looseComesBack s m args below meth c 4 0 0 (QQ below args s B D Y r.2 o (some (.int r.1))) B D Y o 2 M [(0, .ref (B + 26)), (1, .ref (B + q1)), (2, .int x2)] []) : ∀ (n : Nat) (x3 : Int32) (M : Mem), f_X5_looseComesBack_L12 q1 x2 k2 n (x3, M) = some r → At p l e rm_X5_looseComesBack s m args below meth c 4 0 0 (QQ below args s B D Y r.2 o (some (.int r.1))) B D Y o 12 M [(0, .ref (B + 26)), (1, .ref (B + q1)), (2, .int x2), (3, .int x3)] [] := by
  intro n
  induction n with
  | zero => intro x3 M hf; exact nomatch (show (none : Option (Int32 × Mem)) = some r from hf)
  | succ n hk12 =>
    intro x3 M hf
    replace hf : g_X5_looseComesBack_L12 q1 x2 k2 (f_X5_looseComesBack_L12 q1 x2 k2 n) (x3, M) = some r := hf
    dsimp only [g_X5_looseComesBack_L12] at hf
    refine A_iload_n C (pc := 12) 3 rfl dX5_looseComesBack_12 ?_
    refine A_aload_n C (pc := 13) 1 rfl dX5_looseComesBack_13 ?_
    refine A_g3_0 C (pc := 14) hq1 kf_X5_84 dX5_looseComesBack_14 ?_
    refine A_icmp_ge C (pc := 17) 88 (by decide) dX5_looseComesBack_17 hf (fun _ hf => ?_) (fun _ hf => ?_)
    · refine A_iinc C (pc := 88) (k0 := 2) [(0, .ref (B + 26)), (1, .ref (B + q1)), (2, .int (x2 + 1))] rfl ic_1 (by decide) [1, 2, 0] rfl dX5_looseComesBack_88 ?_
      refine A_goto C (pc := 91) 2 (by decide) dX5_looseComesBack_91 ?_
      exact hk2 _ _ hf
    · refine A_aload_n C (pc := 20) 1 rfl dX5_looseComesBack_20 ?_
      refine A_iload_n C (pc := 21) 2 rfl dX5_looseComesBack_21 ?_
      refine A_iload_n C (pc := 22) 3 rfl dX5_looseComesBack_22 ?_
      obtain ⟨z23, h23, hf⟩ := bd_i hf
      refine A_callV1 C (pc := 23) (A := [.int x2, .int x3]) (rest := []) k_X5_117 ky_X3_isNextBelow kv_X3_isNextBelow (m_X3_isNextBelow l B D Y o hq1 h23) (kO hq1).1 (ent2 hq1) rfl rfl rfl (Nat.le_of_ble_eq_true rfl) ⟨rfl, rfl, Nat.le_of_ble_eq_true rfl, Nat.le_of_ble_eq_true rfl⟩ ⟨Nat.zero_le _, Nat.zero_le _⟩ dX5_looseComesBack_23 ?_
      refine A_if_eq C (pc := 26) 82 (by decide) dX5_looseComesBack_26 hf (fun _ hf => ?_) (fun _ hf => ?_)
      · refine A_iinc C (pc := 82) (k0 := 3) [(0, .ref (B + 26)), (1, .ref (B + q1)), (2, .int x2), (3, .int (x3 + 1))] rfl ic_1 (by decide) [1, 2, 3, 0] rfl dX5_looseComesBack_82 ?_
        refine A_goto C (pc := 85) 12 (by decide) dX5_looseComesBack_85 ?_
        exact hk12 _ _ hf
      · refine A_aload_n C (pc := 29) 0 rfl dX5_looseComesBack_29 ?_
        refine A_g5_0 C (pc := 30) kf_X5_12 dX5_looseComesBack_30 ?_
        refine A_aload_n C (pc := 33) 1 rfl dX5_looseComesBack_33 ?_
        obtain ⟨z34, h34, hf⟩ := bd_i hf
        refine A_callV0 C (pc := 34) (A := [.ref (B + q1)]) (rest := []) k_X5_106 ky_X3_become kv_X3_become (m_X3_become l B D Y o ((show kd 27 = 2 from rfl)) hq1 h34) (kO ((show kd 27 = 2 from rfl))).1 (ent2 ((show kd 27 = 2 from rfl))) rfl rfl rfl (Nat.le_of_ble_eq_true rfl) ⟨rfl, rfl, Nat.le_of_ble_eq_true rfl, Nat.le_of_ble_eq_true rfl⟩ ⟨Nat.zero_le _, Nat.zero_le _⟩ dX5_looseComesBack_34 ?_
        refine A_aload_n C (pc := 37) 0 rfl dX5_looseComesBack_37 ?_
        refine A_g5_0 C (pc := 38) kf_X5_12 dX5_looseComesBack_38 ?_
        refine A_iload_n C (pc := 41) 2 rfl dX5_looseComesBack_41 ?_
        refine A_iload_n C (pc := 42) 3 rfl dX5_looseComesBack_42 ?_
        obtain ⟨z43, h43, hf⟩ := bd_i hf
        refine A_callV0 C (pc := 43) (A := [.int x2, .int x3]) (rest := []) k_X5_120 ky_X3_cut kv_X3_cut (m_X3_cut l B D Y o ((show kd 27 = 2 from rfl)) h43) (kO ((show kd 27 = 2 from rfl))).1 (ent2 ((show kd 27 = 2 from rfl))) rfl rfl rfl (Nat.le_of_ble_eq_true rfl) ⟨rfl, rfl, Nat.le_of_ble_eq_true rfl, Nat.le_of_ble_eq_true rfl⟩ ⟨Nat.zero_le _, Nat.zero_le _⟩ dX5_looseComesBack_43 ?_
        refine A_aload_n C (pc := 46) 0 rfl dX5_looseComesBack_46 ?_
        refine A_g5_0 C (pc := 47) kf_X5_12 dX5_looseComesBack_47 ?_
        obtain ⟨z50, h50, hf⟩ := bd_i hf
        refine A_callS1 C (pc := 50) (A := [.ref (B + 27)]) (rest := []) k_X5_49 ky_X5_isOrdered ks_X5_isOrdered (m_X5_isOrdered l B D Y o ((show kd 27 = 2 from rfl)) h50) rfl rfl (Nat.le_of_ble_eq_true rfl) ⟨rfl, rfl, Nat.le_of_ble_eq_true rfl, Nat.le_of_ble_eq_true rfl⟩ ⟨Nat.zero_le _, Nat.zero_le _⟩ dX5_looseComesBack_50 ?_
        refine A_if_eq C (pc := 53) 80 (by decide) dX5_looseComesBack_53 hf (fun _ hf => ?_) (fun _ hf => ?_)
        · refine A_iconst C (pc := 80) ic_0 dX5_looseComesBack_80 ?_
          exact R_iM C (pc := 81) hr hk nz_0 dX5_looseComesBack_81 hf
        · refine A_aload_n C (pc := 56) 0 rfl dX5_looseComesBack_56 ?_
          refine A_g5_0 C (pc := 57) kf_X5_12 dX5_looseComesBack_57 ?_
          refine A_iload_n C (pc := 60) 2 rfl dX5_looseComesBack_60 ?_
          refine A_iload_n C (pc := 61) 3 rfl dX5_looseComesBack_61 ?_
          obtain ⟨z62, h62, hf⟩ := bd_i hf
          refine A_callV1 C (pc := 62) (A := [.int x2, .int x3]) (rest := []) k_X5_110 ky_X3_link kv_X3_link (m_X3_link l B D Y o ((show kd 27 = 2 from rfl)) h62) (kO ((show kd 27 = 2 from rfl))).1 (ent2 ((show kd 27 = 2 from rfl))) rfl rfl rfl (Nat.le_of_ble_eq_true rfl) ⟨rfl, rfl, Nat.le_of_ble_eq_true rfl, Nat.le_of_ble_eq_true rfl⟩ ⟨Nat.zero_le _, Nat.zero_le _⟩ dX5_looseComesBack_62 ?_
          refine A_iconst C (pc := 65) ic_1 dX5_looseComesBack_65 ?_
          refine A_icmp_ne C (pc := 66) 80 (by decide) dX5_looseComesBack_66 hf (fun _ hf => ?_) (fun _ hf => ?_)
          · refine A_iconst C (pc := 80) ic_0 dX5_looseComesBack_80 ?_
            exact R_iM C (pc := 81) hr hk nz_0 dX5_looseComesBack_81 hf
          · refine A_aload_n C (pc := 69) 0 rfl dX5_looseComesBack_69 ?_
            refine A_g5_0 C (pc := 70) kf_X5_12 dX5_looseComesBack_70 ?_
            refine A_aload_n C (pc := 73) 1 rfl dX5_looseComesBack_73 ?_
            obtain ⟨z74, h74, hf⟩ := bd_i hf
            refine A_callV1 C (pc := 74) (A := [.ref (B + q1)]) (rest := []) k_X5_114 ky_X3_hasPairsOf kv_X3_hasPairsOf (m_X3_hasPairsOf l B D Y o ((show kd 27 = 2 from rfl)) hq1 h74) (kO ((show kd 27 = 2 from rfl))).1 (ent2 ((show kd 27 = 2 from rfl))) rfl rfl rfl (Nat.le_of_ble_eq_true rfl) ⟨rfl, rfl, Nat.le_of_ble_eq_true rfl, Nat.le_of_ble_eq_true rfl⟩ ⟨Nat.zero_le _, Nat.zero_le _⟩ dX5_looseComesBack_74 ?_
            refine A_if_ne C (pc := 77) 82 (by decide) dX5_looseComesBack_77 hf (fun _ hf => ?_) (fun _ hf => ?_)
            · refine A_iinc C (pc := 82) (k0 := 3) [(0, .ref (B + 26)), (1, .ref (B + q1)), (2, .int x2), (3, .int (x3 + 1))] rfl ic_1 (by decide) [1, 2, 3, 0] rfl dX5_looseComesBack_82 ?_
              refine A_goto C (pc := 85) 12 (by decide) dX5_looseComesBack_85 ?_
              exact hk12 _ _ hf
            · refine A_iconst C (pc := 80) ic_0 dX5_looseComesBack_80 ?_
              exact R_iM C (pc := 81) hr hk nz_0 dX5_looseComesBack_81 hf
set_option maxRecDepth 100000 in
theorem w_X5_looseComesBack_L2 {q1 : Nat} {r : Int32 × Mem} (C : Cx p s m args c cX5_looseComesBack 4 RX5 B D Y) (hr : meth.sig.returnType = (some .boolean)) (hk : meth.locks = false) (hq1 : kd q1 = 2) : ∀ (n : Nat) (x2 : Int32) (M : Mem), f_X5_looseComesBack_L2 q1 n (x2, M) = some r → At p l e rm_X5_looseComesBack s m args below meth c 4 0 0 (QQ below args s B D Y r.2 o (some (.int r.1))) B D Y o 2 M [(0, .ref (B + 26)), (1, .ref (B + q1)), (2, .int x2)] [] := by
  intro n
  induction n with
  | zero => intro x2 M hf; exact nomatch (show (none : Option (Int32 × Mem)) = some r from hf)
  | succ n hk2 =>
    intro x2 M hf
    replace hf : g_X5_looseComesBack_L2 q1 (f_X5_looseComesBack_L2 q1 n) (x2, M) = some r := hf
    dsimp only [g_X5_looseComesBack_L2] at hf
    refine A_iload_n C (pc := 2) 2 rfl dX5_looseComesBack_2 ?_
    refine A_aload_n C (pc := 3) 1 rfl dX5_looseComesBack_3 ?_
    refine A_g3_0 C (pc := 4) hq1 kf_X5_84 dX5_looseComesBack_4 ?_
    refine A_icmp_ge C (pc := 7) 94 (by decide) dX5_looseComesBack_7 hf (fun _ hf => ?_) (fun _ hf => ?_)
    · refine A_iconst C (pc := 94) ic_1 dX5_looseComesBack_94 ?_
      exact R_iM C (pc := 95) hr hk nz_1 dX5_looseComesBack_95 hf
    · refine A_iconst C (pc := 10) ic_0 dX5_looseComesBack_10 ?_
      refine A_istore_n C (pc := 11) [(0, .ref (B + 26)), (1, .ref (B + q1)), (2, .int x2), (3, .int 0)] rfl (by decide) [1, 2, 3, 0] rfl dX5_looseComesBack_11 ?_
      exact w_X5_looseComesBack_L12 C hr hk hq1 hk2 FU _ _  hf
set_option maxRecDepth 100000 in
theorem m_X5_looseComesBack (l : Launch) (B : Nat) (D : va_G) (Y : Nat → ClassId) (o : Ou) {M : Mem} {q1 : Nat} {r : Int32 × Mem} (hq1 : kd q1 = 2) (hf : f_X5_looseComesBack M q1 = some r) : MW l yX5_looseComesBack cX5_looseComesBack 4 (some .boolean) rm_X5_looseComesBack B D Y o [.ref (B + 26), .ref (B + q1)] M r.2 (some (.int r.1)) := by
  refine ofAt (L0 := [(0, .ref (B + 26)), (1, .ref (B + q1))]) (by decide +kernel) (Nat.le_of_ble_eq_true rfl) rfl (fun p e s m args below meth c C hr hk => ?_)
  dsimp only [f_X5_looseComesBack] at hf
  refine A_iconst C (pc := 0) ic_0 dX5_looseComesBack_0 ?_
  refine A_istore_n C (pc := 1) [(0, .ref (B + 26)), (1, .ref (B + q1)), (2, .int 0)] rfl (by decide) [1, 2, 0] rfl dX5_looseComesBack_1 ?_
  exact w_X5_looseComesBack_L2 C hr hk hq1 FU _ _  hf
set_option maxRecDepth 100000 in
theorem w_X5_growsByGreatest_L25 {q1 : Nat} {x2 : Int32} {r : Int32 × Mem} (C : Cx p s m args c cX5_growsByGreatest 5 RX5 B D Y) (hr : meth.sig.returnType = (some .boolean)) (hk : meth.locks = false) (hq1 : kd q1 = 2) : ∀ (n : Nat) (x3 : Int32) (x4 : Int32) (M : Mem), f_X5_growsByGreatest_L25 q1 x2 n (x3, x4, M) = some r → At p l e rm_X5_growsByGreatest s m args below meth c 5 0 0 (QQ below args s B D Y r.2 o (some (.int r.1))) B D Y o 25 M [(0, .ref (B + 26)), (1, .ref (B + q1)), (2, .int x2), (3, .int x3), (4, .int x4)] [] := by
  intro n
  induction n with
  | zero => intro x3 x4 M hf; exact nomatch (show (none : Option (Int32 × Mem)) = some r from hf)
  | succ n hk25 =>
    intro x3 x4 M hf
    replace hf : g_X5_growsByGreatest_L25 q1 x2 (f_X5_growsByGreatest_L25 q1 x2 n) (x3, x4, M) = some r := hf
    dsimp only [g_X5_growsByGreatest_L25] at hf
    refine A_iload C (pc := 25) 4 rfl dX5_growsByGreatest_25 ?_
    refine A_aload_n C (pc := 27) 1 rfl dX5_growsByGreatest_27 ?_
    refine A_g3_0 C (pc := 28) hq1 kf_X5_84 dX5_growsByGreatest_28 ?_
    refine A_icmp_ge C (pc := 31) 89 (by decide) dX5_growsByGreatest_31 hf (fun _ hf => ?_) (fun _ hf => ?_)
    · refine A_iload_n C (pc := 89) 3 rfl dX5_growsByGreatest_89 ?_
      refine A_aload_n C (pc := 90) 0 rfl dX5_growsByGreatest_90 ?_
      refine A_g5_2 C (pc := 91) kf_X5_24 dX5_growsByGreatest_91 ?_
      refine A_aload_n C (pc := 94) 1 rfl dX5_growsByGreatest_94 ?_
      obtain ⟨z95, h95, hf⟩ := bd_i hf
      refine A_callV1 C (pc := 95) (A := [.ref (B + q1)]) (rest := [.int x3]) k_X5_138 ky_X4_count kv_X4_count (m_X4_count l B D Y o ((show kd 33 = 4 from rfl)) hq1 h95) (kR ((show kd 33 = 4 from rfl))).1 (ent4 ((show kd 33 = 4 from rfl))) rfl rfl rfl (Nat.le_of_ble_eq_true rfl) ⟨rfl, rfl, Nat.le_of_ble_eq_true rfl, Nat.le_of_ble_eq_true rfl⟩ ⟨Nat.zero_le _, Nat.zero_le _⟩ dX5_growsByGreatest_95 ?_
      refine A_icmp_ne C (pc := 98) 105 (by decide) dX5_growsByGreatest_98 hf (fun _ hf => ?_) (fun _ hf => ?_)
      · refine A_iconst C (pc := 105) ic_0 dX5_growsByGreatest_105 ?_
        exact R_iM C (pc := 106) hr hk nz_0 dX5_growsByGreatest_106 hf
      · refine A_iconst C (pc := 101) ic_1 dX5_growsByGreatest_101 ?_
        refine A_goto C (pc := 102) 106 (by decide) dX5_growsByGreatest_102 ?_
        exact R_iM C (pc := 106) hr hk nz_1 dX5_growsByGreatest_106 hf
    · refine A_iload_n C (pc := 34) 2 rfl dX5_growsByGreatest_34 ?_
      refine A_iload C (pc := 35) 4 rfl dX5_growsByGreatest_35 ?_
      obtain ⟨z37, h37, hf⟩ := bd_i hf
      refine A_callS1 C (pc := 37) (A := [.int x2, .int x4]) (rest := []) k_X5_131 ky_X6_has ks_X6_has (m_X6_has l B D Y o  h37) rfl rfl (Nat.le_of_ble_eq_true rfl) ⟨rfl, rfl, Nat.le_of_ble_eq_true rfl, Nat.le_of_ble_eq_true rfl⟩ ⟨Nat.zero_le _, Nat.zero_le _⟩ dX5_growsByGreatest_37 ?_
      refine A_if_eq C (pc := 40) 83 (by decide) dX5_growsByGreatest_40 hf (fun _ hf => ?_) (fun _ hf => ?_)
      · refine A_iinc C (pc := 83) (k0 := 4) [(0, .ref (B + 26)), (1, .ref (B + q1)), (2, .int x2), (3, .int x3), (4, .int (x4 + 1))] rfl ic_1 (by decide) [1, 2, 3, 4, 0] rfl dX5_growsByGreatest_83 ?_
        refine A_goto C (pc := 86) 25 (by decide) dX5_growsByGreatest_86 ?_
        exact hk25 _ _ _ hf
      · refine A_aload_n C (pc := 43) 0 rfl dX5_growsByGreatest_43 ?_
        refine A_g5_0 C (pc := 44) kf_X5_12 dX5_growsByGreatest_44 ?_
        refine A_aload_n C (pc := 47) 1 rfl dX5_growsByGreatest_47 ?_
        obtain ⟨z48, h48, hf⟩ := bd_i hf
        refine A_callV0 C (pc := 48) (A := [.ref (B + q1)]) (rest := []) k_X5_106 ky_X3_become kv_X3_become (m_X3_become l B D Y o ((show kd 27 = 2 from rfl)) hq1 h48) (kO ((show kd 27 = 2 from rfl))).1 (ent2 ((show kd 27 = 2 from rfl))) rfl rfl rfl (Nat.le_of_ble_eq_true rfl) ⟨rfl, rfl, Nat.le_of_ble_eq_true rfl, Nat.le_of_ble_eq_true rfl⟩ ⟨Nat.zero_le _, Nat.zero_le _⟩ dX5_growsByGreatest_48 ?_
        refine A_aload_n C (pc := 51) 0 rfl dX5_growsByGreatest_51 ?_
        refine A_g5_0 C (pc := 52) kf_X5_12 dX5_growsByGreatest_52 ?_
        refine A_aload_n C (pc := 55) 1 rfl dX5_growsByGreatest_55 ?_
        obtain ⟨z56, h56, hf⟩ := bd_i hf
        refine A_callV1 C (pc := 56) (A := []) (rest := [.ref (B + 27)]) k_X5_124 ky_X3_all kv_X3_all (m_X3_all l B D Y o hq1 h56) (kO hq1).1 (ent2 hq1) rfl rfl rfl (Nat.le_of_ble_eq_true rfl) ⟨rfl, rfl, Nat.le_of_ble_eq_true rfl, Nat.le_of_ble_eq_true rfl⟩ ⟨Nat.zero_le _, Nat.zero_le _⟩ dX5_growsByGreatest_56 ?_
        refine A_iconst C (pc := 59) ic_1 dX5_growsByGreatest_59 ?_
        refine A_iload C (pc := 60) 4 rfl dX5_growsByGreatest_60 ?_
        refine A_ishl C (pc := 62) dX5_growsByGreatest_62 ?_
        refine A_iconst C (pc := 63) ic_m1 dX5_growsByGreatest_63 ?_
        refine A_ixor C (pc := 64) dX5_growsByGreatest_64 ?_
        refine A_iand C (pc := 65) dX5_growsByGreatest_65 ?_
        obtain ⟨z66, h66, hf⟩ := bd_i hf
        refine A_callV0 C (pc := 66) (A := [.int (z56 &&& (((1 : Int32) <<< (x4 &&& 31)) ^^^ ((-1))))]) (rest := []) k_X5_134 ky_X3_retain kv_X3_retain (m_X3_retain l B D Y o ((show kd 27 = 2 from rfl)) h66) (kO ((show kd 27 = 2 from rfl))).1 (ent2 ((show kd 27 = 2 from rfl))) rfl rfl rfl (Nat.le_of_ble_eq_true rfl) ⟨rfl, rfl, Nat.le_of_ble_eq_true rfl, Nat.le_of_ble_eq_true rfl⟩ ⟨Nat.zero_le _, Nat.zero_le _⟩ dX5_growsByGreatest_66 ?_
        refine A_iload_n C (pc := 69) 3 rfl dX5_growsByGreatest_69 ?_
        refine A_aload_n C (pc := 70) 0 rfl dX5_growsByGreatest_70 ?_
        refine A_g5_3 C (pc := 71) kf_X5_28 dX5_growsByGreatest_71 ?_
        refine A_aload_n C (pc := 74) 0 rfl dX5_growsByGreatest_74 ?_
        refine A_g5_0 C (pc := 75) kf_X5_12 dX5_growsByGreatest_75 ?_
        obtain ⟨z78, h78, hf⟩ := bd_i hf
        refine A_callV1 C (pc := 78) (A := [.ref (B + 27)]) (rest := [.int x3]) k_X5_138 ky_X4_count kv_X4_count (m_X4_count l B D Y o ((show kd 37 = 4 from rfl)) ((show kd 27 = 2 from rfl)) h78) (kR ((show kd 37 = 4 from rfl))).1 (ent4 ((show kd 37 = 4 from rfl))) rfl rfl rfl (Nat.le_of_ble_eq_true rfl) ⟨rfl, rfl, Nat.le_of_ble_eq_true rfl, Nat.le_of_ble_eq_true rfl⟩ ⟨Nat.zero_le _, Nat.zero_le _⟩ dX5_growsByGreatest_78 ?_
        refine A_iadd C (pc := 81) dX5_growsByGreatest_81 ?_
        obtain ⟨v82, e82, hf⟩ := bd_i hf
        refine A_nmI e82 ?_
        refine A_istore_n C (pc := 82) [(0, .ref (B + 26)), (1, .ref (B + q1)), (2, .int x2), (3, .int v82), (4, .int x4)] rfl (by decide) [1, 2, 3, 0, 4] rfl dX5_growsByGreatest_82 ?_
        refine A_iinc C (pc := 83) (k0 := 4) [(0, .ref (B + 26)), (1, .ref (B + q1)), (2, .int x2), (3, .int v82), (4, .int (x4 + 1))] rfl ic_1 (by decide) [1, 2, 3, 4, 0] rfl dX5_growsByGreatest_83 ?_
        refine A_goto C (pc := 86) 25 (by decide) dX5_growsByGreatest_86 ?_
        exact hk25 _ _ _ hf
set_option maxRecDepth 100000 in
theorem m_X5_growsByGreatest (l : Launch) (B : Nat) (D : va_G) (Y : Nat → ClassId) (o : Ou) {M : Mem} {q1 : Nat} {r : Int32 × Mem} (hq1 : kd q1 = 2) (hf : f_X5_growsByGreatest M q1 = some r) : MW l yX5_growsByGreatest cX5_growsByGreatest 5 (some .boolean) rm_X5_growsByGreatest B D Y o [.ref (B + 26), .ref (B + q1)] M r.2 (some (.int r.1)) := by
  refine ofAt (L0 := [(0, .ref (B + 26)), (1, .ref (B + q1))]) (by decide +kernel) (Nat.le_of_ble_eq_true rfl) rfl (fun p e s m args below meth c C hr hk => ?_)
  dsimp only [f_X5_growsByGreatest] at hf
  refine A_aload_n C (pc := 0) 1 rfl dX5_growsByGreatest_0 ?_
  refine A_aload_n C (pc := 1) 1 rfl dX5_growsByGreatest_1 ?_
  obtain ⟨z2, h2, hf⟩ := bd_i hf
  refine A_callV1 C (pc := 2) (A := []) (rest := [.ref (B + q1)]) k_X5_124 ky_X3_all kv_X3_all (m_X3_all l B D Y o hq1 h2) (kO hq1).1 (ent2 hq1) rfl rfl rfl (Nat.le_of_ble_eq_true rfl) ⟨rfl, rfl, Nat.le_of_ble_eq_true rfl, Nat.le_of_ble_eq_true rfl⟩ ⟨Nat.zero_le _, Nat.zero_le _⟩ dX5_growsByGreatest_2 ?_
  obtain ⟨z5, h5, hf⟩ := bd_i hf
  refine A_callV1 C (pc := 5) (A := [.int z2]) (rest := []) k_X5_128 ky_X3_greatestOf kv_X3_greatestOf (m_X3_greatestOf l B D Y o hq1 h5) (kO hq1).1 (ent2 hq1) rfl rfl rfl (Nat.le_of_ble_eq_true rfl) ⟨rfl, rfl, Nat.le_of_ble_eq_true rfl, Nat.le_of_ble_eq_true rfl⟩ ⟨Nat.zero_le _, Nat.zero_le _⟩ dX5_growsByGreatest_5 ?_
  refine A_istore_n C (pc := 8) [(0, .ref (B + 26)), (1, .ref (B + q1)), (2, .int z5)] rfl (by decide) [1, 2, 0] rfl dX5_growsByGreatest_8 ?_
  refine A_aload_n C (pc := 9) 1 rfl dX5_growsByGreatest_9 ?_
  refine A_g3_0 C (pc := 10) hq1 kf_X5_84 dX5_growsByGreatest_10 ?_
  refine A_if_ne C (pc := 13) 20 (by decide) dX5_growsByGreatest_13 hf (fun _ hf => ?_) (fun _ hf => ?_)
  · refine A_iconst C (pc := 20) ic_0 dX5_growsByGreatest_20 ?_
    refine A_istore_n C (pc := 21) [(0, .ref (B + 26)), (1, .ref (B + q1)), (2, .int z5), (3, .int 0)] rfl (by decide) [1, 2, 3, 0] rfl dX5_growsByGreatest_21 ?_
    refine A_iconst C (pc := 22) ic_0 dX5_growsByGreatest_22 ?_
    refine A_istore C (pc := 23) [(0, .ref (B + 26)), (1, .ref (B + q1)), (2, .int z5), (3, .int 0), (4, .int 0)] (by decide) [1, 2, 3, 4, 0] rfl dX5_growsByGreatest_23 ?_
    exact w_X5_growsByGreatest_L25 C hr hk hq1 FU _ _ _  hf
  · refine A_iconst C (pc := 16) ic_1 dX5_growsByGreatest_16 ?_
    refine A_goto C (pc := 17) 21 (by decide) dX5_growsByGreatest_17 ?_
    refine A_istore_n C (pc := 21) [(0, .ref (B + 26)), (1, .ref (B + q1)), (2, .int z5), (3, .int 1)] rfl (by decide) [1, 2, 3, 0] rfl dX5_growsByGreatest_21 ?_
    refine A_iconst C (pc := 22) ic_0 dX5_growsByGreatest_22 ?_
    refine A_istore C (pc := 23) [(0, .ref (B + 26)), (1, .ref (B + q1)), (2, .int z5), (3, .int 1), (4, .int 0)] (by decide) [1, 2, 3, 4, 0] rfl dX5_growsByGreatest_23 ?_
    exact w_X5_growsByGreatest_L25 C hr hk hq1 FU _ _ _  hf
set_option maxRecDepth 100000 in
theorem m_X5_rowsTellPair (l : Launch) (B : Nat) (D : va_G) (Y : Nat → ClassId) (o : Ou) {M : Mem} {q1 : Nat} {x2 : Int32} {x3 : Int32} {x4 : Int32} {r : Int32 × Mem} (hq1 : kd q1 = 2) (hf : f_X5_rowsTellPair M q1 x2 x3 x4 = some r) : MW l yX5_rowsTellPair cX5_rowsTellPair 6 (some .boolean) rm_X5_rowsTellPair B D Y o [.ref (B + 26), .ref (B + q1), .int x2, .int x3, .int x4] M r.2 (some (.int r.1)) := by
  refine ofAt (L0 := [(0, .ref (B + 26)), (1, .ref (B + q1)), (2, .int x2), (3, .int x3), (4, .int x4)]) (by decide +kernel) (Nat.le_of_ble_eq_true rfl) rfl (fun p e s m args below meth c C hr hk => ?_)
  dsimp only [f_X5_rowsTellPair] at hf
  refine A_aload_n C (pc := 0) 0 rfl dX5_rowsTellPair_0 ?_
  refine A_g5_2 C (pc := 1) kf_X5_24 dX5_rowsTellPair_1 ?_
  refine A_aload_n C (pc := 4) 1 rfl dX5_rowsTellPair_4 ?_
  refine A_iload_n C (pc := 5) 2 rfl dX5_rowsTellPair_5 ?_
  refine A_iload_n C (pc := 6) 3 rfl dX5_rowsTellPair_6 ?_
  obtain ⟨z7, h7, hf⟩ := bd_i hf
  refine A_callV1 C (pc := 7) (A := [.ref (B + q1), .int x2, .int x3]) (rest := []) k_X5_148 ky_X4_countAhead kv_X4_countAhead (m_X4_countAhead l B D Y o ((show kd 33 = 4 from rfl)) hq1 h7) (kR ((show kd 33 = 4 from rfl))).1 (ent4 ((show kd 33 = 4 from rfl))) rfl rfl rfl (Nat.le_of_ble_eq_true rfl) ⟨rfl, rfl, Nat.le_of_ble_eq_true rfl, Nat.le_of_ble_eq_true rfl⟩ ⟨Nat.zero_le _, Nat.zero_le _⟩ dX5_rowsTellPair_7 ?_
  refine A_istore C (pc := 10) [(0, .ref (B + 26)), (1, .ref (B + q1)), (2, .int x2), (3, .int x3), (4, .int x4), (5, .int z7)] (by decide) [1, 2, 3, 4, 5, 0] rfl dX5_rowsTellPair_10 ?_
  refine A_aload_n C (pc := 12) 1 rfl dX5_rowsTellPair_12 ?_
  refine A_iload_n C (pc := 13) 3 rfl dX5_rowsTellPair_13 ?_
  refine A_iload_n C (pc := 14) 2 rfl dX5_rowsTellPair_14 ?_
  obtain ⟨z15, h15, hf⟩ := bd_i hf
  refine A_callV1 C (pc := 15) (A := [.int x3, .int x2]) (rest := []) k_X5_88 ky_X3_isBelow kv_X3_isBelow (m_X3_isBelow l B D Y o hq1 h15) (kO hq1).1 (ent2 hq1) rfl rfl rfl (Nat.le_of_ble_eq_true rfl) ⟨rfl, rfl, Nat.le_of_ble_eq_true rfl, Nat.le_of_ble_eq_true rfl⟩ ⟨Nat.zero_le _, Nat.zero_le _⟩ dX5_rowsTellPair_15 ?_
  refine A_if_eq C (pc := 18) 32 (by decide) dX5_rowsTellPair_18 hf (fun _ hf => ?_) (fun _ hf => ?_)
  · refine A_aload_n C (pc := 32) 1 rfl dX5_rowsTellPair_32 ?_
    refine A_iload_n C (pc := 33) 2 rfl dX5_rowsTellPair_33 ?_
    refine A_iload_n C (pc := 34) 3 rfl dX5_rowsTellPair_34 ?_
    obtain ⟨z35, h35, hf⟩ := bd_i hf
    refine A_callV1 C (pc := 35) (A := [.int x2, .int x3]) (rest := []) k_X5_88 ky_X3_isBelow kv_X3_isBelow (m_X3_isBelow l B D Y o hq1 h35) (kO hq1).1 (ent2 hq1) rfl rfl rfl (Nat.le_of_ble_eq_true rfl) ⟨rfl, rfl, Nat.le_of_ble_eq_true rfl, Nat.le_of_ble_eq_true rfl⟩ ⟨Nat.zero_le _, Nat.zero_le _⟩ dX5_rowsTellPair_35 ?_
    refine A_if_eq C (pc := 38) 54 (by decide) dX5_rowsTellPair_38 hf (fun _ hf => ?_) (fun _ hf => ?_)
    · refine A_aload_n C (pc := 54) 0 rfl dX5_rowsTellPair_54 ?_
      refine A_g5_0 C (pc := 55) kf_X5_12 dX5_rowsTellPair_55 ?_
      refine A_aload_n C (pc := 58) 1 rfl dX5_rowsTellPair_58 ?_
      obtain ⟨z59, h59, hf⟩ := bd_i hf
      refine A_callV0 C (pc := 59) (A := [.ref (B + q1)]) (rest := []) k_X5_106 ky_X3_become kv_X3_become (m_X3_become l B D Y o ((show kd 27 = 2 from rfl)) hq1 h59) (kO ((show kd 27 = 2 from rfl))).1 (ent2 ((show kd 27 = 2 from rfl))) rfl rfl rfl (Nat.le_of_ble_eq_true rfl) ⟨rfl, rfl, Nat.le_of_ble_eq_true rfl, Nat.le_of_ble_eq_true rfl⟩ ⟨Nat.zero_le _, Nat.zero_le _⟩ dX5_rowsTellPair_59 ?_
      refine A_aload_n C (pc := 62) 0 rfl dX5_rowsTellPair_62 ?_
      refine A_g5_0 C (pc := 63) kf_X5_12 dX5_rowsTellPair_63 ?_
      refine A_iload_n C (pc := 66) 2 rfl dX5_rowsTellPair_66 ?_
      refine A_iload_n C (pc := 67) 3 rfl dX5_rowsTellPair_67 ?_
      obtain ⟨z68, h68, hf⟩ := bd_i hf
      refine A_callV1 C (pc := 68) (A := [.int x2, .int x3]) (rest := []) k_X5_110 ky_X3_link kv_X3_link (m_X3_link l B D Y o ((show kd 27 = 2 from rfl)) h68) (kO ((show kd 27 = 2 from rfl))).1 (ent2 ((show kd 27 = 2 from rfl))) rfl rfl rfl (Nat.le_of_ble_eq_true rfl) ⟨rfl, rfl, Nat.le_of_ble_eq_true rfl, Nat.le_of_ble_eq_true rfl⟩ ⟨Nat.zero_le _, Nat.zero_le _⟩ dX5_rowsTellPair_68 ?_
      refine A_pop C (pc := 71) rfl dX5_rowsTellPair_71 ?_
      refine A_iload C (pc := 72) 5 rfl dX5_rowsTellPair_72 ?_
      refine A_if_le C (pc := 74) 104 (by decide) dX5_rowsTellPair_74 hf (fun _ hf => ?_) (fun _ hf => ?_)
      · refine A_iconst C (pc := 104) ic_0 dX5_rowsTellPair_104 ?_
        exact R_iM C (pc := 105) hr hk nz_0 dX5_rowsTellPair_105 hf
      · refine A_iload C (pc := 77) 5 rfl dX5_rowsTellPair_77 ?_
        refine A_iload C (pc := 79) 4 rfl dX5_rowsTellPair_79 ?_
        refine A_icmp_ge C (pc := 81) 104 (by decide) dX5_rowsTellPair_81 hf (fun _ hf => ?_) (fun _ hf => ?_)
        · refine A_iconst C (pc := 104) ic_0 dX5_rowsTellPair_104 ?_
          exact R_iM C (pc := 105) hr hk nz_0 dX5_rowsTellPair_105 hf
        · refine A_aload_n C (pc := 84) 0 rfl dX5_rowsTellPair_84 ?_
          refine A_g5_3 C (pc := 85) kf_X5_28 dX5_rowsTellPair_85 ?_
          refine A_aload_n C (pc := 88) 0 rfl dX5_rowsTellPair_88 ?_
          refine A_g5_0 C (pc := 89) kf_X5_12 dX5_rowsTellPair_89 ?_
          obtain ⟨z92, h92, hf⟩ := bd_i hf
          refine A_callV1 C (pc := 92) (A := [.ref (B + 27)]) (rest := []) k_X5_138 ky_X4_count kv_X4_count (m_X4_count l B D Y o ((show kd 37 = 4 from rfl)) ((show kd 27 = 2 from rfl)) h92) (kR ((show kd 37 = 4 from rfl))).1 (ent4 ((show kd 37 = 4 from rfl))) rfl rfl rfl (Nat.le_of_ble_eq_true rfl) ⟨rfl, rfl, Nat.le_of_ble_eq_true rfl, Nat.le_of_ble_eq_true rfl⟩ ⟨Nat.zero_le _, Nat.zero_le _⟩ dX5_rowsTellPair_92 ?_
          refine A_iload C (pc := 95) 5 rfl dX5_rowsTellPair_95 ?_
          refine A_icmp_ne C (pc := 97) 104 (by decide) dX5_rowsTellPair_97 hf (fun _ hf => ?_) (fun _ hf => ?_)
          · refine A_iconst C (pc := 104) ic_0 dX5_rowsTellPair_104 ?_
            exact R_iM C (pc := 105) hr hk nz_0 dX5_rowsTellPair_105 hf
          · refine A_iconst C (pc := 100) ic_1 dX5_rowsTellPair_100 ?_
            refine A_goto C (pc := 101) 105 (by decide) dX5_rowsTellPair_101 ?_
            exact R_iM C (pc := 105) hr hk nz_1 dX5_rowsTellPair_105 hf
    · refine A_iload C (pc := 41) 5 rfl dX5_rowsTellPair_41 ?_
      refine A_iload C (pc := 43) 4 rfl dX5_rowsTellPair_43 ?_
      refine A_icmp_ne C (pc := 45) 52 (by decide) dX5_rowsTellPair_45 hf (fun _ hf => ?_) (fun _ hf => ?_)
      · refine A_iconst C (pc := 52) ic_0 dX5_rowsTellPair_52 ?_
        exact R_iM C (pc := 53) hr hk nz_0 dX5_rowsTellPair_53 hf
      · refine A_iconst C (pc := 48) ic_1 dX5_rowsTellPair_48 ?_
        refine A_goto C (pc := 49) 53 (by decide) dX5_rowsTellPair_49 ?_
        exact R_iM C (pc := 53) hr hk nz_1 dX5_rowsTellPair_53 hf
  · refine A_iload C (pc := 21) 5 rfl dX5_rowsTellPair_21 ?_
    refine A_if_ne C (pc := 23) 30 (by decide) dX5_rowsTellPair_23 hf (fun _ hf => ?_) (fun _ hf => ?_)
    · refine A_iconst C (pc := 30) ic_0 dX5_rowsTellPair_30 ?_
      exact R_iM C (pc := 31) hr hk nz_0 dX5_rowsTellPair_31 hf
    · refine A_iconst C (pc := 26) ic_1 dX5_rowsTellPair_26 ?_
      refine A_goto C (pc := 27) 31 (by decide) dX5_rowsTellPair_27 ?_
      exact R_iM C (pc := 31) hr hk nz_1 dX5_rowsTellPair_31 hf
set_option maxRecDepth 100000 in
theorem w_X5_rowsTellPairs_L22 {q1 : Nat} {x2 : Int32} {x3 : Int32} {r : Int32 × Mem} (C : Cx p s m args c cX5_rowsTellPairs 5 RX5 B D Y) (hr : meth.sig.returnType = (some .boolean)) (hk : meth.locks = false) (hq1 : kd q1 = 2) {k11 : (Int32 × Mem) → Option (Int32 × Mem)} (hk11 : ∀ (x3 : Int32) (M : Mem), k11 (x3, M) = some r → At p l e rm_X5_rowsTellPairs s m args below meth c 5 0 0 (QQ below args s B D Y r.2 o (some (.int r.1))) B D Y o 11 M [(0, .ref (B + 26)), (1, .ref (B + q1)), (2, .int x2), (3, .int x3)] []) : ∀ (n : Nat) (x4 : Int32) (M : Mem), f_X5_rowsTellPairs_L22 q1 x2 x3 k11 n (x4, M) = some r → At p l e rm_X5_rowsTellPairs s m args below meth c 5 0 0 (QQ below args s B D Y r.2 o (some (.int r.1))) B D Y o 22 M [(0, .ref (B + 26)), (1, .ref (B + q1)), (2, .int x2), (3, .int x3), (4, .int x4)] [] := by
  intro n
  induction n with
  | zero => intro x4 M hf; exact nomatch (show (none : Option (Int32 × Mem)) = some r from hf)
  | succ n hk22 =>
    intro x4 M hf
    replace hf : g_X5_rowsTellPairs_L22 q1 x2 x3 k11 (f_X5_rowsTellPairs_L22 q1 x2 x3 k11 n) (x4, M) = some r := hf
    dsimp only [g_X5_rowsTellPairs_L22] at hf
    refine A_iload C (pc := 22) 4 rfl dX5_rowsTellPairs_22 ?_
    refine A_aload_n C (pc := 24) 1 rfl dX5_rowsTellPairs_24 ?_
    refine A_g3_0 C (pc := 25) hq1 kf_X5_84 dX5_rowsTellPairs_25 ?_
    refine A_icmp_ge C (pc := 28) 57 (by decide) dX5_rowsTellPairs_28 hf (fun _ hf => ?_) (fun _ hf => ?_)
    · refine A_iinc C (pc := 57) (k0 := 3) [(0, .ref (B + 26)), (1, .ref (B + q1)), (2, .int x2), (3, .int (x3 + 1))] rfl ic_1 (by decide) [1, 2, 3, 0] rfl dX5_rowsTellPairs_57 ?_
      refine A_goto C (pc := 60) 11 (by decide) dX5_rowsTellPairs_60 ?_
      exact hk11 _ _ hf
    · refine A_iload_n C (pc := 31) 3 rfl dX5_rowsTellPairs_31 ?_
      refine A_iload C (pc := 32) 4 rfl dX5_rowsTellPairs_32 ?_
      refine A_icmp_eq C (pc := 34) 51 (by decide) dX5_rowsTellPairs_34 hf (fun _ hf => ?_) (fun _ hf => ?_)
      · refine A_iinc C (pc := 51) (k0 := 4) [(0, .ref (B + 26)), (1, .ref (B + q1)), (2, .int x2), (3, .int x3), (4, .int (x4 + 1))] rfl ic_1 (by decide) [1, 2, 3, 4, 0] rfl dX5_rowsTellPairs_51 ?_
        refine A_goto C (pc := 54) 22 (by decide) dX5_rowsTellPairs_54 ?_
        exact hk22 _ _ hf
      · refine A_aload_n C (pc := 37) 0 rfl dX5_rowsTellPairs_37 ?_
        refine A_aload_n C (pc := 38) 1 rfl dX5_rowsTellPairs_38 ?_
        refine A_iload_n C (pc := 39) 3 rfl dX5_rowsTellPairs_39 ?_
        refine A_iload C (pc := 40) 4 rfl dX5_rowsTellPairs_40 ?_
        refine A_iload_n C (pc := 42) 2 rfl dX5_rowsTellPairs_42 ?_
        obtain ⟨z43, h43, hf⟩ := bd_i hf
        refine A_callV1 C (pc := 43) (A := [.ref (B + q1), .int x3, .int x4, .int x2]) (rest := []) k_X5_144 ky_X5_rowsTellPair kv_X5_rowsTellPair (m_X5_rowsTellPair l B D Y o hq1 h43) (by decide) rfl rfl rfl rfl (Nat.le_of_ble_eq_true rfl) ⟨rfl, rfl, Nat.le_of_ble_eq_true rfl, Nat.le_of_ble_eq_true rfl⟩ ⟨Nat.zero_le _, Nat.zero_le _⟩ dX5_rowsTellPairs_43 ?_
        refine A_if_ne C (pc := 46) 51 (by decide) dX5_rowsTellPairs_46 hf (fun _ hf => ?_) (fun _ hf => ?_)
        · refine A_iinc C (pc := 51) (k0 := 4) [(0, .ref (B + 26)), (1, .ref (B + q1)), (2, .int x2), (3, .int x3), (4, .int (x4 + 1))] rfl ic_1 (by decide) [1, 2, 3, 4, 0] rfl dX5_rowsTellPairs_51 ?_
          refine A_goto C (pc := 54) 22 (by decide) dX5_rowsTellPairs_54 ?_
          exact hk22 _ _ hf
        · refine A_iconst C (pc := 49) ic_0 dX5_rowsTellPairs_49 ?_
          exact R_iM C (pc := 50) hr hk nz_0 dX5_rowsTellPairs_50 hf
set_option maxRecDepth 100000 in
theorem w_X5_rowsTellPairs_L11 {q1 : Nat} {x2 : Int32} {r : Int32 × Mem} (C : Cx p s m args c cX5_rowsTellPairs 5 RX5 B D Y) (hr : meth.sig.returnType = (some .boolean)) (hk : meth.locks = false) (hq1 : kd q1 = 2) : ∀ (n : Nat) (x3 : Int32) (M : Mem), f_X5_rowsTellPairs_L11 q1 x2 n (x3, M) = some r → At p l e rm_X5_rowsTellPairs s m args below meth c 5 0 0 (QQ below args s B D Y r.2 o (some (.int r.1))) B D Y o 11 M [(0, .ref (B + 26)), (1, .ref (B + q1)), (2, .int x2), (3, .int x3)] [] := by
  intro n
  induction n with
  | zero => intro x3 M hf; exact nomatch (show (none : Option (Int32 × Mem)) = some r from hf)
  | succ n hk11 =>
    intro x3 M hf
    replace hf : g_X5_rowsTellPairs_L11 q1 x2 (f_X5_rowsTellPairs_L11 q1 x2 n) (x3, M) = some r := hf
    dsimp only [g_X5_rowsTellPairs_L11] at hf
    refine A_iload_n C (pc := 11) 3 rfl dX5_rowsTellPairs_11 ?_
    refine A_aload_n C (pc := 12) 1 rfl dX5_rowsTellPairs_12 ?_
    refine A_g3_0 C (pc := 13) hq1 kf_X5_84 dX5_rowsTellPairs_13 ?_
    refine A_icmp_ge C (pc := 16) 63 (by decide) dX5_rowsTellPairs_16 hf (fun _ hf => ?_) (fun _ hf => ?_)
    · refine A_iconst C (pc := 63) ic_1 dX5_rowsTellPairs_63 ?_
      exact R_iM C (pc := 64) hr hk nz_1 dX5_rowsTellPairs_64 hf
    · refine A_iconst C (pc := 19) ic_0 dX5_rowsTellPairs_19 ?_
      refine A_istore C (pc := 20) [(0, .ref (B + 26)), (1, .ref (B + q1)), (2, .int x2), (3, .int x3), (4, .int 0)] (by decide) [1, 2, 3, 4, 0] rfl dX5_rowsTellPairs_20 ?_
      exact w_X5_rowsTellPairs_L22 C hr hk hq1 hk11 FU _ _  hf
set_option maxRecDepth 100000 in
theorem m_X5_rowsTellPairs (l : Launch) (B : Nat) (D : va_G) (Y : Nat → ClassId) (o : Ou) {M : Mem} {q1 : Nat} {r : Int32 × Mem} (hq1 : kd q1 = 2) (hf : f_X5_rowsTellPairs M q1 = some r) : MW l yX5_rowsTellPairs cX5_rowsTellPairs 5 (some .boolean) rm_X5_rowsTellPairs B D Y o [.ref (B + 26), .ref (B + q1)] M r.2 (some (.int r.1)) := by
  refine ofAt (L0 := [(0, .ref (B + 26)), (1, .ref (B + q1))]) (by decide +kernel) (Nat.le_of_ble_eq_true rfl) rfl (fun p e s m args below meth c C hr hk => ?_)
  dsimp only [f_X5_rowsTellPairs] at hf
  refine A_aload_n C (pc := 0) 0 rfl dX5_rowsTellPairs_0 ?_
  refine A_g5_2 C (pc := 1) kf_X5_24 dX5_rowsTellPairs_1 ?_
  refine A_aload_n C (pc := 4) 1 rfl dX5_rowsTellPairs_4 ?_
  obtain ⟨z5, h5, hf⟩ := bd_i hf
  refine A_callV1 C (pc := 5) (A := [.ref (B + q1)]) (rest := []) k_X5_141 ky_X4_fill kv_X4_fill (m_X4_fill l B D Y o ((show kd 33 = 4 from rfl)) hq1 h5) (kR ((show kd 33 = 4 from rfl))).1 (ent4 ((show kd 33 = 4 from rfl))) rfl rfl rfl (Nat.le_of_ble_eq_true rfl) ⟨rfl, rfl, Nat.le_of_ble_eq_true rfl, Nat.le_of_ble_eq_true rfl⟩ ⟨Nat.zero_le _, Nat.zero_le _⟩ dX5_rowsTellPairs_5 ?_
  refine A_istore_n C (pc := 8) [(0, .ref (B + 26)), (1, .ref (B + q1)), (2, .int z5.1)] rfl (by decide) [1, 2, 0] rfl dX5_rowsTellPairs_8 ?_
  refine A_iconst C (pc := 9) ic_0 dX5_rowsTellPairs_9 ?_
  refine A_istore_n C (pc := 10) [(0, .ref (B + 26)), (1, .ref (B + q1)), (2, .int z5.1), (3, .int 0)] rfl (by decide) [1, 2, 3, 0] rfl dX5_rowsTellPairs_10 ?_
  exact w_X5_rowsTellPairs_L11 C hr hk hq1 FU _ _  hf
set_option maxRecDepth 100000 in
theorem m_X5_coversFit (l : Launch) (B : Nat) (D : va_G) (Y : Nat → ClassId) (o : Ou) {M : Mem} {q1 : Nat} {r : Int32 × Mem} (hq1 : kd q1 = 2) (hf : f_X5_coversFit M q1 = some r) : MW l yX5_coversFit cX5_coversFit 2 (some .boolean) rm_X5_coversFit B D Y o [.ref (B + 26), .ref (B + q1)] M r.2 (some (.int r.1)) := by
  refine ofAt (L0 := [(0, .ref (B + 26)), (1, .ref (B + q1))]) (by decide +kernel) (Nat.le_of_ble_eq_true rfl) rfl (fun p e s m args below meth c C hr hk => ?_)
  dsimp only [f_X5_coversFit] at hf
  refine A_aload_n C (pc := 0) 0 rfl dX5_coversFit_0 ?_
  refine A_g5_4 C (pc := 1) kf_X5_34 dX5_coversFit_1 ?_
  refine A_aload_n C (pc := 4) 1 rfl dX5_coversFit_4 ?_
  obtain ⟨z5, h5, hf⟩ := bd_i hf
  refine A_callV1 C (pc := 5) (A := [.ref (B + q1)]) (rest := []) k_X5_152 ky_X0_chainCover kv_X0_chainCover (m_X0_chainCover l B D Y o ((show kd 41 = 3 from rfl)) hq1 h5) (kC ((show kd 41 = 3 from rfl))).1 (ent3 ((show kd 41 = 3 from rfl))) rfl rfl rfl (Nat.le_of_ble_eq_true rfl) ⟨rfl, rfl, Nat.le_of_ble_eq_true rfl, Nat.le_of_ble_eq_true rfl⟩ ⟨Nat.zero_le _, Nat.zero_le _⟩ dX5_coversFit_5 ?_
  refine A_aload_n C (pc := 8) 1 rfl dX5_coversFit_8 ?_
  obtain ⟨z9, h9, hf⟩ := bd_i hf
  refine A_callS1 C (pc := 9) (A := [.ref (B + q1)]) (rest := [.int z5.1]) k_X5_155 ky_X0_mostApart ks_X0_mostApart (m_X0_mostApart l B D Y o hq1 h9) rfl rfl (Nat.le_of_ble_eq_true rfl) ⟨rfl, rfl, Nat.le_of_ble_eq_true rfl, Nat.le_of_ble_eq_true rfl⟩ ⟨Nat.zero_le _, Nat.zero_le _⟩ dX5_coversFit_9 ?_
  refine A_icmp_ne C (pc := 12) 34 (by decide) dX5_coversFit_12 hf (fun _ hf => ?_) (fun _ hf => ?_)
  · refine A_iconst C (pc := 34) ic_0 dX5_coversFit_34 ?_
    exact R_iM C (pc := 35) hr hk nz_0 dX5_coversFit_35 hf
  · refine A_aload_n C (pc := 15) 1 rfl dX5_coversFit_15 ?_
    obtain ⟨z16, h16, hf⟩ := bd_i hf
    refine A_callS1 C (pc := 16) (A := [.ref (B + q1)]) (rest := []) k_X5_158 ky_X0_layerCount ks_X0_layerCount (m_X0_layerCount l B D Y o hq1 h16) rfl rfl (Nat.le_of_ble_eq_true rfl) ⟨rfl, rfl, Nat.le_of_ble_eq_true rfl, Nat.le_of_ble_eq_true rfl⟩ ⟨Nat.zero_le _, Nat.zero_le _⟩ dX5_coversFit_16 ?_
    refine A_aload_n C (pc := 19) 1 rfl dX5_coversFit_19 ?_
    refine A_aload_n C (pc := 20) 1 rfl dX5_coversFit_20 ?_
    obtain ⟨z21, h21, hf⟩ := bd_i hf
    refine A_callV1 C (pc := 21) (A := []) (rest := [.ref (B + q1), .int z16]) k_X5_124 ky_X3_all kv_X3_all (m_X3_all l B D Y o hq1 h21) (kO hq1).1 (ent2 hq1) rfl rfl rfl (Nat.le_of_ble_eq_true rfl) ⟨rfl, rfl, Nat.le_of_ble_eq_true rfl, Nat.le_of_ble_eq_true rfl⟩ ⟨Nat.zero_le _, Nat.zero_le _⟩ dX5_coversFit_21 ?_
    obtain ⟨z24, h24, hf⟩ := bd_i hf
    refine A_callS1 C (pc := 24) (A := [.ref (B + q1), .int z21]) (rest := [.int z16]) k_X5_161 ky_X0_longestWithin ks_X0_longestWithin (m_X0_longestWithin l B D Y o hq1 h24) rfl rfl (Nat.le_of_ble_eq_true rfl) ⟨rfl, rfl, Nat.le_of_ble_eq_true rfl, Nat.le_of_ble_eq_true rfl⟩ ⟨Nat.zero_le _, Nat.zero_le _⟩ dX5_coversFit_24 ?_
    refine A_icmp_ne C (pc := 27) 34 (by decide) dX5_coversFit_27 hf (fun _ hf => ?_) (fun _ hf => ?_)
    · refine A_iconst C (pc := 34) ic_0 dX5_coversFit_34 ?_
      exact R_iM C (pc := 35) hr hk nz_0 dX5_coversFit_35 hf
    · refine A_iconst C (pc := 30) ic_1 dX5_coversFit_30 ?_
      refine A_goto C (pc := 31) 35 (by decide) dX5_coversFit_31 ?_
      exact R_iM C (pc := 35) hr hk nz_1 dX5_coversFit_35 hf
set_option maxRecDepth 100000 in
theorem w_X5_closedSetFits_L16 {M : Mem} {q0 : Nat} {x1 : Int32} {r : Int32} (C : Cx p s m args c cX5_closedSetFits 4 RX5 B D Y) (hr : meth.sig.returnType = (some .boolean)) (hk : meth.locks = false) (hq0 : kd q0 = 2) : ∀ (n : Nat) (x2 : Int32) (x3 : Int32), f_X5_closedSetFits_L16 M q0 x1 n (x2, x3) = some r → At p l e rm_X5_closedSetFits s m args below meth c 4 0 0 (QQ below args s B D Y M o (some (.int r))) B D Y o 16 M [(0, .ref (B + q0)), (1, .int x1), (2, .int x2), (3, .int x3)] [] := by
  intro n
  induction n with
  | zero => intro x2 x3 hf; exact nomatch (show (none : Option Int32) = some r from hf)
  | succ n hk16 =>
    intro x2 x3 hf
    replace hf : g_X5_closedSetFits_L16 M q0 x1 (f_X5_closedSetFits_L16 M q0 x1 n) (x2, x3) = some r := hf
    dsimp only [g_X5_closedSetFits_L16] at hf
    refine A_iload_n C (pc := 16) 3 rfl dX5_closedSetFits_16 ?_
    refine A_aload_n C (pc := 17) 0 rfl dX5_closedSetFits_17 ?_
    refine A_g3_0 C (pc := 18) hq0 kf_X5_84 dX5_closedSetFits_18 ?_
    refine A_icmp_ge C (pc := 21) 49 (by decide) dX5_closedSetFits_21 hf (fun _ hf => ?_) (fun _ hf => ?_)
    · refine A_iload_n C (pc := 49) 2 rfl dX5_closedSetFits_49 ?_
      refine A_if_eq C (pc := 50) 70 (by decide) dX5_closedSetFits_50 hf (fun _ hf => ?_) (fun _ hf => ?_)
      · refine A_iconst C (pc := 70) ic_0 dX5_closedSetFits_70 ?_
        exact R_iP C (pc := 71) hr hk nz_0 dX5_closedSetFits_71 hf
      · refine A_aload_n C (pc := 53) 0 rfl dX5_closedSetFits_53 ?_
        refine A_aload_n C (pc := 54) 0 rfl dX5_closedSetFits_54 ?_
        refine A_iload_n C (pc := 55) 1 rfl dX5_closedSetFits_55 ?_
        obtain ⟨z56, h56, hf⟩ := bd_i hf
        refine A_callV1 C (pc := 56) (A := [.int x1]) (rest := [.ref (B + q0)]) k_X5_128 ky_X3_greatestOf kv_X3_greatestOf (m_X3_greatestOf l B D Y o hq0 h56) (kO hq0).1 (ent2 hq0) rfl rfl rfl (Nat.le_of_ble_eq_true rfl) ⟨rfl, rfl, Nat.le_of_ble_eq_true rfl, Nat.le_of_ble_eq_true rfl⟩ ⟨Nat.zero_le _, Nat.zero_le _⟩ dX5_closedSetFits_56 ?_
        obtain ⟨z59, h59, hf⟩ := bd_i hf
        refine A_callV1 C (pc := 59) (A := [.int z56]) (rest := []) k_X5_191 ky_X3_filledUp kv_X3_filledUp (m_X3_filledUp l B D Y o hq0 h59) (kO hq0).1 (ent2 hq0) rfl rfl rfl (Nat.le_of_ble_eq_true rfl) ⟨rfl, rfl, Nat.le_of_ble_eq_true rfl, Nat.le_of_ble_eq_true rfl⟩ ⟨Nat.zero_le _, Nat.zero_le _⟩ dX5_closedSetFits_59 ?_
        refine A_iload_n C (pc := 62) 1 rfl dX5_closedSetFits_62 ?_
        refine A_icmp_ne C (pc := 63) 70 (by decide) dX5_closedSetFits_63 hf (fun _ hf => ?_) (fun _ hf => ?_)
        · refine A_iconst C (pc := 70) ic_0 dX5_closedSetFits_70 ?_
          exact R_iP C (pc := 71) hr hk nz_0 dX5_closedSetFits_71 hf
        · refine A_iconst C (pc := 66) ic_1 dX5_closedSetFits_66 ?_
          refine A_goto C (pc := 67) 71 (by decide) dX5_closedSetFits_67 ?_
          exact R_iP C (pc := 71) hr hk nz_1 dX5_closedSetFits_71 hf
    · refine A_iload_n C (pc := 24) 2 rfl dX5_closedSetFits_24 ?_
      refine A_if_ne C (pc := 25) 37 (by decide) dX5_closedSetFits_25 hf (fun _ hf => ?_) (fun _ hf => ?_)
      · refine A_iconst C (pc := 37) ic_1 dX5_closedSetFits_37 ?_
        refine A_goto C (pc := 38) 42 (by decide) dX5_closedSetFits_38 ?_
        refine A_istore_n C (pc := 42) [(0, .ref (B + q0)), (1, .int x1), (2, .int 1), (3, .int x3)] rfl (by decide) [1, 2, 0, 3] rfl dX5_closedSetFits_42 ?_
        refine A_iinc C (pc := 43) (k0 := 3) [(0, .ref (B + q0)), (1, .int x1), (2, .int 1), (3, .int (x3 + 1))] rfl ic_1 (by decide) [1, 2, 3, 0] rfl dX5_closedSetFits_43 ?_
        refine A_goto C (pc := 46) 16 (by decide) dX5_closedSetFits_46 ?_
        exact hk16 _ _ hf
      · refine A_aload_n C (pc := 28) 0 rfl dX5_closedSetFits_28 ?_
        refine A_iload_n C (pc := 29) 1 rfl dX5_closedSetFits_29 ?_
        refine A_iload_n C (pc := 30) 3 rfl dX5_closedSetFits_30 ?_
        obtain ⟨z31, h31, hf⟩ := bd_i hf
        refine A_callV1 C (pc := 31) (A := [.int x1, .int x3]) (rest := []) k_X5_188 ky_X3_canCome kv_X3_canCome (m_X3_canCome l B D Y o hq0 h31) (kO hq0).1 (ent2 hq0) rfl rfl rfl (Nat.le_of_ble_eq_true rfl) ⟨rfl, rfl, Nat.le_of_ble_eq_true rfl, Nat.le_of_ble_eq_true rfl⟩ ⟨Nat.zero_le _, Nat.zero_le _⟩ dX5_closedSetFits_31 ?_
        refine A_if_eq C (pc := 34) 41 (by decide) dX5_closedSetFits_34 hf (fun _ hf => ?_) (fun _ hf => ?_)
        · refine A_iconst C (pc := 41) ic_0 dX5_closedSetFits_41 ?_
          refine A_istore_n C (pc := 42) [(0, .ref (B + q0)), (1, .int x1), (2, .int 0), (3, .int x3)] rfl (by decide) [1, 2, 0, 3] rfl dX5_closedSetFits_42 ?_
          refine A_iinc C (pc := 43) (k0 := 3) [(0, .ref (B + q0)), (1, .int x1), (2, .int 0), (3, .int (x3 + 1))] rfl ic_1 (by decide) [1, 2, 3, 0] rfl dX5_closedSetFits_43 ?_
          refine A_goto C (pc := 46) 16 (by decide) dX5_closedSetFits_46 ?_
          exact hk16 _ _ hf
        · refine A_iconst C (pc := 37) ic_1 dX5_closedSetFits_37 ?_
          refine A_goto C (pc := 38) 42 (by decide) dX5_closedSetFits_38 ?_
          refine A_istore_n C (pc := 42) [(0, .ref (B + q0)), (1, .int x1), (2, .int 1), (3, .int x3)] rfl (by decide) [1, 2, 0, 3] rfl dX5_closedSetFits_42 ?_
          refine A_iinc C (pc := 43) (k0 := 3) [(0, .ref (B + q0)), (1, .int x1), (2, .int 1), (3, .int (x3 + 1))] rfl ic_1 (by decide) [1, 2, 3, 0] rfl dX5_closedSetFits_43 ?_
          refine A_goto C (pc := 46) 16 (by decide) dX5_closedSetFits_46 ?_
          exact hk16 _ _ hf
set_option maxRecDepth 100000 in
theorem m_X5_closedSetFits (l : Launch) (B : Nat) (D : va_G) (Y : Nat → ClassId) (o : Ou) {M : Mem} {q0 : Nat} {x1 : Int32} {r : Int32} (hq0 : kd q0 = 2) (hf : f_X5_closedSetFits M q0 x1 = some r) : MW l yX5_closedSetFits cX5_closedSetFits 4 (some .boolean) rm_X5_closedSetFits B D Y o [.ref (B + q0), .int x1] M M (some (.int r)) := by
  refine ofAt (L0 := [(0, .ref (B + q0)), (1, .int x1)]) (by decide +kernel) (Nat.le_of_ble_eq_true rfl) rfl (fun p e s m args below meth c C hr hk => ?_)
  dsimp only [f_X5_closedSetFits] at hf
  refine A_iload_n C (pc := 0) 1 rfl dX5_closedSetFits_0 ?_
  refine A_aload_n C (pc := 1) 0 rfl dX5_closedSetFits_1 ?_
  obtain ⟨z2, h2, hf⟩ := bd_i hf
  refine A_callV1 C (pc := 2) (A := []) (rest := [.int x1]) k_X5_124 ky_X3_all kv_X3_all (m_X3_all l B D Y o hq0 h2) (kO hq0).1 (ent2 hq0) rfl rfl rfl (Nat.le_of_ble_eq_true rfl) ⟨rfl, rfl, Nat.le_of_ble_eq_true rfl, Nat.le_of_ble_eq_true rfl⟩ ⟨Nat.zero_le _, Nat.zero_le _⟩ dX5_closedSetFits_2 ?_
  refine A_icmp_ne C (pc := 5) 12 (by decide) dX5_closedSetFits_5 hf (fun _ hf => ?_) (fun _ hf => ?_)
  · refine A_iconst C (pc := 12) ic_0 dX5_closedSetFits_12 ?_
    refine A_istore_n C (pc := 13) [(0, .ref (B + q0)), (1, .int x1), (2, .int 0)] rfl (by decide) [1, 2, 0] rfl dX5_closedSetFits_13 ?_
    refine A_iconst C (pc := 14) ic_0 dX5_closedSetFits_14 ?_
    refine A_istore_n C (pc := 15) [(0, .ref (B + q0)), (1, .int x1), (2, .int 0), (3, .int 0)] rfl (by decide) [1, 2, 3, 0] rfl dX5_closedSetFits_15 ?_
    exact w_X5_closedSetFits_L16 C hr hk hq0 FU _ _  hf
  · refine A_iconst C (pc := 8) ic_1 dX5_closedSetFits_8 ?_
    refine A_goto C (pc := 9) 13 (by decide) dX5_closedSetFits_9 ?_
    refine A_istore_n C (pc := 13) [(0, .ref (B + q0)), (1, .int x1), (2, .int 1)] rfl (by decide) [1, 2, 0] rfl dX5_closedSetFits_13 ?_
    refine A_iconst C (pc := 14) ic_0 dX5_closedSetFits_14 ?_
    refine A_istore_n C (pc := 15) [(0, .ref (B + q0)), (1, .int x1), (2, .int 1), (3, .int 0)] rfl (by decide) [1, 2, 3, 0] rfl dX5_closedSetFits_15 ?_
    exact w_X5_closedSetFits_L16 C hr hk hq0 FU _ _  hf
set_option maxRecDepth 100000 in
theorem w_X5_staysClosedBy_L25 {M : Mem} {q1 : Nat} {x3 : Int32} {x4 : Int32} {r : Int32} (C : Cx p s m args c cX5_staysClosedBy 6 RX5 B D Y) (hr : meth.sig.returnType = (some .boolean)) (hk : meth.locks = false) (hq1 : kd q1 = 2) : ∀ (n : Nat) (x5 : Int32), f_X5_staysClosedBy_L25 M q1 x3 x4 n x5 = some r → At p l e rm_X5_staysClosedBy s m args below meth c 6 0 0 (QQ below args s B D Y M o (some (.int r))) B D Y o 25 M [(0, .ref (B + 26)), (1, .ref (B + q1)), (3, .int x3), (4, .int x4), (5, .int x5)] [] := by
  intro n
  induction n with
  | zero => intro x5 hf; exact nomatch (show (none : Option Int32) = some r from hf)
  | succ n hk25 =>
    intro x5 hf
    replace hf : g_X5_staysClosedBy_L25 M q1 x3 x4 (f_X5_staysClosedBy_L25 M q1 x3 x4 n) x5 = some r := hf
    dsimp only [g_X5_staysClosedBy_L25] at hf
    refine A_iload C (pc := 25) 4 rfl dX5_staysClosedBy_25 ?_
    refine A_aload_n C (pc := 27) 1 rfl dX5_staysClosedBy_27 ?_
    obtain ⟨z28, h28, hf⟩ := bd_i hf
    refine A_callV1 C (pc := 28) (A := []) (rest := [.int x5]) k_X5_165 ky_X3_setLimit kv_X3_setLimit (m_X3_setLimit l B D Y o hq1 h28) (kO hq1).1 (ent2 hq1) rfl rfl rfl (Nat.le_of_ble_eq_true rfl) ⟨rfl, rfl, Nat.le_of_ble_eq_true rfl, Nat.le_of_ble_eq_true rfl⟩ ⟨Nat.zero_le _, Nat.zero_le _⟩ dX5_staysClosedBy_28 ?_
    refine A_icmp_ge C (pc := 31) 85 (by decide) dX5_staysClosedBy_31 hf (fun _ hf => ?_) (fun _ hf => ?_)
    · refine A_iconst C (pc := 85) ic_1 dX5_staysClosedBy_85 ?_
      exact R_iP C (pc := 86) hr hk nz_1 dX5_staysClosedBy_86 hf
    · refine A_aload_n C (pc := 34) 0 rfl dX5_staysClosedBy_34 ?_
      refine A_g5_2 C (pc := 35) kf_X5_24 dX5_staysClosedBy_35 ?_
      refine A_iload C (pc := 38) 4 rfl dX5_staysClosedBy_38 ?_
      obtain ⟨z40, h40, hf⟩ := bd_i hf
      refine A_callV1 C (pc := 40) (A := [.int x5]) (rest := []) k_X5_172 ky_X4_isReached kv_X4_isReached (m_X4_isReached l B D Y o ((show kd 33 = 4 from rfl)) h40) (kR ((show kd 33 = 4 from rfl))).1 (ent4 ((show kd 33 = 4 from rfl))) rfl rfl rfl (Nat.le_of_ble_eq_true rfl) ⟨rfl, rfl, Nat.le_of_ble_eq_true rfl, Nat.le_of_ble_eq_true rfl⟩ ⟨Nat.zero_le _, Nat.zero_le _⟩ dX5_staysClosedBy_40 ?_
      refine A_if_eq C (pc := 43) 79 (by decide) dX5_staysClosedBy_43 hf (fun _ hf => ?_) (fun _ hf => ?_)
      · refine A_iinc C (pc := 79) (k0 := 4) [(0, .ref (B + 26)), (1, .ref (B + q1)), (3, .int x3), (4, .int x4), (5, .int (x5 + 1))] rfl ic_1 (by decide) [1, 2, 3, 4, 0] rfl dX5_staysClosedBy_79 ?_
        refine A_goto C (pc := 82) 25 (by decide) dX5_staysClosedBy_82 ?_
        exact hk25 _ hf
      · refine A_aload_n C (pc := 46) 0 rfl dX5_staysClosedBy_46 ?_
        refine A_g5_2 C (pc := 47) kf_X5_24 dX5_staysClosedBy_47 ?_
        refine A_iload C (pc := 50) 4 rfl dX5_staysClosedBy_50 ?_
        refine A_iload_n C (pc := 52) 2 rfl dX5_staysClosedBy_52 ?_
        refine A_ior C (pc := 53) dX5_staysClosedBy_53 ?_
        obtain ⟨z54, h54, hf⟩ := bd_i hf
        refine A_callV1 C (pc := 54) (A := [.int (x5 ||| x3)]) (rest := []) k_X5_172 ky_X4_isReached kv_X4_isReached (m_X4_isReached l B D Y o ((show kd 33 = 4 from rfl)) h54) (kR ((show kd 33 = 4 from rfl))).1 (ent4 ((show kd 33 = 4 from rfl))) rfl rfl rfl (Nat.le_of_ble_eq_true rfl) ⟨rfl, rfl, Nat.le_of_ble_eq_true rfl, Nat.le_of_ble_eq_true rfl⟩ ⟨Nat.zero_le _, Nat.zero_le _⟩ dX5_staysClosedBy_54 ?_
        refine A_if_eq C (pc := 57) 77 (by decide) dX5_staysClosedBy_57 hf (fun _ hf => ?_) (fun _ hf => ?_)
        · refine A_iconst C (pc := 77) ic_0 dX5_staysClosedBy_77 ?_
          exact R_iP C (pc := 78) hr hk nz_0 dX5_staysClosedBy_78 hf
        · refine A_aload_n C (pc := 60) 0 rfl dX5_staysClosedBy_60 ?_
          refine A_g5_2 C (pc := 61) kf_X5_24 dX5_staysClosedBy_61 ?_
          refine A_iload C (pc := 64) 4 rfl dX5_staysClosedBy_64 ?_
          refine A_iload C (pc := 66) 3 rfl dX5_staysClosedBy_66 ?_
          refine A_iconst C (pc := 68) ic_m1 dX5_staysClosedBy_68 ?_
          refine A_ixor C (pc := 69) dX5_staysClosedBy_69 ?_
          refine A_iand C (pc := 70) dX5_staysClosedBy_70 ?_
          obtain ⟨z71, h71, hf⟩ := bd_i hf
          refine A_callV1 C (pc := 71) (A := [.int (x5 &&& (x4 ^^^ ((-1))))]) (rest := []) k_X5_172 ky_X4_isReached kv_X4_isReached (m_X4_isReached l B D Y o ((show kd 33 = 4 from rfl)) h71) (kR ((show kd 33 = 4 from rfl))).1 (ent4 ((show kd 33 = 4 from rfl))) rfl rfl rfl (Nat.le_of_ble_eq_true rfl) ⟨rfl, rfl, Nat.le_of_ble_eq_true rfl, Nat.le_of_ble_eq_true rfl⟩ ⟨Nat.zero_le _, Nat.zero_le _⟩ dX5_staysClosedBy_71 ?_
          refine A_if_ne C (pc := 74) 79 (by decide) dX5_staysClosedBy_74 hf (fun _ hf => ?_) (fun _ hf => ?_)
          · refine A_iinc C (pc := 79) (k0 := 4) [(0, .ref (B + 26)), (1, .ref (B + q1)), (3, .int x3), (4, .int x4), (5, .int (x5 + 1))] rfl ic_1 (by decide) [1, 2, 3, 4, 0] rfl dX5_staysClosedBy_79 ?_
            refine A_goto C (pc := 82) 25 (by decide) dX5_staysClosedBy_82 ?_
            exact hk25 _ hf
          · refine A_iconst C (pc := 77) ic_0 dX5_staysClosedBy_77 ?_
            exact R_iP C (pc := 78) hr hk nz_0 dX5_staysClosedBy_78 hf
set_option maxRecDepth 100000 in
theorem m_X5_staysClosedBy (l : Launch) (B : Nat) (D : va_G) (Y : Nat → ClassId) (o : Ou) {M : Mem} {q1 : Nat} {x2 : Int32} {r : Int32} (hq1 : kd q1 = 2) (hf : f_X5_staysClosedBy M q1 x2 = some r) : MW l yX5_staysClosedBy cX5_staysClosedBy 6 (some .boolean) rm_X5_staysClosedBy B D Y o [.ref (B + 26), .ref (B + q1), .int x2] M M (some (.int r)) := by
  refine ofAt (L0 := [(0, .ref (B + 26)), (1, .ref (B + q1)), (2, .int x2)]) (by decide +kernel) (Nat.le_of_ble_eq_true rfl) rfl (fun p e s m args below meth c C hr hk => ?_)
  dsimp only [f_X5_staysClosedBy] at hf
  refine A_aload_n C (pc := 0) 1 rfl dX5_staysClosedBy_0 ?_
  refine A_g3_1 C (pc := 1) hq1 kf_X5_92 dX5_staysClosedBy_1 ?_
  refine A_iload_n C (pc := 4) 2 rfl dX5_staysClosedBy_4 ?_
  obtain ⟨c5, hf⟩ := chk_i hf
  refine A_iald C (pc := 5) (iO1 hq1) c5 dX5_staysClosedBy_5 ?_
  refine A_iconst C (pc := 6) ic_1 dX5_staysClosedBy_6 ?_
  refine A_iload_n C (pc := 7) 2 rfl dX5_staysClosedBy_7 ?_
  refine A_ishl C (pc := 8) dX5_staysClosedBy_8 ?_
  refine A_ior C (pc := 9) dX5_staysClosedBy_9 ?_
  obtain ⟨v10, e10, hf⟩ := bd_i hf
  refine A_nmI e10 ?_
  refine A_istore_n C (pc := 10) [(0, .ref (B + 26)), (1, .ref (B + q1)), (2, .int x2), (3, .int v10)] rfl (by decide) [1, 2, 3, 0] rfl dX5_staysClosedBy_10 ?_
  refine A_aload_n C (pc := 11) 1 rfl dX5_staysClosedBy_11 ?_
  refine A_iload_n C (pc := 12) 2 rfl dX5_staysClosedBy_12 ?_
  obtain ⟨z13, h13, hf⟩ := bd_i hf
  refine A_callV1 C (pc := 13) (A := [.int x2]) (rest := []) k_X5_194 ky_X3_aboveOf kv_X3_aboveOf (m_X3_aboveOf l B D Y o hq1 h13) (kO hq1).1 (ent2 hq1) rfl rfl rfl (Nat.le_of_ble_eq_true rfl) ⟨rfl, rfl, Nat.le_of_ble_eq_true rfl, Nat.le_of_ble_eq_true rfl⟩ ⟨Nat.zero_le _, Nat.zero_le _⟩ dX5_staysClosedBy_13 ?_
  refine A_iconst C (pc := 16) ic_1 dX5_staysClosedBy_16 ?_
  refine A_iload_n C (pc := 17) 2 rfl dX5_staysClosedBy_17 ?_
  refine A_ishl C (pc := 18) dX5_staysClosedBy_18 ?_
  refine A_ior C (pc := 19) dX5_staysClosedBy_19 ?_
  obtain ⟨v20, e20, hf⟩ := bd_i hf
  refine A_nmI e20 ?_
  refine A_istore C (pc := 20) [(0, .ref (B + 26)), (1, .ref (B + q1)), (3, .int v10), (4, .int v20)] (by decide) [1, 2, 4, 0] rfl dX5_staysClosedBy_20 ?_
  refine A_iconst C (pc := 22) ic_0 dX5_staysClosedBy_22 ?_
  refine A_istore C (pc := 23) [(0, .ref (B + 26)), (1, .ref (B + q1)), (3, .int v10), (4, .int v20), (5, .int 0)] (by decide) [1, 2, 3, 4, 0] rfl dX5_staysClosedBy_23 ?_
  exact w_X5_staysClosedBy_L25 C hr hk hq1 FU _  hf
set_option maxRecDepth 100000 in
theorem w_X5_closedSetsFit_L59 {M : Mem} {q1 : Nat} {r : Int32 × Mem} (C : Cx p s m args c cX5_closedSetsFit 4 RX5 B D Y) (hr : meth.sig.returnType = (some .boolean)) (hk : meth.locks = false) (hq1 : kd q1 = 2) : ∀ (n : Nat) (x2 : Int32), f_X5_closedSetsFit_L59 M q1 n x2 = some r → At p l e rm_X5_closedSetsFit s m args below meth c 4 0 0 (QQ below args s B D Y r.2 o (some (.int r.1))) B D Y o 59 M [(0, .ref (B + 26)), (1, .ref (B + q1)), (2, .int x2)] [] := by
  intro n
  induction n with
  | zero => intro x2 hf; exact nomatch (show (none : Option (Int32 × Mem)) = some r from hf)
  | succ n hk59 =>
    intro x2 hf
    replace hf : g_X5_closedSetsFit_L59 M q1 (f_X5_closedSetsFit_L59 M q1 n) x2 = some r := hf
    dsimp only [g_X5_closedSetsFit_L59] at hf
    refine A_iload_n C (pc := 59) 2 rfl dX5_closedSetsFit_59 ?_
    refine A_aload_n C (pc := 60) 1 rfl dX5_closedSetsFit_60 ?_
    refine A_g3_0 C (pc := 61) hq1 kf_X5_84 dX5_closedSetsFit_61 ?_
    refine A_icmp_ge C (pc := 64) 84 (by decide) dX5_closedSetsFit_64 hf (fun _ hf => ?_) (fun _ hf => ?_)
    · refine A_aload_n C (pc := 84) 1 rfl dX5_closedSetsFit_84 ?_
      obtain ⟨z85, h85, hf⟩ := bd_i hf
      refine A_callS1 C (pc := 85) (A := [.ref (B + q1)]) (rest := []) k_X5_182 ky_X1_count ks_X1_count (m_X1_count l B D Y o hq1 h85) rfl rfl (Nat.le_of_ble_eq_true rfl) ⟨rfl, rfl, Nat.le_of_ble_eq_true rfl, Nat.le_of_ble_eq_true rfl⟩ ⟨Nat.zero_le _, Nat.zero_le _⟩ dX5_closedSetsFit_85 ?_
      refine A_aload_n C (pc := 88) 1 rfl dX5_closedSetsFit_88 ?_
      obtain ⟨z89, h89, hf⟩ := bd_i hf
      refine A_callS1 C (pc := 89) (A := [.ref (B + q1)]) (rest := [.int z85]) k_X5_185 ky_X0_apartCount ks_X0_apartCount (m_X0_apartCount l B D Y o hq1 h89) rfl rfl (Nat.le_of_ble_eq_true rfl) ⟨rfl, rfl, Nat.le_of_ble_eq_true rfl, Nat.le_of_ble_eq_true rfl⟩ ⟨Nat.zero_le _, Nat.zero_le _⟩ dX5_closedSetsFit_89 ?_
      refine A_icmp_ne C (pc := 92) 99 (by decide) dX5_closedSetsFit_92 hf (fun _ hf => ?_) (fun _ hf => ?_)
      · refine A_iconst C (pc := 99) ic_0 dX5_closedSetsFit_99 ?_
        exact R_iM C (pc := 100) hr hk nz_0 dX5_closedSetsFit_100 hf
      · refine A_iconst C (pc := 95) ic_1 dX5_closedSetsFit_95 ?_
        refine A_goto C (pc := 96) 100 (by decide) dX5_closedSetsFit_96 ?_
        exact R_iM C (pc := 100) hr hk nz_1 dX5_closedSetsFit_100 hf
    · refine A_aload_n C (pc := 67) 0 rfl dX5_closedSetsFit_67 ?_
      refine A_aload_n C (pc := 68) 1 rfl dX5_closedSetsFit_68 ?_
      refine A_iload_n C (pc := 69) 2 rfl dX5_closedSetsFit_69 ?_
      obtain ⟨z70, h70, hf⟩ := bd_i hf
      refine A_callV1 C (pc := 70) (A := [.ref (B + q1), .int x2]) (rest := []) k_X5_179 ky_X5_staysClosedBy kv_X5_staysClosedBy (m_X5_staysClosedBy l B D Y o hq1 h70) (by decide) rfl rfl rfl rfl (Nat.le_of_ble_eq_true rfl) ⟨rfl, rfl, Nat.le_of_ble_eq_true rfl, Nat.le_of_ble_eq_true rfl⟩ ⟨Nat.zero_le _, Nat.zero_le _⟩ dX5_closedSetsFit_70 ?_
      refine A_if_ne C (pc := 73) 78 (by decide) dX5_closedSetsFit_73 hf (fun _ hf => ?_) (fun _ hf => ?_)
      · refine A_iinc C (pc := 78) (k0 := 2) [(0, .ref (B + 26)), (1, .ref (B + q1)), (2, .int (x2 + 1))] rfl ic_1 (by decide) [1, 2, 0] rfl dX5_closedSetsFit_78 ?_
        refine A_goto C (pc := 81) 59 (by decide) dX5_closedSetsFit_81 ?_
        exact hk59 _ hf
      · refine A_iconst C (pc := 76) ic_0 dX5_closedSetsFit_76 ?_
        exact R_iM C (pc := 77) hr hk nz_0 dX5_closedSetsFit_77 hf
set_option maxRecDepth 100000 in
theorem w_X5_closedSetsFit_L11 {M : Mem} {q1 : Nat} {r : Int32 × Mem} (C : Cx p s m args c cX5_closedSetsFit 4 RX5 B D Y) (hr : meth.sig.returnType = (some .boolean)) (hk : meth.locks = false) (hq1 : kd q1 = 2) : ∀ (n : Nat) (x2 : Int32), f_X5_closedSetsFit_L11 M q1 n x2 = some r → At p l e rm_X5_closedSetsFit s m args below meth c 4 0 0 (QQ below args s B D Y r.2 o (some (.int r.1))) B D Y o 11 M [(0, .ref (B + 26)), (1, .ref (B + q1)), (2, .int x2)] [] := by
  intro n
  induction n with
  | zero => intro x2 hf; exact nomatch (show (none : Option (Int32 × Mem)) = some r from hf)
  | succ n hk11 =>
    intro x2 hf
    replace hf : g_X5_closedSetsFit_L11 M q1 (f_X5_closedSetsFit_L11 M q1 n) x2 = some r := hf
    dsimp only [g_X5_closedSetsFit_L11] at hf
    refine A_iload_n C (pc := 11) 2 rfl dX5_closedSetsFit_11 ?_
    refine A_aload_n C (pc := 12) 1 rfl dX5_closedSetsFit_12 ?_
    obtain ⟨z13, h13, hf⟩ := bd_i hf
    refine A_callV1 C (pc := 13) (A := []) (rest := [.int x2]) k_X5_165 ky_X3_setLimit kv_X3_setLimit (m_X3_setLimit l B D Y o hq1 h13) (kO hq1).1 (ent2 hq1) rfl rfl rfl (Nat.le_of_ble_eq_true rfl) ⟨rfl, rfl, Nat.le_of_ble_eq_true rfl, Nat.le_of_ble_eq_true rfl⟩ ⟨Nat.zero_le _, Nat.zero_le _⟩ dX5_closedSetsFit_13 ?_
    refine A_icmp_ge C (pc := 16) 57 (by decide) dX5_closedSetsFit_16 hf (fun _ hf => ?_) (fun _ hf => ?_)
    · refine A_iconst C (pc := 57) ic_0 dX5_closedSetsFit_57 ?_
      refine A_istore_n C (pc := 58) [(0, .ref (B + 26)), (1, .ref (B + q1)), (2, .int 0)] rfl (by decide) [1, 2, 0] rfl dX5_closedSetsFit_58 ?_
      exact w_X5_closedSetsFit_L59 C hr hk hq1 FU _  hf
    · refine A_aload_n C (pc := 19) 1 rfl dX5_closedSetsFit_19 ?_
      refine A_iload_n C (pc := 20) 2 rfl dX5_closedSetsFit_20 ?_
      obtain ⟨z21, h21, hf⟩ := bd_i hf
      refine A_callV1 C (pc := 21) (A := [.int x2]) (rest := []) k_X5_168 ky_X3_isClosedBelow kv_X3_isClosedBelow (m_X3_isClosedBelow l B D Y o hq1 h21) (kO hq1).1 (ent2 hq1) rfl rfl rfl (Nat.le_of_ble_eq_true rfl) ⟨rfl, rfl, Nat.le_of_ble_eq_true rfl, Nat.le_of_ble_eq_true rfl⟩ ⟨Nat.zero_le _, Nat.zero_le _⟩ dX5_closedSetsFit_21 ?_
      refine A_istore_n C (pc := 24) [(0, .ref (B + 26)), (1, .ref (B + q1)), (2, .int x2), (3, .int z21)] rfl (by decide) [1, 2, 3, 0] rfl dX5_closedSetsFit_24 ?_
      refine A_iload_n C (pc := 25) 3 rfl dX5_closedSetsFit_25 ?_
      refine A_aload_n C (pc := 26) 0 rfl dX5_closedSetsFit_26 ?_
      refine A_g5_2 C (pc := 27) kf_X5_24 dX5_closedSetsFit_27 ?_
      refine A_iload_n C (pc := 30) 2 rfl dX5_closedSetsFit_30 ?_
      obtain ⟨z31, h31, hf⟩ := bd_i hf
      refine A_callV1 C (pc := 31) (A := [.int x2]) (rest := [.int z21]) k_X5_172 ky_X4_isReached kv_X4_isReached (m_X4_isReached l B D Y o ((show kd 33 = 4 from rfl)) h31) (kR ((show kd 33 = 4 from rfl))).1 (ent4 ((show kd 33 = 4 from rfl))) rfl rfl rfl (Nat.le_of_ble_eq_true rfl) ⟨rfl, rfl, Nat.le_of_ble_eq_true rfl, Nat.le_of_ble_eq_true rfl⟩ ⟨Nat.zero_le _, Nat.zero_le _⟩ dX5_closedSetsFit_31 ?_
      refine A_icmp_ne C (pc := 34) 49 (by decide) dX5_closedSetsFit_34 hf (fun _ hf => ?_) (fun _ hf => ?_)
      · refine A_iconst C (pc := 49) ic_0 dX5_closedSetsFit_49 ?_
        exact R_iM C (pc := 50) hr hk nz_0 dX5_closedSetsFit_50 hf
      · refine A_iload_n C (pc := 37) 3 rfl dX5_closedSetsFit_37 ?_
        refine A_if_eq C (pc := 38) 51 (by decide) dX5_closedSetsFit_38 hf (fun _ hf => ?_) (fun _ hf => ?_)
        · refine A_iinc C (pc := 51) (k0 := 2) [(0, .ref (B + 26)), (1, .ref (B + q1)), (2, .int (x2 + 1))] rfl ic_1 (by decide) [1, 2, 0] rfl dX5_closedSetsFit_51 ?_
          refine A_goto C (pc := 54) 11 (by decide) dX5_closedSetsFit_54 ?_
          exact hk11 _ hf
        · refine A_aload_n C (pc := 41) 1 rfl dX5_closedSetsFit_41 ?_
          refine A_iload_n C (pc := 42) 2 rfl dX5_closedSetsFit_42 ?_
          obtain ⟨z43, h43, hf⟩ := bd_i hf
          refine A_callS1 C (pc := 43) (A := [.ref (B + q1), .int x2]) (rest := []) k_X5_175 ky_X5_closedSetFits ks_X5_closedSetFits (m_X5_closedSetFits l B D Y o hq1 h43) rfl rfl (Nat.le_of_ble_eq_true rfl) ⟨rfl, rfl, Nat.le_of_ble_eq_true rfl, Nat.le_of_ble_eq_true rfl⟩ ⟨Nat.zero_le _, Nat.zero_le _⟩ dX5_closedSetsFit_43 ?_
          refine A_if_ne C (pc := 46) 51 (by decide) dX5_closedSetsFit_46 hf (fun _ hf => ?_) (fun _ hf => ?_)
          · refine A_iinc C (pc := 51) (k0 := 2) [(0, .ref (B + 26)), (1, .ref (B + q1)), (2, .int (x2 + 1))] rfl ic_1 (by decide) [1, 2, 0] rfl dX5_closedSetsFit_51 ?_
            refine A_goto C (pc := 54) 11 (by decide) dX5_closedSetsFit_54 ?_
            exact hk11 _ hf
          · refine A_iconst C (pc := 49) ic_0 dX5_closedSetsFit_49 ?_
            exact R_iM C (pc := 50) hr hk nz_0 dX5_closedSetsFit_50 hf
set_option maxRecDepth 100000 in
theorem m_X5_closedSetsFit (l : Launch) (B : Nat) (D : va_G) (Y : Nat → ClassId) (o : Ou) {M : Mem} {q1 : Nat} {r : Int32 × Mem} (hq1 : kd q1 = 2) (hf : f_X5_closedSetsFit M q1 = some r) : MW l yX5_closedSetsFit cX5_closedSetsFit 4 (some .boolean) rm_X5_closedSetsFit B D Y o [.ref (B + 26), .ref (B + q1)] M r.2 (some (.int r.1)) := by
  refine ofAt (L0 := [(0, .ref (B + 26)), (1, .ref (B + q1))]) (by decide +kernel) (Nat.le_of_ble_eq_true rfl) rfl (fun p e s m args below meth c C hr hk => ?_)
  dsimp only [f_X5_closedSetsFit] at hf
  refine A_aload_n C (pc := 0) 0 rfl dX5_closedSetsFit_0 ?_
  refine A_g5_2 C (pc := 1) kf_X5_24 dX5_closedSetsFit_1 ?_
  refine A_aload_n C (pc := 4) 1 rfl dX5_closedSetsFit_4 ?_
  obtain ⟨z5, h5, hf⟩ := bd_i hf
  refine A_callV1 C (pc := 5) (A := [.ref (B + q1)]) (rest := []) k_X5_138 ky_X4_count kv_X4_count (m_X4_count l B D Y o ((show kd 33 = 4 from rfl)) hq1 h5) (kR ((show kd 33 = 4 from rfl))).1 (ent4 ((show kd 33 = 4 from rfl))) rfl rfl rfl (Nat.le_of_ble_eq_true rfl) ⟨rfl, rfl, Nat.le_of_ble_eq_true rfl, Nat.le_of_ble_eq_true rfl⟩ ⟨Nat.zero_le _, Nat.zero_le _⟩ dX5_closedSetsFit_5 ?_
  refine A_pop C (pc := 8) rfl dX5_closedSetsFit_8 ?_
  refine A_iconst C (pc := 9) ic_0 dX5_closedSetsFit_9 ?_
  refine A_istore_n C (pc := 10) [(0, .ref (B + 26)), (1, .ref (B + q1)), (2, .int 0)] rfl (by decide) [1, 2, 0] rfl dX5_closedSetsFit_10 ?_
  exact w_X5_closedSetsFit_L11 C hr hk hq1 FU _  hf
set_option maxRecDepth 100000 in
theorem w_X5_sumsAreUndone_L2 {q1 : Nat} {r : Int32 × Mem} (C : Cx p s m args c cX5_sumsAreUndone 3 RX5 B D Y) (hr : meth.sig.returnType = (some .boolean)) (hk : meth.locks = false) (hq1 : kd q1 = 2) : ∀ (n : Nat) (x2 : Int32) (M : Mem), f_X5_sumsAreUndone_L2 q1 n (x2, M) = some r → At p l e rm_X5_sumsAreUndone s m args below meth c 3 0 0 (QQ below args s B D Y r.2 o (some (.int r.1))) B D Y o 2 M [(0, .ref (B + 26)), (1, .ref (B + q1)), (2, .int x2)] [] := by
  intro n
  induction n with
  | zero => intro x2 M hf; exact nomatch (show (none : Option (Int32 × Mem)) = some r from hf)
  | succ n hk2 =>
    intro x2 M hf
    replace hf : g_X5_sumsAreUndone_L2 q1 (f_X5_sumsAreUndone_L2 q1 n) (x2, M) = some r := hf
    dsimp only [g_X5_sumsAreUndone_L2] at hf
    refine A_iload_n C (pc := 2) 2 rfl dX5_sumsAreUndone_2 ?_
    refine A_aload_n C (pc := 3) 1 rfl dX5_sumsAreUndone_3 ?_
    refine A_g3_0 C (pc := 4) hq1 kf_X5_84 dX5_sumsAreUndone_4 ?_
    refine A_icmp_ge C (pc := 7) 48 (by decide) dX5_sumsAreUndone_7 hf (fun _ hf => ?_) (fun _ hf => ?_)
    · refine A_iconst C (pc := 48) ic_1 dX5_sumsAreUndone_48 ?_
      exact R_iM C (pc := 49) hr hk nz_1 dX5_sumsAreUndone_49 hf
    · refine A_aload_n C (pc := 10) 0 rfl dX5_sumsAreUndone_10 ?_
      refine A_g5_5 C (pc := 11) kf_X5_41 dX5_sumsAreUndone_11 ?_
      refine A_aload_n C (pc := 14) 1 rfl dX5_sumsAreUndone_14 ?_
      refine A_iload_n C (pc := 15) 2 rfl dX5_sumsAreUndone_15 ?_
      obtain ⟨z16, h16, hf⟩ := bd_i hf
      refine A_callV1 C (pc := 16) (A := [.ref (B + q1), .int x2]) (rest := []) k_X5_197 ky_X2_undoSums kv_X2_undoSums (m_X2_undoSums l B D Y o ((show kd 44 = 5 from rfl)) hq1 h16) (kN ((show kd 44 = 5 from rfl))).1 (ent5 ((show kd 44 = 5 from rfl))) rfl rfl rfl (Nat.le_of_ble_eq_true rfl) ⟨rfl, rfl, Nat.le_of_ble_eq_true rfl, Nat.le_of_ble_eq_true rfl⟩ ⟨Nat.zero_le _, Nat.zero_le _⟩ dX5_sumsAreUndone_16 ?_
      refine A_aload_n C (pc := 19) 1 rfl dX5_sumsAreUndone_19 ?_
      refine A_g3_2 C (pc := 20) hq1 kf_X5_200 dX5_sumsAreUndone_20 ?_
      refine A_iload_n C (pc := 23) 2 rfl dX5_sumsAreUndone_23 ?_
      obtain ⟨c24, hf⟩ := chk_i hf
      refine A_iald C (pc := 24) (iO2 hq1) c24 dX5_sumsAreUndone_24 ?_
      refine A_icmp_ne C (pc := 25) 40 (by decide) dX5_sumsAreUndone_25 hf (fun _ hf => ?_) (fun _ hf => ?_)
      · refine A_iconst C (pc := 40) ic_0 dX5_sumsAreUndone_40 ?_
        exact R_iM C (pc := 41) hr hk nz_0 dX5_sumsAreUndone_41 hf
      · refine A_aload_n C (pc := 28) 0 rfl dX5_sumsAreUndone_28 ?_
        refine A_g5_5 C (pc := 29) kf_X5_41 dX5_sumsAreUndone_29 ?_
        refine A_aload_n C (pc := 32) 1 rfl dX5_sumsAreUndone_32 ?_
        refine A_iload_n C (pc := 33) 2 rfl dX5_sumsAreUndone_33 ?_
        obtain ⟨z34, h34, hf⟩ := bd_i hf
        refine A_callV1 C (pc := 34) (A := [.ref (B + q1), .int x2]) (rest := []) k_X5_203 ky_X2_vanishFrom kv_X2_vanishFrom (m_X2_vanishFrom l B D Y o ((show kd 44 = 5 from rfl)) hq1 h34) (kN ((show kd 44 = 5 from rfl))).1 (ent5 ((show kd 44 = 5 from rfl))) rfl rfl rfl (Nat.le_of_ble_eq_true rfl) ⟨rfl, rfl, Nat.le_of_ble_eq_true rfl, Nat.le_of_ble_eq_true rfl⟩ ⟨Nat.zero_le _, Nat.zero_le _⟩ dX5_sumsAreUndone_34 ?_
        refine A_if_ne C (pc := 37) 42 (by decide) dX5_sumsAreUndone_37 hf (fun _ hf => ?_) (fun _ hf => ?_)
        · refine A_iinc C (pc := 42) (k0 := 2) [(0, .ref (B + 26)), (1, .ref (B + q1)), (2, .int (x2 + 1))] rfl ic_1 (by decide) [1, 2, 0] rfl dX5_sumsAreUndone_42 ?_
          refine A_goto C (pc := 45) 2 (by decide) dX5_sumsAreUndone_45 ?_
          exact hk2 _ _ hf
        · refine A_iconst C (pc := 40) ic_0 dX5_sumsAreUndone_40 ?_
          exact R_iM C (pc := 41) hr hk nz_0 dX5_sumsAreUndone_41 hf
set_option maxRecDepth 100000 in
theorem m_X5_sumsAreUndone (l : Launch) (B : Nat) (D : va_G) (Y : Nat → ClassId) (o : Ou) {M : Mem} {q1 : Nat} {r : Int32 × Mem} (hq1 : kd q1 = 2) (hf : f_X5_sumsAreUndone M q1 = some r) : MW l yX5_sumsAreUndone cX5_sumsAreUndone 3 (some .boolean) rm_X5_sumsAreUndone B D Y o [.ref (B + 26), .ref (B + q1)] M r.2 (some (.int r.1)) := by
  refine ofAt (L0 := [(0, .ref (B + 26)), (1, .ref (B + q1))]) (by decide +kernel) (Nat.le_of_ble_eq_true rfl) rfl (fun p e s m args below meth c C hr hk => ?_)
  dsimp only [f_X5_sumsAreUndone] at hf
  refine A_iconst C (pc := 0) ic_0 dX5_sumsAreUndone_0 ?_
  refine A_istore_n C (pc := 1) [(0, .ref (B + 26)), (1, .ref (B + q1)), (2, .int 0)] rfl (by decide) [1, 2, 0] rfl dX5_sumsAreUndone_1 ?_
  exact w_X5_sumsAreUndone_L2 C hr hk hq1 FU _ _  hf
set_option maxRecDepth 100000 in
theorem w_X5_sizesTurn_L96 {M : Mem} {r : Int32 × Mem} (C : Cx p s m args c cX5_sizesTurn 4 RX5 B D Y) (hr : meth.sig.returnType = (some .boolean)) (hk : meth.locks = false)  : ∀ (n : Nat) (x2 : Int32), f_X5_sizesTurn_L96 M n x2 = some r → At p l e rm_X5_sizesTurn s m args below meth c 4 0 0 (QQ below args s B D Y r.2 o (some (.int r.1))) B D Y o 96 M [(0, .ref (B + 26)), (2, .int x2)] [] := by
  intro n
  induction n with
  | zero => intro x2 hf; exact nomatch (show (none : Option (Int32 × Mem)) = some r from hf)
  | succ n hk96 =>
    intro x2 hf
    replace hf : g_X5_sizesTurn_L96 M (f_X5_sizesTurn_L96 M n) x2 = some r := hf
    dsimp only [g_X5_sizesTurn_L96] at hf
    refine A_iload_n C (pc := 96) 1 rfl dX5_sizesTurn_96 ?_
    refine A_bipush C (pc := 97) bc_9 dX5_sizesTurn_97 ?_
    refine A_icmp_gt C (pc := 99) 119 (by decide) dX5_sizesTurn_99 hf (fun _ hf => ?_) (fun _ hf => ?_)
    · refine A_iconst C (pc := 119) ic_1 dX5_sizesTurn_119 ?_
      exact R_iM C (pc := 120) hr hk nz_1 dX5_sizesTurn_120 hf
    · refine A_aload_n C (pc := 102) 0 rfl dX5_sizesTurn_102 ?_
      refine A_g5_6 C (pc := 103) kf_X5_45 dX5_sizesTurn_103 ?_
      refine A_iload_n C (pc := 106) 1 rfl dX5_sizesTurn_106 ?_
      obtain ⟨c107, hf⟩ := chk_i hf
      refine A_iald C (pc := 107) (show IA 46 10 from ⟨rfl, rfl⟩) c107 dX5_sizesTurn_107 ?_
      refine A_if_eq C (pc := 108) 113 (by decide) dX5_sizesTurn_108 hf (fun _ hf => ?_) (fun _ hf => ?_)
      · refine A_iinc C (pc := 113) (k0 := 1) [(0, .ref (B + 26)), (2, .int (x2 + 1))] rfl ic_1 (by decide) [1, 0] rfl dX5_sizesTurn_113 ?_
        refine A_goto C (pc := 116) 96 (by decide) dX5_sizesTurn_116 ?_
        exact hk96 _ hf
      · refine A_iconst C (pc := 111) ic_0 dX5_sizesTurn_111 ?_
        exact R_iM C (pc := 112) hr hk nz_0 dX5_sizesTurn_112 hf
set_option maxRecDepth 100000 in
theorem w_X5_sizesTurn_L61 {M : Mem} {q1 : Nat} {x2 : Int32} {x3 : Int32} {y0 : Int32} {y1 : Int32} {y2 : Int32} {p3 : Nat} {r : Int32 × Mem} (C : Cx p s m args c cX5_sizesTurn 4 RX5 B D Y) (hr : meth.sig.returnType = (some .boolean)) (hk : meth.locks = false) (hq1 : kd q1 = 2) (hp3 : IA p3 10) {k23 : (Int32 × Mem) → Option (Int32 × Mem)} (hk23 : ∀ (x2 : Int32) (M : Mem), k23 (x2, M) = some r → At p l e rm_X5_sizesTurn s m args below meth c 4 0 0 (QQ below args s B D Y r.2 o (some (.int r.1))) B D Y o 23 M [(0, .ref (B + 26)), (1, .ref (B + q1)), (2, .int x2)] []) (hf : f_X5_sizesTurn_L61 M q1 x2 x3 y0 y1 y2 p3 k23 = some r) : At p l e rm_X5_sizesTurn s m args below meth c 4 0 0 (QQ below args s B D Y r.2 o (some (.int r.1))) B D Y o 61 M [(0, .ref (B + 26)), (1, .ref (B + q1)), (2, .int x2), (3, .int x3)] [.int y0, .int y1, .int y2, .ref (B + p3)] := by
  dsimp only [f_X5_sizesTurn_L61] at hf
  refine A_iadd C (pc := 61) dX5_sizesTurn_61 ?_
  obtain ⟨c62, hf⟩ := chk_i hf
  obtain ⟨M62, e62, hf⟩ := bd_i hf
  refine A_iast C (pc := 62) hp3 c62 dX5_sizesTurn_62 ?_
  refine A_nmM e62 ?_
  refine A_aload_n C (pc := 63) 0 rfl dX5_sizesTurn_63 ?_
  refine A_g5_6 C (pc := 64) kf_X5_45 dX5_sizesTurn_64 ?_
  refine A_iload_n C (pc := 67) 3 rfl dX5_sizesTurn_67 ?_
  refine A_dup2 C (pc := 68) rfl rfl dX5_sizesTurn_68 ?_
  obtain ⟨c69, hf⟩ := chk_i hf
  refine A_iald C (pc := 69) (show IA 46 10 from ⟨rfl, rfl⟩) c69 dX5_sizesTurn_69 ?_
  refine A_aload_n C (pc := 70) 0 rfl dX5_sizesTurn_70 ?_
  refine A_g5_1 C (pc := 71) kf_X5_18 dX5_sizesTurn_71 ?_
  refine A_iload_n C (pc := 74) 2 rfl dX5_sizesTurn_74 ?_
  obtain ⟨z75, h75, hf⟩ := bd_i hf
  refine A_callV1 C (pc := 75) (A := [.int x2]) (rest := [.int (M62 46 x3.toNatClampNeg), .int x3, .ref (B + 46)]) k_X5_168 ky_X3_isClosedBelow kv_X3_isClosedBelow (m_X3_isClosedBelow l B D Y o ((show kd 30 = 2 from rfl)) h75) (kO ((show kd 30 = 2 from rfl))).1 (ent2 ((show kd 30 = 2 from rfl))) rfl rfl rfl (Nat.le_of_ble_eq_true rfl) ⟨rfl, rfl, Nat.le_of_ble_eq_true rfl, Nat.le_of_ble_eq_true rfl⟩ ⟨Nat.zero_le _, Nat.zero_le _⟩ dX5_sizesTurn_75 ?_
  refine A_if_eq C (pc := 78) 85 (by decide) dX5_sizesTurn_78 hf (fun _ hf => ?_) (fun _ hf => ?_)
  · refine A_iconst C (pc := 85) ic_0 dX5_sizesTurn_85 ?_
    refine A_isub C (pc := 86) dX5_sizesTurn_86 ?_
    obtain ⟨c87, hf⟩ := chk_i hf
    obtain ⟨M87, e87, hf⟩ := bd_i hf
    refine A_iast C (pc := 87) (show IA 46 10 from ⟨rfl, rfl⟩) c87 dX5_sizesTurn_87 ?_
    refine A_nmM e87 ?_
    refine A_iinc C (pc := 88) (k0 := 2) [(0, .ref (B + 26)), (1, .ref (B + q1)), (2, .int (x2 + 1))] rfl ic_1 (by decide) [1, 2, 0] rfl dX5_sizesTurn_88 ?_
    refine A_goto C (pc := 91) 23 (by decide) dX5_sizesTurn_91 ?_
    exact hk23 _ _ hf
  · refine A_iconst C (pc := 81) ic_1 dX5_sizesTurn_81 ?_
    refine A_goto C (pc := 82) 86 (by decide) dX5_sizesTurn_82 ?_
    refine A_isub C (pc := 86) dX5_sizesTurn_86 ?_
    obtain ⟨c87, hf⟩ := chk_i hf
    obtain ⟨M87, e87, hf⟩ := bd_i hf
    refine A_iast C (pc := 87) (show IA 46 10 from ⟨rfl, rfl⟩) c87 dX5_sizesTurn_87 ?_
    refine A_nmM e87 ?_
    refine A_iinc C (pc := 88) (k0 := 2) [(0, .ref (B + 26)), (1, .ref (B + q1)), (2, .int (x2 + 1))] rfl ic_1 (by decide) [1, 2, 0] rfl dX5_sizesTurn_88 ?_
    refine A_goto C (pc := 91) 23 (by decide) dX5_sizesTurn_91 ?_
    exact hk23 _ _ hf
set_option maxRecDepth 100000 in
theorem w_X5_sizesTurn_L23 {q1 : Nat} {r : Int32 × Mem} (C : Cx p s m args c cX5_sizesTurn 4 RX5 B D Y) (hr : meth.sig.returnType = (some .boolean)) (hk : meth.locks = false) (hq1 : kd q1 = 2) : ∀ (n : Nat) (x2 : Int32) (M : Mem), f_X5_sizesTurn_L23 q1 n (x2, M) = some r → At p l e rm_X5_sizesTurn s m args below meth c 4 0 0 (QQ below args s B D Y r.2 o (some (.int r.1))) B D Y o 23 M [(0, .ref (B + 26)), (1, .ref (B + q1)), (2, .int x2)] [] := by
  intro n
  induction n with
  | zero => intro x2 M hf; exact nomatch (show (none : Option (Int32 × Mem)) = some r from hf)
  | succ n hk23 =>
    intro x2 M hf
    replace hf : g_X5_sizesTurn_L23 q1 (f_X5_sizesTurn_L23 q1 n) (x2, M) = some r := hf
    dsimp only [g_X5_sizesTurn_L23] at hf
    refine A_iload_n C (pc := 23) 2 rfl dX5_sizesTurn_23 ?_
    refine A_aload_n C (pc := 24) 1 rfl dX5_sizesTurn_24 ?_
    obtain ⟨z25, h25, hf⟩ := bd_i hf
    refine A_callV1 C (pc := 25) (A := []) (rest := [.int x2]) k_X5_165 ky_X3_setLimit kv_X3_setLimit (m_X3_setLimit l B D Y o hq1 h25) (kO hq1).1 (ent2 hq1) rfl rfl rfl (Nat.le_of_ble_eq_true rfl) ⟨rfl, rfl, Nat.le_of_ble_eq_true rfl, Nat.le_of_ble_eq_true rfl⟩ ⟨Nat.zero_le _, Nat.zero_le _⟩ dX5_sizesTurn_25 ?_
    refine A_icmp_ge C (pc := 28) 94 (by decide) dX5_sizesTurn_28 hf (fun _ hf => ?_) (fun _ hf => ?_)
    · refine A_iconst C (pc := 94) ic_0 dX5_sizesTurn_94 ?_
      refine A_istore_n C (pc := 95) [(0, .ref (B + 26)), (2, .int 0)] rfl (by decide) [1, 0] rfl dX5_sizesTurn_95 ?_
      exact w_X5_sizesTurn_L96 C hr hk FU _  hf
    · refine A_iload_n C (pc := 31) 2 rfl dX5_sizesTurn_31 ?_
      obtain ⟨z32, h32, hf⟩ := bd_i hf
      refine A_callS1 C (pc := 32) (A := [.int x2]) (rest := []) k_X5_212 ky_J6_bitCount_0f7a4 ks_J6_bitCount_0f7a4 (m_J6_bitCount_0f7a4 l B D Y o  h32) rfl rfl (Nat.le_of_ble_eq_true rfl) ⟨rfl, rfl, Nat.le_of_ble_eq_true rfl, Nat.le_of_ble_eq_true rfl⟩ ⟨Nat.zero_le _, Nat.zero_le _⟩ dX5_sizesTurn_32 ?_
      refine A_istore_n C (pc := 35) [(0, .ref (B + 26)), (1, .ref (B + q1)), (2, .int x2), (3, .int z32)] rfl (by decide) [1, 2, 3, 0] rfl dX5_sizesTurn_35 ?_
      refine A_aload_n C (pc := 36) 0 rfl dX5_sizesTurn_36 ?_
      refine A_g5_6 C (pc := 37) kf_X5_45 dX5_sizesTurn_37 ?_
      refine A_aload_n C (pc := 40) 1 rfl dX5_sizesTurn_40 ?_
      refine A_g3_0 C (pc := 41) hq1 kf_X5_84 dX5_sizesTurn_41 ?_
      refine A_iload_n C (pc := 44) 3 rfl dX5_sizesTurn_44 ?_
      refine A_isub C (pc := 45) dX5_sizesTurn_45 ?_
      refine A_dup2 C (pc := 46) rfl rfl dX5_sizesTurn_46 ?_
      obtain ⟨c47, hf⟩ := chk_i hf
      refine A_iald C (pc := 47) (show IA 46 10 from ⟨rfl, rfl⟩) c47 dX5_sizesTurn_47 ?_
      refine A_aload_n C (pc := 48) 1 rfl dX5_sizesTurn_48 ?_
      refine A_iload_n C (pc := 49) 2 rfl dX5_sizesTurn_49 ?_
      obtain ⟨z50, h50, hf⟩ := bd_i hf
      refine A_callV1 C (pc := 50) (A := [.int x2]) (rest := [.int (M 46 ((M q1 0) - z32).toNatClampNeg), .int ((M q1 0) - z32), .ref (B + 46)]) k_X5_168 ky_X3_isClosedBelow kv_X3_isClosedBelow (m_X3_isClosedBelow l B D Y o hq1 h50) (kO hq1).1 (ent2 hq1) rfl rfl rfl (Nat.le_of_ble_eq_true rfl) ⟨rfl, rfl, Nat.le_of_ble_eq_true rfl, Nat.le_of_ble_eq_true rfl⟩ ⟨Nat.zero_le _, Nat.zero_le _⟩ dX5_sizesTurn_50 ?_
      refine A_if_eq C (pc := 53) 60 (by decide) dX5_sizesTurn_53 hf (fun _ hf => ?_) (fun _ hf => ?_)
      · refine A_iconst C (pc := 60) ic_0 dX5_sizesTurn_60 ?_
        exact w_X5_sizesTurn_L61 C hr hk hq1 (show IA 46 10 from ⟨rfl, rfl⟩) hk23 hf
      · refine A_iconst C (pc := 56) ic_1 dX5_sizesTurn_56 ?_
        refine A_goto C (pc := 57) 61 (by decide) dX5_sizesTurn_57 ?_
        exact w_X5_sizesTurn_L61 C hr hk hq1 (show IA 46 10 from ⟨rfl, rfl⟩) hk23 hf
set_option maxRecDepth 100000 in
theorem w_X5_sizesTurn_L2 {q1 : Nat} {r : Int32 × Mem} (C : Cx p s m args c cX5_sizesTurn 4 RX5 B D Y) (hr : meth.sig.returnType = (some .boolean)) (hk : meth.locks = false) (hq1 : kd q1 = 2) : ∀ (n : Nat) (x2 : Int32) (M : Mem), f_X5_sizesTurn_L2 q1 n (x2, M) = some r → At p l e rm_X5_sizesTurn s m args below meth c 4 0 0 (QQ below args s B D Y r.2 o (some (.int r.1))) B D Y o 2 M [(0, .ref (B + 26)), (1, .ref (B + q1)), (2, .int x2)] [] := by
  intro n
  induction n with
  | zero => intro x2 M hf; exact nomatch (show (none : Option (Int32 × Mem)) = some r from hf)
  | succ n hk2 =>
    intro x2 M hf
    replace hf : g_X5_sizesTurn_L2 q1 (f_X5_sizesTurn_L2 q1 n) (x2, M) = some r := hf
    dsimp only [g_X5_sizesTurn_L2] at hf
    refine A_iload_n C (pc := 2) 2 rfl dX5_sizesTurn_2 ?_
    refine A_bipush C (pc := 3) bc_9 dX5_sizesTurn_3 ?_
    refine A_icmp_gt C (pc := 5) 21 (by decide) dX5_sizesTurn_5 hf (fun _ hf => ?_) (fun _ hf => ?_)
    · refine A_iconst C (pc := 21) ic_0 dX5_sizesTurn_21 ?_
      refine A_istore_n C (pc := 22) [(0, .ref (B + 26)), (1, .ref (B + q1)), (2, .int 0)] rfl (by decide) [1, 2, 0] rfl dX5_sizesTurn_22 ?_
      exact w_X5_sizesTurn_L23 C hr hk hq1 FU _ _  hf
    · refine A_aload_n C (pc := 8) 0 rfl dX5_sizesTurn_8 ?_
      refine A_g5_6 C (pc := 9) kf_X5_45 dX5_sizesTurn_9 ?_
      refine A_iload_n C (pc := 12) 2 rfl dX5_sizesTurn_12 ?_
      refine A_iconst C (pc := 13) ic_0 dX5_sizesTurn_13 ?_
      obtain ⟨c14, hf⟩ := chk_i hf
      obtain ⟨M14, e14, hf⟩ := bd_i hf
      refine A_iast C (pc := 14) (show IA 46 10 from ⟨rfl, rfl⟩) c14 dX5_sizesTurn_14 ?_
      refine A_nmM e14 ?_
      refine A_iinc C (pc := 15) (k0 := 2) [(0, .ref (B + 26)), (1, .ref (B + q1)), (2, .int (x2 + 1))] rfl ic_1 (by decide) [1, 2, 0] rfl dX5_sizesTurn_15 ?_
      refine A_goto C (pc := 18) 2 (by decide) dX5_sizesTurn_18 ?_
      exact hk2 _ _ hf
set_option maxRecDepth 100000 in
theorem m_X5_sizesTurn (l : Launch) (B : Nat) (D : va_G) (Y : Nat → ClassId) (o : Ou) {M : Mem} {q1 : Nat} {r : Int32 × Mem} (hq1 : kd q1 = 2) (hf : f_X5_sizesTurn M q1 = some r) : MW l yX5_sizesTurn cX5_sizesTurn 4 (some .boolean) rm_X5_sizesTurn B D Y o [.ref (B + 26), .ref (B + q1)] M r.2 (some (.int r.1)) := by
  refine ofAt (L0 := [(0, .ref (B + 26)), (1, .ref (B + q1))]) (by decide +kernel) (Nat.le_of_ble_eq_true rfl) rfl (fun p e s m args below meth c C hr hk => ?_)
  dsimp only [f_X5_sizesTurn] at hf
  refine A_iconst C (pc := 0) ic_0 dX5_sizesTurn_0 ?_
  refine A_istore_n C (pc := 1) [(0, .ref (B + 26)), (1, .ref (B + q1)), (2, .int 0)] rfl (by decide) [1, 2, 0] rfl dX5_sizesTurn_1 ?_
  exact w_X5_sizesTurn_L2 C hr hk hq1 FU _ _  hf
set_option maxRecDepth 100000 in
theorem m_X5_turnsRound (l : Launch) (B : Nat) (D : va_G) (Y : Nat → ClassId) (o : Ou) {M : Mem} {q1 : Nat} {r : Int32 × Mem} (hq1 : kd q1 = 2) (hf : f_X5_turnsRound M q1 = some r) : MW l yX5_turnsRound cX5_turnsRound 2 (some .boolean) rm_X5_turnsRound B D Y o [.ref (B + 26), .ref (B + q1)] M r.2 (some (.int r.1)) := by
  refine ofAt (L0 := [(0, .ref (B + 26)), (1, .ref (B + q1))]) (by decide +kernel) (Nat.le_of_ble_eq_true rfl) rfl (fun p e s m args below meth c C hr hk => ?_)
  dsimp only [f_X5_turnsRound] at hf
  refine A_aload_n C (pc := 0) 0 rfl dX5_turnsRound_0 ?_
  refine A_g5_1 C (pc := 1) kf_X5_18 dX5_turnsRound_1 ?_
  refine A_aload_n C (pc := 4) 1 rfl dX5_turnsRound_4 ?_
  obtain ⟨z5, h5, hf⟩ := bd_i hf
  refine A_callV0 C (pc := 5) (A := [.ref (B + q1)]) (rest := []) k_X5_206 ky_X3_becomeTurned kv_X3_becomeTurned (m_X3_becomeTurned l B D Y o ((show kd 30 = 2 from rfl)) hq1 h5) (kO ((show kd 30 = 2 from rfl))).1 (ent2 ((show kd 30 = 2 from rfl))) rfl rfl rfl (Nat.le_of_ble_eq_true rfl) ⟨rfl, rfl, Nat.le_of_ble_eq_true rfl, Nat.le_of_ble_eq_true rfl⟩ ⟨Nat.zero_le _, Nat.zero_le _⟩ dX5_turnsRound_5 ?_
  refine A_aload_n C (pc := 8) 0 rfl dX5_turnsRound_8 ?_
  refine A_g5_0 C (pc := 9) kf_X5_12 dX5_turnsRound_9 ?_
  refine A_aload_n C (pc := 12) 0 rfl dX5_turnsRound_12 ?_
  refine A_g5_1 C (pc := 13) kf_X5_18 dX5_turnsRound_13 ?_
  obtain ⟨z16, h16, hf⟩ := bd_i hf
  refine A_callV0 C (pc := 16) (A := [.ref (B + 30)]) (rest := []) k_X5_206 ky_X3_becomeTurned kv_X3_becomeTurned (m_X3_becomeTurned l B D Y o ((show kd 27 = 2 from rfl)) ((show kd 30 = 2 from rfl)) h16) (kO ((show kd 27 = 2 from rfl))).1 (ent2 ((show kd 27 = 2 from rfl))) rfl rfl rfl (Nat.le_of_ble_eq_true rfl) ⟨rfl, rfl, Nat.le_of_ble_eq_true rfl, Nat.le_of_ble_eq_true rfl⟩ ⟨Nat.zero_le _, Nat.zero_le _⟩ dX5_turnsRound_16 ?_
  refine A_aload_n C (pc := 19) 0 rfl dX5_turnsRound_19 ?_
  refine A_g5_1 C (pc := 20) kf_X5_18 dX5_turnsRound_20 ?_
  obtain ⟨z23, h23, hf⟩ := bd_i hf
  refine A_callS1 C (pc := 23) (A := [.ref (B + 30)]) (rest := []) k_X5_49 ky_X5_isOrdered ks_X5_isOrdered (m_X5_isOrdered l B D Y o ((show kd 30 = 2 from rfl)) h23) rfl rfl (Nat.le_of_ble_eq_true rfl) ⟨rfl, rfl, Nat.le_of_ble_eq_true rfl, Nat.le_of_ble_eq_true rfl⟩ ⟨Nat.zero_le _, Nat.zero_le _⟩ dX5_turnsRound_23 ?_
  refine A_if_eq C (pc := 26) 113 (by decide) dX5_turnsRound_26 hf (fun _ hf => ?_) (fun _ hf => ?_)
  · refine A_iconst C (pc := 113) ic_0 dX5_turnsRound_113 ?_
    exact R_iM C (pc := 114) hr hk nz_0 dX5_turnsRound_114 hf
  · refine A_aload_n C (pc := 29) 0 rfl dX5_turnsRound_29 ?_
    refine A_g5_0 C (pc := 30) kf_X5_12 dX5_turnsRound_30 ?_
    refine A_aload_n C (pc := 33) 1 rfl dX5_turnsRound_33 ?_
    obtain ⟨z34, h34, hf⟩ := bd_i hf
    refine A_callV1 C (pc := 34) (A := [.ref (B + q1)]) (rest := []) k_X5_114 ky_X3_hasPairsOf kv_X3_hasPairsOf (m_X3_hasPairsOf l B D Y o ((show kd 27 = 2 from rfl)) hq1 h34) (kO ((show kd 27 = 2 from rfl))).1 (ent2 ((show kd 27 = 2 from rfl))) rfl rfl rfl (Nat.le_of_ble_eq_true rfl) ⟨rfl, rfl, Nat.le_of_ble_eq_true rfl, Nat.le_of_ble_eq_true rfl⟩ ⟨Nat.zero_le _, Nat.zero_le _⟩ dX5_turnsRound_34 ?_
    refine A_if_eq C (pc := 37) 113 (by decide) dX5_turnsRound_37 hf (fun _ hf => ?_) (fun _ hf => ?_)
    · refine A_iconst C (pc := 113) ic_0 dX5_turnsRound_113 ?_
      exact R_iM C (pc := 114) hr hk nz_0 dX5_turnsRound_114 hf
    · refine A_aload_n C (pc := 40) 0 rfl dX5_turnsRound_40 ?_
      refine A_g5_3 C (pc := 41) kf_X5_28 dX5_turnsRound_41 ?_
      refine A_aload_n C (pc := 44) 0 rfl dX5_turnsRound_44 ?_
      refine A_g5_1 C (pc := 45) kf_X5_18 dX5_turnsRound_45 ?_
      obtain ⟨z48, h48, hf⟩ := bd_i hf
      refine A_callV1 C (pc := 48) (A := [.ref (B + 30)]) (rest := []) k_X5_138 ky_X4_count kv_X4_count (m_X4_count l B D Y o ((show kd 37 = 4 from rfl)) ((show kd 30 = 2 from rfl)) h48) (kR ((show kd 37 = 4 from rfl))).1 (ent4 ((show kd 37 = 4 from rfl))) rfl rfl rfl (Nat.le_of_ble_eq_true rfl) ⟨rfl, rfl, Nat.le_of_ble_eq_true rfl, Nat.le_of_ble_eq_true rfl⟩ ⟨Nat.zero_le _, Nat.zero_le _⟩ dX5_turnsRound_48 ?_
      refine A_aload_n C (pc := 51) 0 rfl dX5_turnsRound_51 ?_
      refine A_g5_2 C (pc := 52) kf_X5_24 dX5_turnsRound_52 ?_
      refine A_aload_n C (pc := 55) 1 rfl dX5_turnsRound_55 ?_
      obtain ⟨z56, h56, hf⟩ := bd_i hf
      refine A_callV1 C (pc := 56) (A := [.ref (B + q1)]) (rest := [.int z48.1]) k_X5_138 ky_X4_count kv_X4_count (m_X4_count l B D Y o ((show kd 33 = 4 from rfl)) hq1 h56) (kR ((show kd 33 = 4 from rfl))).1 (ent4 ((show kd 33 = 4 from rfl))) rfl rfl rfl (Nat.le_of_ble_eq_true rfl) ⟨rfl, rfl, Nat.le_of_ble_eq_true rfl, Nat.le_of_ble_eq_true rfl⟩ ⟨Nat.zero_le _, Nat.zero_le _⟩ dX5_turnsRound_56 ?_
      refine A_icmp_ne C (pc := 59) 113 (by decide) dX5_turnsRound_59 hf (fun _ hf => ?_) (fun _ hf => ?_)
      · refine A_iconst C (pc := 113) ic_0 dX5_turnsRound_113 ?_
        exact R_iM C (pc := 114) hr hk nz_0 dX5_turnsRound_114 hf
      · refine A_aload_n C (pc := 62) 0 rfl dX5_turnsRound_62 ?_
        refine A_g5_1 C (pc := 63) kf_X5_18 dX5_turnsRound_63 ?_
        refine A_aload_n C (pc := 66) 0 rfl dX5_turnsRound_66 ?_
        refine A_g5_1 C (pc := 67) kf_X5_18 dX5_turnsRound_67 ?_
        obtain ⟨z70, h70, hf⟩ := bd_i hf
        refine A_callV1 C (pc := 70) (A := []) (rest := [.ref (B + 30)]) k_X5_124 ky_X3_all kv_X3_all (m_X3_all l B D Y o ((show kd 30 = 2 from rfl)) h70) (kO ((show kd 30 = 2 from rfl))).1 (ent2 ((show kd 30 = 2 from rfl))) rfl rfl rfl (Nat.le_of_ble_eq_true rfl) ⟨rfl, rfl, Nat.le_of_ble_eq_true rfl, Nat.le_of_ble_eq_true rfl⟩ ⟨Nat.zero_le _, Nat.zero_le _⟩ dX5_turnsRound_70 ?_
        obtain ⟨z73, h73, hf⟩ := bd_i hf
        refine A_callS1 C (pc := 73) (A := [.ref (B + 30), .int z70]) (rest := []) k_X5_161 ky_X0_longestWithin ks_X0_longestWithin (m_X0_longestWithin l B D Y o ((show kd 30 = 2 from rfl)) h73) rfl rfl (Nat.le_of_ble_eq_true rfl) ⟨rfl, rfl, Nat.le_of_ble_eq_true rfl, Nat.le_of_ble_eq_true rfl⟩ ⟨Nat.zero_le _, Nat.zero_le _⟩ dX5_turnsRound_73 ?_
        refine A_aload_n C (pc := 76) 1 rfl dX5_turnsRound_76 ?_
        refine A_aload_n C (pc := 77) 1 rfl dX5_turnsRound_77 ?_
        obtain ⟨z78, h78, hf⟩ := bd_i hf
        refine A_callV1 C (pc := 78) (A := []) (rest := [.ref (B + q1), .int z73]) k_X5_124 ky_X3_all kv_X3_all (m_X3_all l B D Y o hq1 h78) (kO hq1).1 (ent2 hq1) rfl rfl rfl (Nat.le_of_ble_eq_true rfl) ⟨rfl, rfl, Nat.le_of_ble_eq_true rfl, Nat.le_of_ble_eq_true rfl⟩ ⟨Nat.zero_le _, Nat.zero_le _⟩ dX5_turnsRound_78 ?_
        obtain ⟨z81, h81, hf⟩ := bd_i hf
        refine A_callS1 C (pc := 81) (A := [.ref (B + q1), .int z78]) (rest := [.int z73]) k_X5_161 ky_X0_longestWithin ks_X0_longestWithin (m_X0_longestWithin l B D Y o hq1 h81) rfl rfl (Nat.le_of_ble_eq_true rfl) ⟨rfl, rfl, Nat.le_of_ble_eq_true rfl, Nat.le_of_ble_eq_true rfl⟩ ⟨Nat.zero_le _, Nat.zero_le _⟩ dX5_turnsRound_81 ?_
        refine A_icmp_ne C (pc := 84) 113 (by decide) dX5_turnsRound_84 hf (fun _ hf => ?_) (fun _ hf => ?_)
        · refine A_iconst C (pc := 113) ic_0 dX5_turnsRound_113 ?_
          exact R_iM C (pc := 114) hr hk nz_0 dX5_turnsRound_114 hf
        · refine A_aload_n C (pc := 87) 0 rfl dX5_turnsRound_87 ?_
          refine A_g5_1 C (pc := 88) kf_X5_18 dX5_turnsRound_88 ?_
          obtain ⟨z91, h91, hf⟩ := bd_i hf
          refine A_callS1 C (pc := 91) (A := [.ref (B + 30)]) (rest := []) k_X5_155 ky_X0_mostApart ks_X0_mostApart (m_X0_mostApart l B D Y o ((show kd 30 = 2 from rfl)) h91) rfl rfl (Nat.le_of_ble_eq_true rfl) ⟨rfl, rfl, Nat.le_of_ble_eq_true rfl, Nat.le_of_ble_eq_true rfl⟩ ⟨Nat.zero_le _, Nat.zero_le _⟩ dX5_turnsRound_91 ?_
          refine A_aload_n C (pc := 94) 1 rfl dX5_turnsRound_94 ?_
          obtain ⟨z95, h95, hf⟩ := bd_i hf
          refine A_callS1 C (pc := 95) (A := [.ref (B + q1)]) (rest := [.int z91]) k_X5_155 ky_X0_mostApart ks_X0_mostApart (m_X0_mostApart l B D Y o hq1 h95) rfl rfl (Nat.le_of_ble_eq_true rfl) ⟨rfl, rfl, Nat.le_of_ble_eq_true rfl, Nat.le_of_ble_eq_true rfl⟩ ⟨Nat.zero_le _, Nat.zero_le _⟩ dX5_turnsRound_95 ?_
          refine A_icmp_ne C (pc := 98) 113 (by decide) dX5_turnsRound_98 hf (fun _ hf => ?_) (fun _ hf => ?_)
          · refine A_iconst C (pc := 113) ic_0 dX5_turnsRound_113 ?_
            exact R_iM C (pc := 114) hr hk nz_0 dX5_turnsRound_114 hf
          · refine A_aload_n C (pc := 101) 0 rfl dX5_turnsRound_101 ?_
            refine A_aload_n C (pc := 102) 1 rfl dX5_turnsRound_102 ?_
            obtain ⟨z103, h103, hf⟩ := bd_i hf
            refine A_callV1 C (pc := 103) (A := [.ref (B + q1)]) (rest := []) k_X5_209 ky_X5_sizesTurn kv_X5_sizesTurn (m_X5_sizesTurn l B D Y o hq1 h103) (by decide) rfl rfl rfl rfl (Nat.le_of_ble_eq_true rfl) ⟨rfl, rfl, Nat.le_of_ble_eq_true rfl, Nat.le_of_ble_eq_true rfl⟩ ⟨Nat.zero_le _, Nat.zero_le _⟩ dX5_turnsRound_103 ?_
            refine A_if_eq C (pc := 106) 113 (by decide) dX5_turnsRound_106 hf (fun _ hf => ?_) (fun _ hf => ?_)
            · refine A_iconst C (pc := 113) ic_0 dX5_turnsRound_113 ?_
              exact R_iM C (pc := 114) hr hk nz_0 dX5_turnsRound_114 hf
            · refine A_iconst C (pc := 109) ic_1 dX5_turnsRound_109 ?_
              refine A_goto C (pc := 110) 114 (by decide) dX5_turnsRound_110 ?_
              exact R_iM C (pc := 114) hr hk nz_1 dX5_turnsRound_114 hf
set_option maxRecDepth 100000 in
theorem m_X5_holdsFor (l : Launch) (B : Nat) (D : va_G) (Y : Nat → ClassId) (o : Ou) {M : Mem} {q1 : Nat} {r : Int32 × Mem} (hq1 : kd q1 = 2) (hf : f_X5_holdsFor M q1 = some r) : MW l yX5_holdsFor cX5_holdsFor 2 (some .boolean) rm_X5_holdsFor B D Y o [.ref (B + 26), .ref (B + q1)] M r.2 (some (.int r.1)) := by
  refine ofAt (L0 := [(0, .ref (B + 26)), (1, .ref (B + q1))]) (by decide +kernel) (Nat.le_of_ble_eq_true rfl) rfl (fun p e s m args below meth c C hr hk => ?_)
  dsimp only [f_X5_holdsFor] at hf
  refine A_aload_n C (pc := 0) 1 rfl dX5_holdsFor_0 ?_
  obtain ⟨z1, h1, hf⟩ := bd_i hf
  refine A_callS1 C (pc := 1) (A := [.ref (B + q1)]) (rest := []) k_X5_49 ky_X5_isOrdered ks_X5_isOrdered (m_X5_isOrdered l B D Y o hq1 h1) rfl rfl (Nat.le_of_ble_eq_true rfl) ⟨rfl, rfl, Nat.le_of_ble_eq_true rfl, Nat.le_of_ble_eq_true rfl⟩ ⟨Nat.zero_le _, Nat.zero_le _⟩ dX5_holdsFor_1 ?_
  refine A_if_eq C (pc := 4) 75 (by decide) dX5_holdsFor_4 hf (fun _ hf => ?_) (fun _ hf => ?_)
  · refine A_iconst C (pc := 75) ic_0 dX5_holdsFor_75 ?_
    exact R_iM C (pc := 76) hr hk nz_0 dX5_holdsFor_76 hf
  · refine A_aload_n C (pc := 7) 0 rfl dX5_holdsFor_7 ?_
    refine A_aload_n C (pc := 8) 1 rfl dX5_holdsFor_8 ?_
    obtain ⟨z9, h9, hf⟩ := bd_i hf
    refine A_callV1 C (pc := 9) (A := [.ref (B + q1)]) (rest := []) k_X5_53 ky_X5_linksLeast kv_X5_linksLeast (m_X5_linksLeast l B D Y o hq1 h9) (by decide) rfl rfl rfl rfl (Nat.le_of_ble_eq_true rfl) ⟨rfl, rfl, Nat.le_of_ble_eq_true rfl, Nat.le_of_ble_eq_true rfl⟩ ⟨Nat.zero_le _, Nat.zero_le _⟩ dX5_holdsFor_9 ?_
    refine A_if_eq C (pc := 12) 75 (by decide) dX5_holdsFor_12 hf (fun _ hf => ?_) (fun _ hf => ?_)
    · refine A_iconst C (pc := 75) ic_0 dX5_holdsFor_75 ?_
      exact R_iM C (pc := 76) hr hk nz_0 dX5_holdsFor_76 hf
    · refine A_aload_n C (pc := 15) 0 rfl dX5_holdsFor_15 ?_
      refine A_aload_n C (pc := 16) 1 rfl dX5_holdsFor_16 ?_
      obtain ⟨z17, h17, hf⟩ := bd_i hf
      refine A_callV1 C (pc := 17) (A := [.ref (B + q1)]) (rest := []) k_X5_56 ky_X5_looseComesBack kv_X5_looseComesBack (m_X5_looseComesBack l B D Y o hq1 h17) (by decide) rfl rfl rfl rfl (Nat.le_of_ble_eq_true rfl) ⟨rfl, rfl, Nat.le_of_ble_eq_true rfl, Nat.le_of_ble_eq_true rfl⟩ ⟨Nat.zero_le _, Nat.zero_le _⟩ dX5_holdsFor_17 ?_
      refine A_if_eq C (pc := 20) 75 (by decide) dX5_holdsFor_20 hf (fun _ hf => ?_) (fun _ hf => ?_)
      · refine A_iconst C (pc := 75) ic_0 dX5_holdsFor_75 ?_
        exact R_iM C (pc := 76) hr hk nz_0 dX5_holdsFor_76 hf
      · refine A_aload_n C (pc := 23) 0 rfl dX5_holdsFor_23 ?_
        refine A_aload_n C (pc := 24) 1 rfl dX5_holdsFor_24 ?_
        obtain ⟨z25, h25, hf⟩ := bd_i hf
        refine A_callV1 C (pc := 25) (A := [.ref (B + q1)]) (rest := []) k_X5_59 ky_X5_growsByGreatest kv_X5_growsByGreatest (m_X5_growsByGreatest l B D Y o hq1 h25) (by decide) rfl rfl rfl rfl (Nat.le_of_ble_eq_true rfl) ⟨rfl, rfl, Nat.le_of_ble_eq_true rfl, Nat.le_of_ble_eq_true rfl⟩ ⟨Nat.zero_le _, Nat.zero_le _⟩ dX5_holdsFor_25 ?_
        refine A_if_eq C (pc := 28) 75 (by decide) dX5_holdsFor_28 hf (fun _ hf => ?_) (fun _ hf => ?_)
        · refine A_iconst C (pc := 75) ic_0 dX5_holdsFor_75 ?_
          exact R_iM C (pc := 76) hr hk nz_0 dX5_holdsFor_76 hf
        · refine A_aload_n C (pc := 31) 0 rfl dX5_holdsFor_31 ?_
          refine A_aload_n C (pc := 32) 1 rfl dX5_holdsFor_32 ?_
          obtain ⟨z33, h33, hf⟩ := bd_i hf
          refine A_callV1 C (pc := 33) (A := [.ref (B + q1)]) (rest := []) k_X5_62 ky_X5_rowsTellPairs kv_X5_rowsTellPairs (m_X5_rowsTellPairs l B D Y o hq1 h33) (by decide) rfl rfl rfl rfl (Nat.le_of_ble_eq_true rfl) ⟨rfl, rfl, Nat.le_of_ble_eq_true rfl, Nat.le_of_ble_eq_true rfl⟩ ⟨Nat.zero_le _, Nat.zero_le _⟩ dX5_holdsFor_33 ?_
          refine A_if_eq C (pc := 36) 75 (by decide) dX5_holdsFor_36 hf (fun _ hf => ?_) (fun _ hf => ?_)
          · refine A_iconst C (pc := 75) ic_0 dX5_holdsFor_75 ?_
            exact R_iM C (pc := 76) hr hk nz_0 dX5_holdsFor_76 hf
          · refine A_aload_n C (pc := 39) 0 rfl dX5_holdsFor_39 ?_
            refine A_aload_n C (pc := 40) 1 rfl dX5_holdsFor_40 ?_
            obtain ⟨z41, h41, hf⟩ := bd_i hf
            refine A_callV1 C (pc := 41) (A := [.ref (B + q1)]) (rest := []) k_X5_65 ky_X5_coversFit kv_X5_coversFit (m_X5_coversFit l B D Y o hq1 h41) (by decide) rfl rfl rfl rfl (Nat.le_of_ble_eq_true rfl) ⟨rfl, rfl, Nat.le_of_ble_eq_true rfl, Nat.le_of_ble_eq_true rfl⟩ ⟨Nat.zero_le _, Nat.zero_le _⟩ dX5_holdsFor_41 ?_
            refine A_if_eq C (pc := 44) 75 (by decide) dX5_holdsFor_44 hf (fun _ hf => ?_) (fun _ hf => ?_)
            · refine A_iconst C (pc := 75) ic_0 dX5_holdsFor_75 ?_
              exact R_iM C (pc := 76) hr hk nz_0 dX5_holdsFor_76 hf
            · refine A_aload_n C (pc := 47) 0 rfl dX5_holdsFor_47 ?_
              refine A_aload_n C (pc := 48) 1 rfl dX5_holdsFor_48 ?_
              obtain ⟨z49, h49, hf⟩ := bd_i hf
              refine A_callV1 C (pc := 49) (A := [.ref (B + q1)]) (rest := []) k_X5_68 ky_X5_closedSetsFit kv_X5_closedSetsFit (m_X5_closedSetsFit l B D Y o hq1 h49) (by decide) rfl rfl rfl rfl (Nat.le_of_ble_eq_true rfl) ⟨rfl, rfl, Nat.le_of_ble_eq_true rfl, Nat.le_of_ble_eq_true rfl⟩ ⟨Nat.zero_le _, Nat.zero_le _⟩ dX5_holdsFor_49 ?_
              refine A_if_eq C (pc := 52) 75 (by decide) dX5_holdsFor_52 hf (fun _ hf => ?_) (fun _ hf => ?_)
              · refine A_iconst C (pc := 75) ic_0 dX5_holdsFor_75 ?_
                exact R_iM C (pc := 76) hr hk nz_0 dX5_holdsFor_76 hf
              · refine A_aload_n C (pc := 55) 0 rfl dX5_holdsFor_55 ?_
                refine A_aload_n C (pc := 56) 1 rfl dX5_holdsFor_56 ?_
                obtain ⟨z57, h57, hf⟩ := bd_i hf
                refine A_callV1 C (pc := 57) (A := [.ref (B + q1)]) (rest := []) k_X5_71 ky_X5_sumsAreUndone kv_X5_sumsAreUndone (m_X5_sumsAreUndone l B D Y o hq1 h57) (by decide) rfl rfl rfl rfl (Nat.le_of_ble_eq_true rfl) ⟨rfl, rfl, Nat.le_of_ble_eq_true rfl, Nat.le_of_ble_eq_true rfl⟩ ⟨Nat.zero_le _, Nat.zero_le _⟩ dX5_holdsFor_57 ?_
                refine A_if_eq C (pc := 60) 75 (by decide) dX5_holdsFor_60 hf (fun _ hf => ?_) (fun _ hf => ?_)
                · refine A_iconst C (pc := 75) ic_0 dX5_holdsFor_75 ?_
                  exact R_iM C (pc := 76) hr hk nz_0 dX5_holdsFor_76 hf
                · refine A_aload_n C (pc := 63) 0 rfl dX5_holdsFor_63 ?_
                  refine A_aload_n C (pc := 64) 1 rfl dX5_holdsFor_64 ?_
                  obtain ⟨z65, h65, hf⟩ := bd_i hf
                  refine A_callV1 C (pc := 65) (A := [.ref (B + q1)]) (rest := []) k_X5_74 ky_X5_turnsRound kv_X5_turnsRound (m_X5_turnsRound l B D Y o hq1 h65) (by decide) rfl rfl rfl rfl (Nat.le_of_ble_eq_true rfl) ⟨rfl, rfl, Nat.le_of_ble_eq_true rfl, Nat.le_of_ble_eq_true rfl⟩ ⟨Nat.zero_le _, Nat.zero_le _⟩ dX5_holdsFor_65 ?_
                  refine A_if_eq C (pc := 68) 75 (by decide) dX5_holdsFor_68 hf (fun _ hf => ?_) (fun _ hf => ?_)
                  · refine A_iconst C (pc := 75) ic_0 dX5_holdsFor_75 ?_
                    exact R_iM C (pc := 76) hr hk nz_0 dX5_holdsFor_76 hf
                  · refine A_iconst C (pc := 71) ic_1 dX5_holdsFor_71 ?_
                    refine A_goto C (pc := 72) 76 (by decide) dX5_holdsFor_72 ?_
                    exact R_iM C (pc := 76) hr hk nz_1 dX5_holdsFor_76 hf
set_option maxRecDepth 100000 in
theorem w_X5_waysToChoose_L4 {M0 : Mem} {x0 : Int32} {x1 : Int32} {r : Int32} (C : Cx p s m args c cX5_waysToChoose 4 RX5 B D Y) (hr : meth.sig.returnType = (some .int)) (hk : meth.locks = false)  : ∀ (n : Nat) (x2 : Int32) (x3 : Int32), f_X5_waysToChoose_L4 x0 x1 n (x2, x3) = some r → At p l e rm_X5_waysToChoose s m args below meth c 4 0 0 (QQ below args s B D Y M0 o (some (.int r))) B D Y o 4 M0 [(0, .int x0), (1, .int x1), (2, .int x2), (3, .int x3)] [] := by
  intro n
  induction n with
  | zero => intro x2 x3 hf; exact nomatch (show (none : Option Int32) = some r from hf)
  | succ n hk4 =>
    intro x2 x3 hf
    replace hf : g_X5_waysToChoose_L4 x0 x1 (f_X5_waysToChoose_L4 x0 x1 n) (x2, x3) = some r := hf
    dsimp only [g_X5_waysToChoose_L4] at hf
    refine A_iload_n C (pc := 4) 3 rfl dX5_waysToChoose_4 ?_
    refine A_iload_n C (pc := 5) 1 rfl dX5_waysToChoose_5 ?_
    refine A_icmp_gt C (pc := 6) 23 (by decide) dX5_waysToChoose_6 hf (fun _ hf => ?_) (fun _ hf => ?_)
    · refine A_iload_n C (pc := 23) 2 rfl dX5_waysToChoose_23 ?_
      exact R_iP C (pc := 24) hr hk rfl dX5_waysToChoose_24 hf
    · refine A_iload_n C (pc := 9) 2 rfl dX5_waysToChoose_9 ?_
      refine A_iload_n C (pc := 10) 0 rfl dX5_waysToChoose_10 ?_
      refine A_iload_n C (pc := 11) 3 rfl dX5_waysToChoose_11 ?_
      refine A_iadd C (pc := 12) dX5_waysToChoose_12 ?_
      refine A_imul C (pc := 13) dX5_waysToChoose_13 ?_
      refine A_iload_n C (pc := 14) 3 rfl dX5_waysToChoose_14 ?_
      obtain ⟨c15, hf⟩ := chk_i hf
      refine A_idiv C (pc := 15) (nz_i c15) dX5_waysToChoose_15 ?_
      obtain ⟨v16, e16, hf⟩ := bd_i hf
      refine A_nmI e16 ?_
      refine A_istore_n C (pc := 16) [(0, .int x0), (1, .int x1), (2, .int v16), (3, .int x3)] rfl (by decide) [1, 2, 0, 3] rfl dX5_waysToChoose_16 ?_
      refine A_iinc C (pc := 17) (k0 := 3) [(0, .int x0), (1, .int x1), (2, .int v16), (3, .int (x3 + 1))] rfl ic_1 (by decide) [1, 2, 3, 0] rfl dX5_waysToChoose_17 ?_
      refine A_goto C (pc := 20) 4 (by decide) dX5_waysToChoose_20 ?_
      exact hk4 _ _ hf
set_option maxRecDepth 100000 in
theorem m_X5_waysToChoose (l : Launch) (B : Nat) (D : va_G) (Y : Nat → ClassId) (o : Ou) {M0 : Mem} {x0 : Int32} {x1 : Int32} {r : Int32}  (hf : f_X5_waysToChoose x0 x1 = some r) : MW l yX5_waysToChoose cX5_waysToChoose 4 (some .int) rm_X5_waysToChoose B D Y o [.int x0, .int x1] M0 M0 (some (.int r)) := by
  refine ofAt (L0 := [(0, .int x0), (1, .int x1)]) (by decide +kernel) (Nat.le_of_ble_eq_true rfl) rfl (fun p e s m args below meth c C hr hk => ?_)
  dsimp only [f_X5_waysToChoose] at hf
  refine A_iconst C (pc := 0) ic_1 dX5_waysToChoose_0 ?_
  refine A_istore_n C (pc := 1) [(0, .int x0), (1, .int x1), (2, .int 1)] rfl (by decide) [1, 2, 0] rfl dX5_waysToChoose_1 ?_
  refine A_iconst C (pc := 2) ic_1 dX5_waysToChoose_2 ?_
  refine A_istore_n C (pc := 3) [(0, .int x0), (1, .int x1), (2, .int 1), (3, .int 1)] rfl (by decide) [1, 2, 3, 0] rfl dX5_waysToChoose_3 ?_
  exact w_X5_waysToChoose_L4 C hr hk FU _ _  hf
set_option maxRecDepth 100000 in
theorem m_X5_longestOf (l : Launch) (B : Nat) (D : va_G) (Y : Nat → ClassId) (o : Ou) {M : Mem} {q0 : Nat} {r : Int32} (hq0 : kd q0 = 2) (hf : f_X5_longestOf M q0 = some r) : MW l yX5_longestOf cX5_longestOf 1 (some .int) rm_X5_longestOf B D Y o [.ref (B + q0)] M M (some (.int r)) := by
  refine ofAt (L0 := [(0, .ref (B + q0))]) (by decide +kernel) (Nat.le_of_ble_eq_true rfl) rfl (fun p e s m args below meth c C hr hk => ?_)
  dsimp only [f_X5_longestOf] at hf
  refine A_aload_n C (pc := 0) 0 rfl dX5_longestOf_0 ?_
  refine A_aload_n C (pc := 1) 0 rfl dX5_longestOf_1 ?_
  obtain ⟨z2, h2, hf⟩ := bd_i hf
  refine A_callV1 C (pc := 2) (A := []) (rest := [.ref (B + q0)]) k_X5_124 ky_X3_all kv_X3_all (m_X3_all l B D Y o hq0 h2) (kO hq0).1 (ent2 hq0) rfl rfl rfl (Nat.le_of_ble_eq_true rfl) ⟨rfl, rfl, Nat.le_of_ble_eq_true rfl, Nat.le_of_ble_eq_true rfl⟩ ⟨Nat.zero_le _, Nat.zero_le _⟩ dX5_longestOf_2 ?_
  obtain ⟨z5, h5, hf⟩ := bd_i hf
  refine A_callS1 C (pc := 5) (A := [.ref (B + q0), .int z2]) (rest := []) k_X5_161 ky_X0_longestWithin ks_X0_longestWithin (m_X0_longestWithin l B D Y o hq0 h5) rfl rfl (Nat.le_of_ble_eq_true rfl) ⟨rfl, rfl, Nat.le_of_ble_eq_true rfl, Nat.le_of_ble_eq_true rfl⟩ ⟨Nat.zero_le _, Nat.zero_le _⟩ dX5_longestOf_5 ?_
  exact R_iP C (pc := 8) hr hk rfl dX5_longestOf_8 hf
set_option maxRecDepth 100000 in
theorem m_X5_besideFits (l : Launch) (B : Nat) (D : va_G) (Y : Nat → ClassId) (o : Ou) {M : Mem} {q1 : Nat} {q2 : Nat} {r : Int32 × Mem} (hq1 : kd q1 = 2) (hq2 : kd q2 = 2) (hf : f_X5_besideFits M q1 q2 = some r) : MW l yX5_besideFits cX5_besideFits 4 (some .boolean) rm_X5_besideFits B D Y o [.ref (B + 26), .ref (B + q1), .ref (B + q2)] M r.2 (some (.int r.1)) := by
  refine ofAt (L0 := [(0, .ref (B + 26)), (1, .ref (B + q1)), (2, .ref (B + q2))]) (by decide +kernel) (Nat.le_of_ble_eq_true rfl) rfl (fun p e s m args below meth c C hr hk => ?_)
  dsimp only [f_X5_besideFits] at hf
  refine A_aload_n C (pc := 0) 0 rfl dX5_besideFits_0 ?_
  refine A_g5_0 C (pc := 1) kf_X5_12 dX5_besideFits_1 ?_
  refine A_aload_n C (pc := 4) 1 rfl dX5_besideFits_4 ?_
  refine A_aload_n C (pc := 5) 2 rfl dX5_besideFits_5 ?_
  refine A_iconst C (pc := 6) ic_0 dX5_besideFits_6 ?_
  obtain ⟨z7, h7, hf⟩ := bd_i hf
  refine A_callV0 C (pc := 7) (A := [.ref (B + q1), .ref (B + q2), .int 0]) (rest := []) k_X5_217 ky_X3_becomeJoined kv_X3_becomeJoined (m_X3_becomeJoined l B D Y o ((show kd 27 = 2 from rfl)) hq1 hq2 h7) (kO ((show kd 27 = 2 from rfl))).1 (ent2 ((show kd 27 = 2 from rfl))) rfl rfl rfl (Nat.le_of_ble_eq_true rfl) ⟨rfl, rfl, Nat.le_of_ble_eq_true rfl, Nat.le_of_ble_eq_true rfl⟩ ⟨Nat.zero_le _, Nat.zero_le _⟩ dX5_besideFits_7 ?_
  refine A_aload_n C (pc := 10) 1 rfl dX5_besideFits_10 ?_
  refine A_g3_0 C (pc := 11) hq1 kf_X5_84 dX5_besideFits_11 ?_
  refine A_aload_n C (pc := 14) 2 rfl dX5_besideFits_14 ?_
  refine A_g3_0 C (pc := 15) hq2 kf_X5_84 dX5_besideFits_15 ?_
  obtain ⟨z18, h18, hf⟩ := bd_i hf
  refine A_callS1 C (pc := 18) (A := [.int (z7 q1 0), .int (z7 q2 0)]) (rest := []) k_X5_221 ky_X5_waysToChoose ks_X5_waysToChoose (m_X5_waysToChoose l B D Y o  h18) rfl rfl (Nat.le_of_ble_eq_true rfl) ⟨rfl, rfl, Nat.le_of_ble_eq_true rfl, Nat.le_of_ble_eq_true rfl⟩ ⟨Nat.zero_le _, Nat.zero_le _⟩ dX5_besideFits_18 ?_
  refine A_istore_n C (pc := 21) [(0, .ref (B + 26)), (1, .ref (B + q1)), (2, .ref (B + q2)), (3, .int z18)] rfl (by decide) [1, 2, 3, 0] rfl dX5_besideFits_21 ?_
  refine A_aload_n C (pc := 22) 0 rfl dX5_besideFits_22 ?_
  refine A_g5_3 C (pc := 23) kf_X5_28 dX5_besideFits_23 ?_
  refine A_aload_n C (pc := 26) 0 rfl dX5_besideFits_26 ?_
  refine A_g5_0 C (pc := 27) kf_X5_12 dX5_besideFits_27 ?_
  obtain ⟨z30, h30, hf⟩ := bd_i hf
  refine A_callV1 C (pc := 30) (A := [.ref (B + 27)]) (rest := []) k_X5_138 ky_X4_count kv_X4_count (m_X4_count l B D Y o ((show kd 37 = 4 from rfl)) ((show kd 27 = 2 from rfl)) h30) (kR ((show kd 37 = 4 from rfl))).1 (ent4 ((show kd 37 = 4 from rfl))) rfl rfl rfl (Nat.le_of_ble_eq_true rfl) ⟨rfl, rfl, Nat.le_of_ble_eq_true rfl, Nat.le_of_ble_eq_true rfl⟩ ⟨Nat.zero_le _, Nat.zero_le _⟩ dX5_besideFits_30 ?_
  refine A_aload_n C (pc := 33) 0 rfl dX5_besideFits_33 ?_
  refine A_g5_2 C (pc := 34) kf_X5_24 dX5_besideFits_34 ?_
  refine A_aload_n C (pc := 37) 1 rfl dX5_besideFits_37 ?_
  obtain ⟨z38, h38, hf⟩ := bd_i hf
  refine A_callV1 C (pc := 38) (A := [.ref (B + q1)]) (rest := [.int z30.1]) k_X5_138 ky_X4_count kv_X4_count (m_X4_count l B D Y o ((show kd 33 = 4 from rfl)) hq1 h38) (kR ((show kd 33 = 4 from rfl))).1 (ent4 ((show kd 33 = 4 from rfl))) rfl rfl rfl (Nat.le_of_ble_eq_true rfl) ⟨rfl, rfl, Nat.le_of_ble_eq_true rfl, Nat.le_of_ble_eq_true rfl⟩ ⟨Nat.zero_le _, Nat.zero_le _⟩ dX5_besideFits_38 ?_
  refine A_aload_n C (pc := 41) 0 rfl dX5_besideFits_41 ?_
  refine A_g5_2 C (pc := 42) kf_X5_24 dX5_besideFits_42 ?_
  refine A_aload_n C (pc := 45) 2 rfl dX5_besideFits_45 ?_
  obtain ⟨z46, h46, hf⟩ := bd_i hf
  refine A_callV1 C (pc := 46) (A := [.ref (B + q2)]) (rest := [.int z38.1, .int z30.1]) k_X5_138 ky_X4_count kv_X4_count (m_X4_count l B D Y o ((show kd 33 = 4 from rfl)) hq2 h46) (kR ((show kd 33 = 4 from rfl))).1 (ent4 ((show kd 33 = 4 from rfl))) rfl rfl rfl (Nat.le_of_ble_eq_true rfl) ⟨rfl, rfl, Nat.le_of_ble_eq_true rfl, Nat.le_of_ble_eq_true rfl⟩ ⟨Nat.zero_le _, Nat.zero_le _⟩ dX5_besideFits_46 ?_
  refine A_imul C (pc := 49) dX5_besideFits_49 ?_
  refine A_iload_n C (pc := 50) 3 rfl dX5_besideFits_50 ?_
  refine A_imul C (pc := 51) dX5_besideFits_51 ?_
  refine A_icmp_ne C (pc := 52) 118 (by decide) dX5_besideFits_52 hf (fun _ hf => ?_) (fun _ hf => ?_)
  · refine A_iconst C (pc := 118) ic_0 dX5_besideFits_118 ?_
    exact R_iM C (pc := 119) hr hk nz_0 dX5_besideFits_119 hf
  · refine A_aload_n C (pc := 55) 0 rfl dX5_besideFits_55 ?_
    refine A_g5_0 C (pc := 56) kf_X5_12 dX5_besideFits_56 ?_
    obtain ⟨z59, h59, hf⟩ := bd_i hf
    refine A_callS1 C (pc := 59) (A := [.ref (B + 27)]) (rest := []) k_X5_182 ky_X1_count ks_X1_count (m_X1_count l B D Y o ((show kd 27 = 2 from rfl)) h59) rfl rfl (Nat.le_of_ble_eq_true rfl) ⟨rfl, rfl, Nat.le_of_ble_eq_true rfl, Nat.le_of_ble_eq_true rfl⟩ ⟨Nat.zero_le _, Nat.zero_le _⟩ dX5_besideFits_59 ?_
    refine A_aload_n C (pc := 62) 1 rfl dX5_besideFits_62 ?_
    obtain ⟨z63, h63, hf⟩ := bd_i hf
    refine A_callS1 C (pc := 63) (A := [.ref (B + q1)]) (rest := [.int z59]) k_X5_182 ky_X1_count ks_X1_count (m_X1_count l B D Y o hq1 h63) rfl rfl (Nat.le_of_ble_eq_true rfl) ⟨rfl, rfl, Nat.le_of_ble_eq_true rfl, Nat.le_of_ble_eq_true rfl⟩ ⟨Nat.zero_le _, Nat.zero_le _⟩ dX5_besideFits_63 ?_
    refine A_aload_n C (pc := 66) 2 rfl dX5_besideFits_66 ?_
    obtain ⟨z67, h67, hf⟩ := bd_i hf
    refine A_callS1 C (pc := 67) (A := [.ref (B + q2)]) (rest := [.int z63, .int z59]) k_X5_182 ky_X1_count ks_X1_count (m_X1_count l B D Y o hq2 h67) rfl rfl (Nat.le_of_ble_eq_true rfl) ⟨rfl, rfl, Nat.le_of_ble_eq_true rfl, Nat.le_of_ble_eq_true rfl⟩ ⟨Nat.zero_le _, Nat.zero_le _⟩ dX5_besideFits_67 ?_
    refine A_imul C (pc := 70) dX5_besideFits_70 ?_
    refine A_icmp_ne C (pc := 71) 118 (by decide) dX5_besideFits_71 hf (fun _ hf => ?_) (fun _ hf => ?_)
    · refine A_iconst C (pc := 118) ic_0 dX5_besideFits_118 ?_
      exact R_iM C (pc := 119) hr hk nz_0 dX5_besideFits_119 hf
    · refine A_aload_n C (pc := 74) 0 rfl dX5_besideFits_74 ?_
      refine A_g5_0 C (pc := 75) kf_X5_12 dX5_besideFits_75 ?_
      obtain ⟨z78, h78, hf⟩ := bd_i hf
      refine A_callS1 C (pc := 78) (A := [.ref (B + 27)]) (rest := []) k_X5_155 ky_X0_mostApart ks_X0_mostApart (m_X0_mostApart l B D Y o ((show kd 27 = 2 from rfl)) h78) rfl rfl (Nat.le_of_ble_eq_true rfl) ⟨rfl, rfl, Nat.le_of_ble_eq_true rfl, Nat.le_of_ble_eq_true rfl⟩ ⟨Nat.zero_le _, Nat.zero_le _⟩ dX5_besideFits_78 ?_
      refine A_aload_n C (pc := 81) 1 rfl dX5_besideFits_81 ?_
      obtain ⟨z82, h82, hf⟩ := bd_i hf
      refine A_callS1 C (pc := 82) (A := [.ref (B + q1)]) (rest := [.int z78]) k_X5_155 ky_X0_mostApart ks_X0_mostApart (m_X0_mostApart l B D Y o hq1 h82) rfl rfl (Nat.le_of_ble_eq_true rfl) ⟨rfl, rfl, Nat.le_of_ble_eq_true rfl, Nat.le_of_ble_eq_true rfl⟩ ⟨Nat.zero_le _, Nat.zero_le _⟩ dX5_besideFits_82 ?_
      refine A_aload_n C (pc := 85) 2 rfl dX5_besideFits_85 ?_
      obtain ⟨z86, h86, hf⟩ := bd_i hf
      refine A_callS1 C (pc := 86) (A := [.ref (B + q2)]) (rest := [.int z82, .int z78]) k_X5_155 ky_X0_mostApart ks_X0_mostApart (m_X0_mostApart l B D Y o hq2 h86) rfl rfl (Nat.le_of_ble_eq_true rfl) ⟨rfl, rfl, Nat.le_of_ble_eq_true rfl, Nat.le_of_ble_eq_true rfl⟩ ⟨Nat.zero_le _, Nat.zero_le _⟩ dX5_besideFits_86 ?_
      refine A_iadd C (pc := 89) dX5_besideFits_89 ?_
      refine A_icmp_ne C (pc := 90) 118 (by decide) dX5_besideFits_90 hf (fun _ hf => ?_) (fun _ hf => ?_)
      · refine A_iconst C (pc := 118) ic_0 dX5_besideFits_118 ?_
        exact R_iM C (pc := 119) hr hk nz_0 dX5_besideFits_119 hf
      · refine A_aload_n C (pc := 93) 0 rfl dX5_besideFits_93 ?_
        refine A_g5_0 C (pc := 94) kf_X5_12 dX5_besideFits_94 ?_
        obtain ⟨z97, h97, hf⟩ := bd_i hf
        refine A_callS1 C (pc := 97) (A := [.ref (B + 27)]) (rest := []) k_X5_224 ky_X5_longestOf ks_X5_longestOf (m_X5_longestOf l B D Y o ((show kd 27 = 2 from rfl)) h97) rfl rfl (Nat.le_of_ble_eq_true rfl) ⟨rfl, rfl, Nat.le_of_ble_eq_true rfl, Nat.le_of_ble_eq_true rfl⟩ ⟨Nat.zero_le _, Nat.zero_le _⟩ dX5_besideFits_97 ?_
        refine A_aload_n C (pc := 100) 1 rfl dX5_besideFits_100 ?_
        obtain ⟨z101, h101, hf⟩ := bd_i hf
        refine A_callS1 C (pc := 101) (A := [.ref (B + q1)]) (rest := [.int z97]) k_X5_224 ky_X5_longestOf ks_X5_longestOf (m_X5_longestOf l B D Y o hq1 h101) rfl rfl (Nat.le_of_ble_eq_true rfl) ⟨rfl, rfl, Nat.le_of_ble_eq_true rfl, Nat.le_of_ble_eq_true rfl⟩ ⟨Nat.zero_le _, Nat.zero_le _⟩ dX5_besideFits_101 ?_
        refine A_aload_n C (pc := 104) 2 rfl dX5_besideFits_104 ?_
        obtain ⟨z105, h105, hf⟩ := bd_i hf
        refine A_callS1 C (pc := 105) (A := [.ref (B + q2)]) (rest := [.int z101, .int z97]) k_X5_224 ky_X5_longestOf ks_X5_longestOf (m_X5_longestOf l B D Y o hq2 h105) rfl rfl (Nat.le_of_ble_eq_true rfl) ⟨rfl, rfl, Nat.le_of_ble_eq_true rfl, Nat.le_of_ble_eq_true rfl⟩ ⟨Nat.zero_le _, Nat.zero_le _⟩ dX5_besideFits_105 ?_
        refine A_mmax C (pc := 108) km_X5_227 kmc_max kms_max km_ini (Nat.le_of_ble_eq_true rfl) (Nat.le_of_ble_eq_true rfl) ⟨Nat.zero_le _, Nat.zero_le _⟩ dX5_besideFits_108 ?_
        refine A_icmp_ne C (pc := 111) 118 (by decide) dX5_besideFits_111 hf (fun _ hf => ?_) (fun _ hf => ?_)
        · refine A_iconst C (pc := 118) ic_0 dX5_besideFits_118 ?_
          exact R_iM C (pc := 119) hr hk nz_0 dX5_besideFits_119 hf
        · refine A_iconst C (pc := 114) ic_1 dX5_besideFits_114 ?_
          refine A_goto C (pc := 115) 119 (by decide) dX5_besideFits_115 ?_
          exact R_iM C (pc := 119) hr hk nz_1 dX5_besideFits_119 hf
set_option maxRecDepth 100000 in
theorem m_X5_aboveFits (l : Launch) (B : Nat) (D : va_G) (Y : Nat → ClassId) (o : Ou) {M : Mem} {q1 : Nat} {q2 : Nat} {r : Int32 × Mem} (hq1 : kd q1 = 2) (hq2 : kd q2 = 2) (hf : f_X5_aboveFits M q1 q2 = some r) : MW l yX5_aboveFits cX5_aboveFits 3 (some .boolean) rm_X5_aboveFits B D Y o [.ref (B + 26), .ref (B + q1), .ref (B + q2)] M r.2 (some (.int r.1)) := by
  refine ofAt (L0 := [(0, .ref (B + 26)), (1, .ref (B + q1)), (2, .ref (B + q2))]) (by decide +kernel) (Nat.le_of_ble_eq_true rfl) rfl (fun p e s m args below meth c C hr hk => ?_)
  dsimp only [f_X5_aboveFits] at hf
  refine A_aload_n C (pc := 0) 0 rfl dX5_aboveFits_0 ?_
  refine A_g5_0 C (pc := 1) kf_X5_12 dX5_aboveFits_1 ?_
  refine A_aload_n C (pc := 4) 1 rfl dX5_aboveFits_4 ?_
  refine A_aload_n C (pc := 5) 2 rfl dX5_aboveFits_5 ?_
  refine A_iconst C (pc := 6) ic_1 dX5_aboveFits_6 ?_
  obtain ⟨z7, h7, hf⟩ := bd_i hf
  refine A_callV0 C (pc := 7) (A := [.ref (B + q1), .ref (B + q2), .int 1]) (rest := []) k_X5_217 ky_X3_becomeJoined kv_X3_becomeJoined (m_X3_becomeJoined l B D Y o ((show kd 27 = 2 from rfl)) hq1 hq2 h7) (kO ((show kd 27 = 2 from rfl))).1 (ent2 ((show kd 27 = 2 from rfl))) rfl rfl rfl (Nat.le_of_ble_eq_true rfl) ⟨rfl, rfl, Nat.le_of_ble_eq_true rfl, Nat.le_of_ble_eq_true rfl⟩ ⟨Nat.zero_le _, Nat.zero_le _⟩ dX5_aboveFits_7 ?_
  refine A_aload_n C (pc := 10) 0 rfl dX5_aboveFits_10 ?_
  refine A_g5_3 C (pc := 11) kf_X5_28 dX5_aboveFits_11 ?_
  refine A_aload_n C (pc := 14) 0 rfl dX5_aboveFits_14 ?_
  refine A_g5_0 C (pc := 15) kf_X5_12 dX5_aboveFits_15 ?_
  obtain ⟨z18, h18, hf⟩ := bd_i hf
  refine A_callV1 C (pc := 18) (A := [.ref (B + 27)]) (rest := []) k_X5_138 ky_X4_count kv_X4_count (m_X4_count l B D Y o ((show kd 37 = 4 from rfl)) ((show kd 27 = 2 from rfl)) h18) (kR ((show kd 37 = 4 from rfl))).1 (ent4 ((show kd 37 = 4 from rfl))) rfl rfl rfl (Nat.le_of_ble_eq_true rfl) ⟨rfl, rfl, Nat.le_of_ble_eq_true rfl, Nat.le_of_ble_eq_true rfl⟩ ⟨Nat.zero_le _, Nat.zero_le _⟩ dX5_aboveFits_18 ?_
  refine A_aload_n C (pc := 21) 0 rfl dX5_aboveFits_21 ?_
  refine A_g5_2 C (pc := 22) kf_X5_24 dX5_aboveFits_22 ?_
  refine A_aload_n C (pc := 25) 1 rfl dX5_aboveFits_25 ?_
  obtain ⟨z26, h26, hf⟩ := bd_i hf
  refine A_callV1 C (pc := 26) (A := [.ref (B + q1)]) (rest := [.int z18.1]) k_X5_138 ky_X4_count kv_X4_count (m_X4_count l B D Y o ((show kd 33 = 4 from rfl)) hq1 h26) (kR ((show kd 33 = 4 from rfl))).1 (ent4 ((show kd 33 = 4 from rfl))) rfl rfl rfl (Nat.le_of_ble_eq_true rfl) ⟨rfl, rfl, Nat.le_of_ble_eq_true rfl, Nat.le_of_ble_eq_true rfl⟩ ⟨Nat.zero_le _, Nat.zero_le _⟩ dX5_aboveFits_26 ?_
  refine A_aload_n C (pc := 29) 0 rfl dX5_aboveFits_29 ?_
  refine A_g5_2 C (pc := 30) kf_X5_24 dX5_aboveFits_30 ?_
  refine A_aload_n C (pc := 33) 2 rfl dX5_aboveFits_33 ?_
  obtain ⟨z34, h34, hf⟩ := bd_i hf
  refine A_callV1 C (pc := 34) (A := [.ref (B + q2)]) (rest := [.int z26.1, .int z18.1]) k_X5_138 ky_X4_count kv_X4_count (m_X4_count l B D Y o ((show kd 33 = 4 from rfl)) hq2 h34) (kR ((show kd 33 = 4 from rfl))).1 (ent4 ((show kd 33 = 4 from rfl))) rfl rfl rfl (Nat.le_of_ble_eq_true rfl) ⟨rfl, rfl, Nat.le_of_ble_eq_true rfl, Nat.le_of_ble_eq_true rfl⟩ ⟨Nat.zero_le _, Nat.zero_le _⟩ dX5_aboveFits_34 ?_
  refine A_imul C (pc := 37) dX5_aboveFits_37 ?_
  refine A_icmp_ne C (pc := 38) 106 (by decide) dX5_aboveFits_38 hf (fun _ hf => ?_) (fun _ hf => ?_)
  · refine A_iconst C (pc := 106) ic_0 dX5_aboveFits_106 ?_
    exact R_iM C (pc := 107) hr hk nz_0 dX5_aboveFits_107 hf
  · refine A_aload_n C (pc := 41) 0 rfl dX5_aboveFits_41 ?_
    refine A_g5_0 C (pc := 42) kf_X5_12 dX5_aboveFits_42 ?_
    obtain ⟨z45, h45, hf⟩ := bd_i hf
    refine A_callS1 C (pc := 45) (A := [.ref (B + 27)]) (rest := []) k_X5_182 ky_X1_count ks_X1_count (m_X1_count l B D Y o ((show kd 27 = 2 from rfl)) h45) rfl rfl (Nat.le_of_ble_eq_true rfl) ⟨rfl, rfl, Nat.le_of_ble_eq_true rfl, Nat.le_of_ble_eq_true rfl⟩ ⟨Nat.zero_le _, Nat.zero_le _⟩ dX5_aboveFits_45 ?_
    refine A_aload_n C (pc := 48) 1 rfl dX5_aboveFits_48 ?_
    obtain ⟨z49, h49, hf⟩ := bd_i hf
    refine A_callS1 C (pc := 49) (A := [.ref (B + q1)]) (rest := [.int z45]) k_X5_182 ky_X1_count ks_X1_count (m_X1_count l B D Y o hq1 h49) rfl rfl (Nat.le_of_ble_eq_true rfl) ⟨rfl, rfl, Nat.le_of_ble_eq_true rfl, Nat.le_of_ble_eq_true rfl⟩ ⟨Nat.zero_le _, Nat.zero_le _⟩ dX5_aboveFits_49 ?_
    refine A_aload_n C (pc := 52) 2 rfl dX5_aboveFits_52 ?_
    obtain ⟨z53, h53, hf⟩ := bd_i hf
    refine A_callS1 C (pc := 53) (A := [.ref (B + q2)]) (rest := [.int z49, .int z45]) k_X5_182 ky_X1_count ks_X1_count (m_X1_count l B D Y o hq2 h53) rfl rfl (Nat.le_of_ble_eq_true rfl) ⟨rfl, rfl, Nat.le_of_ble_eq_true rfl, Nat.le_of_ble_eq_true rfl⟩ ⟨Nat.zero_le _, Nat.zero_le _⟩ dX5_aboveFits_53 ?_
    refine A_iadd C (pc := 56) dX5_aboveFits_56 ?_
    refine A_iconst C (pc := 57) ic_1 dX5_aboveFits_57 ?_
    refine A_isub C (pc := 58) dX5_aboveFits_58 ?_
    refine A_icmp_ne C (pc := 59) 106 (by decide) dX5_aboveFits_59 hf (fun _ hf => ?_) (fun _ hf => ?_)
    · refine A_iconst C (pc := 106) ic_0 dX5_aboveFits_106 ?_
      exact R_iM C (pc := 107) hr hk nz_0 dX5_aboveFits_107 hf
    · refine A_aload_n C (pc := 62) 0 rfl dX5_aboveFits_62 ?_
      refine A_g5_0 C (pc := 63) kf_X5_12 dX5_aboveFits_63 ?_
      obtain ⟨z66, h66, hf⟩ := bd_i hf
      refine A_callS1 C (pc := 66) (A := [.ref (B + 27)]) (rest := []) k_X5_155 ky_X0_mostApart ks_X0_mostApart (m_X0_mostApart l B D Y o ((show kd 27 = 2 from rfl)) h66) rfl rfl (Nat.le_of_ble_eq_true rfl) ⟨rfl, rfl, Nat.le_of_ble_eq_true rfl, Nat.le_of_ble_eq_true rfl⟩ ⟨Nat.zero_le _, Nat.zero_le _⟩ dX5_aboveFits_66 ?_
      refine A_aload_n C (pc := 69) 1 rfl dX5_aboveFits_69 ?_
      obtain ⟨z70, h70, hf⟩ := bd_i hf
      refine A_callS1 C (pc := 70) (A := [.ref (B + q1)]) (rest := [.int z66]) k_X5_155 ky_X0_mostApart ks_X0_mostApart (m_X0_mostApart l B D Y o hq1 h70) rfl rfl (Nat.le_of_ble_eq_true rfl) ⟨rfl, rfl, Nat.le_of_ble_eq_true rfl, Nat.le_of_ble_eq_true rfl⟩ ⟨Nat.zero_le _, Nat.zero_le _⟩ dX5_aboveFits_70 ?_
      refine A_aload_n C (pc := 73) 2 rfl dX5_aboveFits_73 ?_
      obtain ⟨z74, h74, hf⟩ := bd_i hf
      refine A_callS1 C (pc := 74) (A := [.ref (B + q2)]) (rest := [.int z70, .int z66]) k_X5_155 ky_X0_mostApart ks_X0_mostApart (m_X0_mostApart l B D Y o hq2 h74) rfl rfl (Nat.le_of_ble_eq_true rfl) ⟨rfl, rfl, Nat.le_of_ble_eq_true rfl, Nat.le_of_ble_eq_true rfl⟩ ⟨Nat.zero_le _, Nat.zero_le _⟩ dX5_aboveFits_74 ?_
      refine A_mmax C (pc := 77) km_X5_227 kmc_max kms_max km_ini (Nat.le_of_ble_eq_true rfl) (Nat.le_of_ble_eq_true rfl) ⟨Nat.zero_le _, Nat.zero_le _⟩ dX5_aboveFits_77 ?_
      refine A_icmp_ne C (pc := 80) 106 (by decide) dX5_aboveFits_80 hf (fun _ hf => ?_) (fun _ hf => ?_)
      · refine A_iconst C (pc := 106) ic_0 dX5_aboveFits_106 ?_
        exact R_iM C (pc := 107) hr hk nz_0 dX5_aboveFits_107 hf
      · refine A_aload_n C (pc := 83) 0 rfl dX5_aboveFits_83 ?_
        refine A_g5_0 C (pc := 84) kf_X5_12 dX5_aboveFits_84 ?_
        obtain ⟨z87, h87, hf⟩ := bd_i hf
        refine A_callS1 C (pc := 87) (A := [.ref (B + 27)]) (rest := []) k_X5_224 ky_X5_longestOf ks_X5_longestOf (m_X5_longestOf l B D Y o ((show kd 27 = 2 from rfl)) h87) rfl rfl (Nat.le_of_ble_eq_true rfl) ⟨rfl, rfl, Nat.le_of_ble_eq_true rfl, Nat.le_of_ble_eq_true rfl⟩ ⟨Nat.zero_le _, Nat.zero_le _⟩ dX5_aboveFits_87 ?_
        refine A_aload_n C (pc := 90) 1 rfl dX5_aboveFits_90 ?_
        obtain ⟨z91, h91, hf⟩ := bd_i hf
        refine A_callS1 C (pc := 91) (A := [.ref (B + q1)]) (rest := [.int z87]) k_X5_224 ky_X5_longestOf ks_X5_longestOf (m_X5_longestOf l B D Y o hq1 h91) rfl rfl (Nat.le_of_ble_eq_true rfl) ⟨rfl, rfl, Nat.le_of_ble_eq_true rfl, Nat.le_of_ble_eq_true rfl⟩ ⟨Nat.zero_le _, Nat.zero_le _⟩ dX5_aboveFits_91 ?_
        refine A_aload_n C (pc := 94) 2 rfl dX5_aboveFits_94 ?_
        obtain ⟨z95, h95, hf⟩ := bd_i hf
        refine A_callS1 C (pc := 95) (A := [.ref (B + q2)]) (rest := [.int z91, .int z87]) k_X5_224 ky_X5_longestOf ks_X5_longestOf (m_X5_longestOf l B D Y o hq2 h95) rfl rfl (Nat.le_of_ble_eq_true rfl) ⟨rfl, rfl, Nat.le_of_ble_eq_true rfl, Nat.le_of_ble_eq_true rfl⟩ ⟨Nat.zero_le _, Nat.zero_le _⟩ dX5_aboveFits_95 ?_
        refine A_iadd C (pc := 98) dX5_aboveFits_98 ?_
        refine A_icmp_ne C (pc := 99) 106 (by decide) dX5_aboveFits_99 hf (fun _ hf => ?_) (fun _ hf => ?_)
        · refine A_iconst C (pc := 106) ic_0 dX5_aboveFits_106 ?_
          exact R_iM C (pc := 107) hr hk nz_0 dX5_aboveFits_107 hf
        · refine A_iconst C (pc := 102) ic_1 dX5_aboveFits_102 ?_
          refine A_goto C (pc := 103) 107 (by decide) dX5_aboveFits_103 ?_
          exact R_iM C (pc := 107) hr hk nz_1 dX5_aboveFits_107 hf
set_option maxRecDepth 100000 in
theorem m_X5_holdsForBoth (l : Launch) (B : Nat) (D : va_G) (Y : Nat → ClassId) (o : Ou) {M : Mem} {q1 : Nat} {q2 : Nat} {r : Int32 × Mem} (hq1 : kd q1 = 2) (hq2 : kd q2 = 2) (hf : f_X5_holdsForBoth M q1 q2 = some r) : MW l yX5_holdsForBoth cX5_holdsForBoth 3 (some .boolean) rm_X5_holdsForBoth B D Y o [.ref (B + 26), .ref (B + q1), .ref (B + q2)] M r.2 (some (.int r.1)) := by
  refine ofAt (L0 := [(0, .ref (B + 26)), (1, .ref (B + q1)), (2, .ref (B + q2))]) (by decide +kernel) (Nat.le_of_ble_eq_true rfl) rfl (fun p e s m args below meth c C hr hk => ?_)
  dsimp only [f_X5_holdsForBoth] at hf
  refine A_aload_n C (pc := 0) 0 rfl dX5_holdsForBoth_0 ?_
  refine A_aload_n C (pc := 1) 1 rfl dX5_holdsForBoth_1 ?_
  refine A_aload_n C (pc := 2) 2 rfl dX5_holdsForBoth_2 ?_
  obtain ⟨z3, h3, hf⟩ := bd_i hf
  refine A_callV1 C (pc := 3) (A := [.ref (B + q1), .ref (B + q2)]) (rest := []) k_X5_77 ky_X5_besideFits kv_X5_besideFits (m_X5_besideFits l B D Y o hq1 hq2 h3) (by decide) rfl rfl rfl rfl (Nat.le_of_ble_eq_true rfl) ⟨rfl, rfl, Nat.le_of_ble_eq_true rfl, Nat.le_of_ble_eq_true rfl⟩ ⟨Nat.zero_le _, Nat.zero_le _⟩ dX5_holdsForBoth_3 ?_
  refine A_if_eq C (pc := 6) 22 (by decide) dX5_holdsForBoth_6 hf (fun _ hf => ?_) (fun _ hf => ?_)
  · refine A_iconst C (pc := 22) ic_0 dX5_holdsForBoth_22 ?_
    exact R_iM C (pc := 23) hr hk nz_0 dX5_holdsForBoth_23 hf
  · refine A_aload_n C (pc := 9) 0 rfl dX5_holdsForBoth_9 ?_
    refine A_aload_n C (pc := 10) 1 rfl dX5_holdsForBoth_10 ?_
    refine A_aload_n C (pc := 11) 2 rfl dX5_holdsForBoth_11 ?_
    obtain ⟨z12, h12, hf⟩ := bd_i hf
    refine A_callV1 C (pc := 12) (A := [.ref (B + q1), .ref (B + q2)]) (rest := []) k_X5_81 ky_X5_aboveFits kv_X5_aboveFits (m_X5_aboveFits l B D Y o hq1 hq2 h12) (by decide) rfl rfl rfl rfl (Nat.le_of_ble_eq_true rfl) ⟨rfl, rfl, Nat.le_of_ble_eq_true rfl, Nat.le_of_ble_eq_true rfl⟩ ⟨Nat.zero_le _, Nat.zero_le _⟩ dX5_holdsForBoth_12 ?_
    refine A_if_eq C (pc := 15) 22 (by decide) dX5_holdsForBoth_15 hf (fun _ hf => ?_) (fun _ hf => ?_)
    · refine A_iconst C (pc := 22) ic_0 dX5_holdsForBoth_22 ?_
      exact R_iM C (pc := 23) hr hk nz_0 dX5_holdsForBoth_23 hf
    · refine A_iconst C (pc := 18) ic_1 dX5_holdsForBoth_18 ?_
      refine A_goto C (pc := 19) 23 (by decide) dX5_holdsForBoth_19 ?_
      exact R_iM C (pc := 23) hr hk nz_1 dX5_holdsForBoth_23 hf
set_option maxRecDepth 100000 in
theorem w_X6_mixedIn_L16 {M : Mem} {q3 : Nat} {r : Int64 × Mem} (C : Cx p s m args c cX6_mixedIn 7 RX6 B D Y) (hr : meth.sig.returnType = (some .long)) (hk : meth.locks = false) (hq3 : kd q3 = 2) : ∀ (n : Nat) (x4 : Int64) (x6 : Int32), f_X6_mixedIn_L16 M q3 n (x4, x6) = some r → At p l e rm_X6_mixedIn s m args below meth c 7 0 0 (QQ below args s B D Y r.2 o (some (.long r.1))) B D Y o 16 M [(0, .ref (B + 0)), (3, .ref (B + q3)), (4, .long x4), (6, .int x6)] [] := by
  intro n
  induction n with
  | zero => intro x4 x6 hf; exact nomatch (show (none : Option (Int64 × Mem)) = some r from hf)
  | succ n hk16 =>
    intro x4 x6 hf
    replace hf : g_X6_mixedIn_L16 M q3 (f_X6_mixedIn_L16 M q3 n) (x4, x6) = some r := hf
    dsimp only [g_X6_mixedIn_L16] at hf
    refine A_iload C (pc := 16) 3 rfl dX6_mixedIn_16 ?_
    refine A_aload_n C (pc := 18) 1 rfl dX6_mixedIn_18 ?_
    refine A_g3_0 C (pc := 19) hq3 kf_X6_56 dX6_mixedIn_19 ?_
    refine A_icmp_ge C (pc := 22) 65 (by decide) dX6_mixedIn_22 hf (fun _ hf => ?_) (fun _ hf => ?_)
    · refine A_ldc2 C (pc := 65) kk_X6_277 dX6_mixedIn_65 ?_
      refine A_lload C (pc := 68) 2 rfl dX6_mixedIn_68 ?_
      refine A_lmul C (pc := 70) dX6_mixedIn_70 ?_
      refine A_aload_n C (pc := 71) 1 rfl dX6_mixedIn_71 ?_
      obtain ⟨z72, h72, hf⟩ := bd_i hf
      refine A_callS1 C (pc := 72) (A := [.ref (B + q3)]) (rest := [.long (31 * x4)]) k_X6_189 ky_X1_count ks_X1_count (m_X1_count l B D Y o hq3 h72) rfl rfl (Nat.le_of_ble_eq_true rfl) ⟨rfl, rfl, Nat.le_of_ble_eq_true rfl, Nat.le_of_ble_eq_true rfl⟩ ⟨Nat.zero_le _, Nat.zero_le _⟩ dX6_mixedIn_72 ?_
      refine A_i2l C (pc := 75) dX6_mixedIn_75 ?_
      refine A_ladd C (pc := 76) dX6_mixedIn_76 ?_
      obtain ⟨v77, e77, hf⟩ := bd_i hf
      refine A_nmL e77 ?_
      refine A_lstore C (pc := 77) [(0, .ref (B + 0)), (3, .ref (B + q3)), (4, .long v77)] (by decide) [1, 2, 0] rfl dX6_mixedIn_77 ?_
      refine A_ldc2 C (pc := 79) kk_X6_277 dX6_mixedIn_79 ?_
      refine A_lload C (pc := 82) 2 rfl dX6_mixedIn_82 ?_
      refine A_lmul C (pc := 84) dX6_mixedIn_84 ?_
      refine A_aload_n C (pc := 85) 0 rfl dX6_mixedIn_85 ?_
      refine A_g6_3 C (pc := 86) kf_X6_30 dX6_mixedIn_86 ?_
      refine A_aload_n C (pc := 89) 1 rfl dX6_mixedIn_89 ?_
      obtain ⟨z90, h90, hf⟩ := bd_i hf
      refine A_callV1 C (pc := 90) (A := [.ref (B + q3)]) (rest := [.long (31 * v77)]) k_X6_231 ky_X4_count kv_X4_count (m_X4_count l B D Y o ((show kd 20 = 4 from rfl)) hq3 h90) (kR ((show kd 20 = 4 from rfl))).1 (ent4 ((show kd 20 = 4 from rfl))) rfl rfl rfl (Nat.le_of_ble_eq_true rfl) ⟨rfl, rfl, Nat.le_of_ble_eq_true rfl, Nat.le_of_ble_eq_true rfl⟩ ⟨Nat.zero_le _, Nat.zero_le _⟩ dX6_mixedIn_90 ?_
      refine A_i2l C (pc := 93) dX6_mixedIn_93 ?_
      refine A_ladd C (pc := 94) dX6_mixedIn_94 ?_
      obtain ⟨v95, e95, hf⟩ := bd_i hf
      refine A_nmL e95 ?_
      refine A_lstore C (pc := 95) [(3, .ref (B + q3)), (4, .long v95)] (by decide) [2, 0] rfl dX6_mixedIn_95 ?_
      refine A_ldc2 C (pc := 97) kk_X6_277 dX6_mixedIn_97 ?_
      refine A_lload C (pc := 100) 1 rfl dX6_mixedIn_100 ?_
      refine A_lmul C (pc := 102) dX6_mixedIn_102 ?_
      refine A_aload_n C (pc := 103) 0 rfl dX6_mixedIn_103 ?_
      obtain ⟨z104, h104, hf⟩ := bd_i hf
      refine A_callS1 C (pc := 104) (A := [.ref (B + q3)]) (rest := [.long (31 * v95)]) k_X6_176 ky_X0_mostApart ks_X0_mostApart (m_X0_mostApart l B D Y o hq3 h104) rfl rfl (Nat.le_of_ble_eq_true rfl) ⟨rfl, rfl, Nat.le_of_ble_eq_true rfl, Nat.le_of_ble_eq_true rfl⟩ ⟨Nat.zero_le _, Nat.zero_le _⟩ dX6_mixedIn_104 ?_
      refine A_i2l C (pc := 107) dX6_mixedIn_107 ?_
      refine A_ladd C (pc := 108) dX6_mixedIn_108 ?_
      obtain ⟨v109, e109, hf⟩ := bd_i hf
      refine A_nmL e109 ?_
      refine A_lstore C (pc := 109) [(3, .ref (B + q3)), (4, .long v109)] (by decide) [1, 0] rfl dX6_mixedIn_109 ?_
      refine A_ldc2 C (pc := 111) kk_X6_277 dX6_mixedIn_111 ?_
      refine A_lload C (pc := 114) 1 rfl dX6_mixedIn_114 ?_
      refine A_lmul C (pc := 116) dX6_mixedIn_116 ?_
      refine A_aload_n C (pc := 117) 0 rfl dX6_mixedIn_117 ?_
      refine A_aload_n C (pc := 118) 0 rfl dX6_mixedIn_118 ?_
      obtain ⟨z119, h119, hf⟩ := bd_i hf
      refine A_callV1 C (pc := 119) (A := []) (rest := [.ref (B + q3), .long (31 * v109)]) k_X6_92 ky_X3_all kv_X3_all (m_X3_all l B D Y o hq3 h119) (kO hq3).1 (ent2 hq3) rfl rfl rfl (Nat.le_of_ble_eq_true rfl) ⟨rfl, rfl, Nat.le_of_ble_eq_true rfl, Nat.le_of_ble_eq_true rfl⟩ ⟨Nat.zero_le _, Nat.zero_le _⟩ dX6_mixedIn_119 ?_
      obtain ⟨z122, h122, hf⟩ := bd_i hf
      refine A_callS1 C (pc := 122) (A := [.ref (B + q3), .int z119]) (rest := [.long (31 * v109)]) k_X6_172 ky_X0_longestWithin ks_X0_longestWithin (m_X0_longestWithin l B D Y o hq3 h122) rfl rfl (Nat.le_of_ble_eq_true rfl) ⟨rfl, rfl, Nat.le_of_ble_eq_true rfl, Nat.le_of_ble_eq_true rfl⟩ ⟨Nat.zero_le _, Nat.zero_le _⟩ dX6_mixedIn_122 ?_
      refine A_i2l C (pc := 125) dX6_mixedIn_125 ?_
      refine A_ladd C (pc := 126) dX6_mixedIn_126 ?_
      exact R_lM C (pc := 127) hr hk dX6_mixedIn_127 hf
    · refine A_ldc2 C (pc := 25) kk_X6_277 dX6_mixedIn_25 ?_
      refine A_lload C (pc := 28) 2 rfl dX6_mixedIn_28 ?_
      refine A_lmul C (pc := 30) dX6_mixedIn_30 ?_
      refine A_aload_n C (pc := 31) 1 rfl dX6_mixedIn_31 ?_
      refine A_g3_1 C (pc := 32) hq3 kf_X6_149 dX6_mixedIn_32 ?_
      refine A_iload C (pc := 35) 3 rfl dX6_mixedIn_35 ?_
      obtain ⟨c37, hf⟩ := chk_i hf
      refine A_iald C (pc := 37) (iO1 hq3) c37 dX6_mixedIn_37 ?_
      refine A_i2l C (pc := 38) dX6_mixedIn_38 ?_
      refine A_ladd C (pc := 39) dX6_mixedIn_39 ?_
      obtain ⟨v40, e40, hf⟩ := bd_i hf
      refine A_nmL e40 ?_
      refine A_lstore C (pc := 40) [(0, .ref (B + 0)), (3, .ref (B + q3)), (4, .long v40), (6, .int x6)] (by decide) [1, 2, 0, 3] rfl dX6_mixedIn_40 ?_
      refine A_ldc2 C (pc := 42) kk_X6_277 dX6_mixedIn_42 ?_
      refine A_lload C (pc := 45) 2 rfl dX6_mixedIn_45 ?_
      refine A_lmul C (pc := 47) dX6_mixedIn_47 ?_
      refine A_aload_n C (pc := 48) 1 rfl dX6_mixedIn_48 ?_
      refine A_g3_2 C (pc := 49) hq3 kf_X6_88 dX6_mixedIn_49 ?_
      refine A_iload C (pc := 52) 3 rfl dX6_mixedIn_52 ?_
      obtain ⟨c54, hf⟩ := chk_i hf
      refine A_iald C (pc := 54) (iO2 hq3) c54 dX6_mixedIn_54 ?_
      refine A_i2l C (pc := 55) dX6_mixedIn_55 ?_
      refine A_ladd C (pc := 56) dX6_mixedIn_56 ?_
      obtain ⟨v57, e57, hf⟩ := bd_i hf
      refine A_nmL e57 ?_
      refine A_lstore C (pc := 57) [(0, .ref (B + 0)), (3, .ref (B + q3)), (4, .long v57), (6, .int x6)] (by decide) [1, 2, 0, 3] rfl dX6_mixedIn_57 ?_
      refine A_iinc C (pc := 59) (k0 := 3) [(0, .ref (B + 0)), (3, .ref (B + q3)), (4, .long v57), (6, .int (x6 + 1))] rfl ic_1 (by decide) [1, 2, 3, 0] rfl dX6_mixedIn_59 ?_
      refine A_goto C (pc := 62) 16 (by decide) dX6_mixedIn_62 ?_
      exact hk16 _ _ hf
set_option maxRecDepth 100000 in
theorem m_X6_mixedIn (l : Launch) (B : Nat) (D : va_G) (Y : Nat → ClassId) (o : Ou) {M : Mem} {x1 : Int64} {q3 : Nat} {r : Int64 × Mem} (hq3 : kd q3 = 2) (hf : f_X6_mixedIn M x1 q3 = some r) : MW l yX6_mixedIn cX6_mixedIn 7 (some .long) rm_X6_mixedIn B D Y o [.ref (B + 0), .long x1, .ref (B + q3)] M r.2 (some (.long r.1)) := by
  refine ofAt (L0 := [(0, .ref (B + 0)), (1, .long x1), (3, .ref (B + q3))]) (by decide +kernel) (Nat.le_of_ble_eq_true rfl) rfl (fun p e s m args below meth c C hr hk => ?_)
  dsimp only [f_X6_mixedIn] at hf
  refine A_ldc2 C (pc := 0) kk_X6_277 dX6_mixedIn_0 ?_
  refine A_lload_n C (pc := 3) 1 rfl dX6_mixedIn_3 ?_
  refine A_lmul C (pc := 4) dX6_mixedIn_4 ?_
  refine A_aload_n C (pc := 5) 2 rfl dX6_mixedIn_5 ?_
  refine A_g3_0 C (pc := 6) hq3 kf_X6_56 dX6_mixedIn_6 ?_
  refine A_i2l C (pc := 9) dX6_mixedIn_9 ?_
  refine A_ladd C (pc := 10) dX6_mixedIn_10 ?_
  obtain ⟨v11, e11, hf⟩ := bd_i hf
  refine A_nmL e11 ?_
  refine A_lstore C (pc := 11) [(0, .ref (B + 0)), (3, .ref (B + q3)), (4, .long v11)] (by decide) [1, 3, 0] rfl dX6_mixedIn_11 ?_
  refine A_iconst C (pc := 13) ic_0 dX6_mixedIn_13 ?_
  refine A_istore C (pc := 14) [(0, .ref (B + 0)), (3, .ref (B + q3)), (4, .long v11), (6, .int 0)] (by decide) [1, 2, 3, 0] rfl dX6_mixedIn_14 ?_
  exact w_X6_mixedIn_L16 C hr hk hq3 FU _ _  hf
set_option maxRecDepth 100000 in
theorem w_X6_checksum_L6  {r : Int64 × Mem} (C : Cx p s m args c cX6_checksum 4 RX6 B D Y) (hr : meth.sig.returnType = (some .long)) (hk : meth.locks = false)  : ∀ (n : Nat) (x1 : Int64) (x3 : Int32) (M : Mem), f_X6_checksum_L6 n (x1, x3, M) = some r → At p l e rm_X6_checksum s m args below meth c 4 0 0 (QQ below args s B D Y r.2 o (some (.long r.1))) B D Y o 6 M [(0, .ref (B + 0)), (1, .long x1), (3, .int x3)] [] := by
  intro n
  induction n with
  | zero => intro x1 x3 M hf; exact nomatch (show (none : Option (Int64 × Mem)) = some r from hf)
  | succ n hk6 =>
    intro x1 x3 M hf
    replace hf : g_X6_checksum_L6 (f_X6_checksum_L6 n) (x1, x3, M) = some r := hf
    dsimp only [g_X6_checksum_L6] at hf
    refine A_iload_n C (pc := 6) 2 rfl dX6_checksum_6 ?_
    refine A_iconst C (pc := 7) ic_4 dX6_checksum_7 ?_
    refine A_icmp_ge C (pc := 8) 29 (by decide) dX6_checksum_8 hf (fun _ hf => ?_) (fun _ hf => ?_)
    · refine A_lload_n C (pc := 29) 1 rfl dX6_checksum_29 ?_
      exact R_lM C (pc := 30) hr hk dX6_checksum_30 hf
    · refine A_aload_n C (pc := 11) 0 rfl dX6_checksum_11 ?_
      refine A_lload_n C (pc := 12) 1 rfl dX6_checksum_12 ?_
      refine A_aload_n C (pc := 13) 0 rfl dX6_checksum_13 ?_
      refine A_g6_0 C (pc := 14) kf_X6_11 dX6_checksum_14 ?_
      refine A_iload_n C (pc := 17) 2 rfl dX6_checksum_17 ?_
      obtain ⟨c18, hf⟩ := chk_i hf
      refine A_aO C (pc := 18) c18 dX6_checksum_18 ?_
      obtain ⟨z19, h19, hf⟩ := bd_i hf
      refine A_callV1 C (pc := 19) (A := [.long x1, .ref (B + (2 + 3 * x3.toNatClampNeg))]) (rest := []) k_X6_273 ky_X6_mixedIn kv_X6_mixedIn (m_X6_mixedIn l B D Y o ((kOrd (inb_lt c18))) h19) (by decide) rfl rfl rfl rfl (Nat.le_of_ble_eq_true rfl) ⟨rfl, rfl, Nat.le_of_ble_eq_true rfl, Nat.le_of_ble_eq_true rfl⟩ ⟨Nat.zero_le _, Nat.zero_le _⟩ dX6_checksum_19 ?_
      refine A_lstore_n C (pc := 22) [(0, .ref (B + 0)), (1, .long z19.1), (3, .int x3)] rfl (by decide) [1, 0, 2] rfl dX6_checksum_22 ?_
      refine A_iinc C (pc := 23) (k0 := 2) [(0, .ref (B + 0)), (1, .long z19.1), (3, .int (x3 + 1))] rfl ic_1 (by decide) [1, 2, 0] rfl dX6_checksum_23 ?_
      refine A_goto C (pc := 26) 6 (by decide) dX6_checksum_26 ?_
      exact hk6 _ _ _ hf
set_option maxRecDepth 100000 in
theorem m_X6_checksum (l : Launch) (B : Nat) (D : va_G) (Y : Nat → ClassId) (o : Ou) {M : Mem}  {r : Int64 × Mem}  (hf : f_X6_checksum M = some r) : MW l yX6_checksum cX6_checksum 4 (some .long) rm_X6_checksum B D Y o [.ref (B + 0)] M r.2 (some (.long r.1)) := by
  refine ofAt (L0 := [(0, .ref (B + 0))]) (by decide +kernel) (Nat.le_of_ble_eq_true rfl) rfl (fun p e s m args below meth c C hr hk => ?_)
  dsimp only [f_X6_checksum] at hf
  refine A_ldc2 C (pc := 0) kk_X6_271 dX6_checksum_0 ?_
  refine A_lstore_n C (pc := 3) [(0, .ref (B + 0)), (1, .long 17)] rfl (by decide) [1, 0] rfl dX6_checksum_3 ?_
  refine A_iconst C (pc := 4) ic_0 dX6_checksum_4 ?_
  refine A_istore_n C (pc := 5) [(0, .ref (B + 0)), (1, .long 17), (3, .int 0)] rfl (by decide) [1, 2, 0] rfl dX6_checksum_5 ?_
  exact w_X6_checksum_L6 C hr hk FU _ _ _  hf
set_option maxRecDepth 100000 in
theorem m_X6_atLeastOne (l : Launch) (B : Nat) (D : va_G) (Y : Nat → ClassId) (o : Ou) {M0 : Mem} {x0 : Int32} {r : Int32}  (hf : f_X6_atLeastOne x0 = some r) : MW l yX6_atLeastOne cX6_atLeastOne 1 (some .int) rm_X6_atLeastOne B D Y o [.int x0] M0 M0 (some (.int r)) := by
  refine ofAt (L0 := [(0, .int x0)]) (by decide +kernel) (Nat.le_of_ble_eq_true rfl) rfl (fun p e s m args below meth c C hr hk => ?_)
  dsimp only [f_X6_atLeastOne] at hf
  refine A_iconst C (pc := 0) ic_1 dX6_atLeastOne_0 ?_
  refine A_iload_n C (pc := 1) 0 rfl dX6_atLeastOne_1 ?_
  refine A_mmax C (pc := 2) km_X6_306 kmc_max kms_max km_ini (Nat.le_of_ble_eq_true rfl) (Nat.le_of_ble_eq_true rfl) ⟨Nat.zero_le _, Nat.zero_le _⟩ dX6_atLeastOne_2 ?_
  exact R_iP C (pc := 5) hr hk rfl dX6_atLeastOne_5 hf
set_option maxRecDepth 100000 in
theorem m_X7_thrown (l : Launch) (B : Nat) (D : va_G) (Y : Nat → ClassId) (o : Ou) {M : Mem}  {r : Int32}  (hf : f_X7_thrown M = some r) : MW l yX7_thrown cX7_thrown 1 (some .int) rm_X7_thrown B D Y o [.ref (B + 47)] M M (some (.int r)) := by
  refine ofAt (L0 := [(0, .ref (B + 47))]) (by decide +kernel) (Nat.le_of_ble_eq_true rfl) rfl (fun p e s m args below meth c C hr hk => ?_)
  dsimp only [f_X7_thrown] at hf
  refine A_aload_n C (pc := 0) 0 rfl dX7_thrown_0 ?_
  refine A_g7_3 C (pc := 1) kf_X7_35 dX7_thrown_1 ?_
  exact R_iP C (pc := 4) hr hk rfl dX7_thrown_4 hf
set_option maxRecDepth 100000 in
theorem m_X7_lets (l : Launch) (B : Nat) (D : va_G) (Y : Nat → ClassId) (o : Ou) {M : Mem} {x1 : Int32} {x2 : Int32} {r : Int32 × Mem}  (hf : f_X7_lets M x1 x2 = some r) : MW l yX7_lets cX7_lets 3 (some .boolean) rm_X7_lets B D Y o [.ref (B + 47), .int x1, .int x2] M r.2 (some (.int r.1)) := by
  refine ofAt (L0 := [(0, .ref (B + 47)), (1, .int x1), (2, .int x2)]) (by decide +kernel) (Nat.le_of_ble_eq_true rfl) rfl (fun p e s m args below meth c C hr hk => ?_)
  dsimp only [f_X7_lets] at hf
  refine A_aload_n C (pc := 0) 0 rfl dX7_lets_0 ?_
  refine A_iload_n C (pc := 1) 1 rfl dX7_lets_1 ?_
  refine A_if_eq C (pc := 2) 9 (by decide) dX7_lets_2 hf (fun _ hf => ?_) (fun _ hf => ?_)
  · refine A_iload_n C (pc := 9) 2 rfl dX7_lets_9 ?_
    obtain ⟨M10, e10, hf⟩ := bd_i hf
    refine A_p7_3 C (pc := 10) kf_X7_35 dX7_lets_10 ?_
    refine A_nmM e10 ?_
    refine A_iload_n C (pc := 13) 1 rfl dX7_lets_13 ?_
    obtain ⟨c14, hf⟩ := chk_i hf
    exact R_iM C (pc := 14) hr hk (isb_nz c14) dX7_lets_14 hf
  · refine A_iconst C (pc := 5) ic_0 dX7_lets_5 ?_
    refine A_goto C (pc := 6) 10 (by decide) dX7_lets_6 ?_
    obtain ⟨M10, e10, hf⟩ := bd_i hf
    refine A_p7_3 C (pc := 10) kf_X7_35 dX7_lets_10 ?_
    refine A_nmM e10 ?_
    refine A_iload_n C (pc := 13) 1 rfl dX7_lets_13 ?_
    obtain ⟨c14, hf⟩ := chk_i hf
    exact R_iM C (pc := 14) hr hk (isb_nz c14) dX7_lets_14 hf
set_option maxRecDepth 100000 in
theorem m_X7_in (l : Launch) (B : Nat) (D : va_G) (Y : Nat → ClassId) (o : Ou) {M0 : Mem} {x0 : Int32} {x1 : Int32} {x2 : Int32} {r : Int32}  (hf : f_X7_in x0 x1 x2 = some r) : MW l yX7_in cX7_in 3 (some .boolean) rm_X7_in B D Y o [.int x0, .int x1, .int x2] M0 M0 (some (.int r)) := by
  refine ofAt (L0 := [(0, .int x0), (1, .int x1), (2, .int x2)]) (by decide +kernel) (Nat.le_of_ble_eq_true rfl) rfl (fun p e s m args below meth c C hr hk => ?_)
  dsimp only [f_X7_in] at hf
  refine A_iload_n C (pc := 0) 0 rfl dX7_in_0 ?_
  refine A_iload_n C (pc := 1) 1 rfl dX7_in_1 ?_
  refine A_icmp_lt C (pc := 2) 14 (by decide) dX7_in_2 hf (fun _ hf => ?_) (fun _ hf => ?_)
  · refine A_iconst C (pc := 14) ic_0 dX7_in_14 ?_
    exact R_iP C (pc := 15) hr hk nz_0 dX7_in_15 hf
  · refine A_iload_n C (pc := 5) 0 rfl dX7_in_5 ?_
    refine A_iload_n C (pc := 6) 2 rfl dX7_in_6 ?_
    refine A_icmp_gt C (pc := 7) 14 (by decide) dX7_in_7 hf (fun _ hf => ?_) (fun _ hf => ?_)
    · refine A_iconst C (pc := 14) ic_0 dX7_in_14 ?_
      exact R_iP C (pc := 15) hr hk nz_0 dX7_in_15 hf
    · refine A_iconst C (pc := 10) ic_1 dX7_in_10 ?_
      refine A_goto C (pc := 11) 15 (by decide) dX7_in_11 ?_
      exact R_iP C (pc := 15) hr hk nz_1 dX7_in_15 hf
set_option maxRecDepth 100000 in
theorem m_X7_isOrder (l : Launch) (B : Nat) (D : va_G) (Y : Nat → ClassId) (o : Ou) {M0 : Mem} {x0 : Int32} {r : Int32}  (hf : f_X7_isOrder x0 = some r) : MW l yX7_isOrder cX7_isOrder 1 (some .boolean) rm_X7_isOrder B D Y o [.int x0] M0 M0 (some (.int r)) := by
  refine ofAt (L0 := [(0, .int x0)]) (by decide +kernel) (Nat.le_of_ble_eq_true rfl) rfl (fun p e s m args below meth c C hr hk => ?_)
  dsimp only [f_X7_isOrder] at hf
  refine A_iload_n C (pc := 0) 0 rfl dX7_isOrder_0 ?_
  refine A_iconst C (pc := 1) ic_0 dX7_isOrder_1 ?_
  refine A_iconst C (pc := 2) ic_3 dX7_isOrder_2 ?_
  obtain ⟨z3, h3, hf⟩ := bd_i hf
  refine A_callS1 C (pc := 3) (A := [.int x0, .int 0, .int 3]) (rest := []) k_X7_39 ky_X7_in ks_X7_in (m_X7_in l B D Y o  h3) rfl rfl (Nat.le_of_ble_eq_true rfl) ⟨rfl, rfl, Nat.le_of_ble_eq_true rfl, Nat.le_of_ble_eq_true rfl⟩ ⟨Nat.zero_le _, Nat.zero_le _⟩ dX7_isOrder_3 ?_
  obtain ⟨c6, hf⟩ := chk_i hf
  exact R_iP C (pc := 6) hr hk (isb_nz c6) dX7_isOrder_6 hf
set_option maxRecDepth 100000 in
theorem m_X7_isThing (l : Launch) (B : Nat) (D : va_G) (Y : Nat → ClassId) (o : Ou) {M : Mem} {x1 : Int32} {x2 : Int32} {r : Int32}  (hf : f_X7_isThing M x1 x2 = some r) : MW l yX7_isThing cX7_isThing 3 (some .boolean) rm_X7_isThing B D Y o [.ref (B + 47), .int x1, .int x2] M M (some (.int r)) := by
  refine ofAt (L0 := [(0, .ref (B + 47)), (1, .int x1), (2, .int x2)]) (by decide +kernel) (Nat.le_of_ble_eq_true rfl) rfl (fun p e s m args below meth c C hr hk => ?_)
  dsimp only [f_X7_isThing] at hf
  refine A_iload_n C (pc := 0) 1 rfl dX7_isThing_0 ?_
  obtain ⟨z1, h1, hf⟩ := bd_i hf
  refine A_callS1 C (pc := 1) (A := [.int x1]) (rest := []) k_X7_43 ky_X7_isOrder ks_X7_isOrder (m_X7_isOrder l B D Y o  h1) rfl rfl (Nat.le_of_ble_eq_true rfl) ⟨rfl, rfl, Nat.le_of_ble_eq_true rfl, Nat.le_of_ble_eq_true rfl⟩ ⟨Nat.zero_le _, Nat.zero_le _⟩ dX7_isThing_1 ?_
  refine A_if_eq C (pc := 4) 27 (by decide) dX7_isThing_4 hf (fun _ hf => ?_) (fun _ hf => ?_)
  · refine A_iconst C (pc := 27) ic_0 dX7_isThing_27 ?_
    exact R_iP C (pc := 28) hr hk nz_0 dX7_isThing_28 hf
  · refine A_iload_n C (pc := 7) 2 rfl dX7_isThing_7 ?_
    refine A_iconst C (pc := 8) ic_0 dX7_isThing_8 ?_
    refine A_aload_n C (pc := 9) 0 rfl dX7_isThing_9 ?_
    refine A_g7_0 C (pc := 10) kf_X7_9 dX7_isThing_10 ?_
    refine A_iload_n C (pc := 13) 1 rfl dX7_isThing_13 ?_
    obtain ⟨c14, hf⟩ := chk_i hf
    refine A_iald C (pc := 14) (show IA 48 5 from ⟨rfl, rfl⟩) c14 dX7_isThing_14 ?_
    refine A_iconst C (pc := 15) ic_1 dX7_isThing_15 ?_
    refine A_isub C (pc := 16) dX7_isThing_16 ?_
    obtain ⟨z17, h17, hf⟩ := bd_i hf
    refine A_callS1 C (pc := 17) (A := [.int x2, .int 0, .int ((M 48 x1.toNatClampNeg) - 1)]) (rest := []) k_X7_39 ky_X7_in ks_X7_in (m_X7_in l B D Y o  h17) rfl rfl (Nat.le_of_ble_eq_true rfl) ⟨rfl, rfl, Nat.le_of_ble_eq_true rfl, Nat.le_of_ble_eq_true rfl⟩ ⟨Nat.zero_le _, Nat.zero_le _⟩ dX7_isThing_17 ?_
    refine A_if_eq C (pc := 20) 27 (by decide) dX7_isThing_20 hf (fun _ hf => ?_) (fun _ hf => ?_)
    · refine A_iconst C (pc := 27) ic_0 dX7_isThing_27 ?_
      exact R_iP C (pc := 28) hr hk nz_0 dX7_isThing_28 hf
    · refine A_iconst C (pc := 23) ic_1 dX7_isThing_23 ?_
      refine A_goto C (pc := 24) 28 (by decide) dX7_isThing_24 ?_
      exact R_iP C (pc := 28) hr hk nz_1 dX7_isThing_28 hf
set_option maxRecDepth 100000 in
theorem m_X7_isSet (l : Launch) (B : Nat) (D : va_G) (Y : Nat → ClassId) (o : Ou) {M : Mem} {x1 : Int32} {x2 : Int32} {r : Int32}  (hf : f_X7_isSet M x1 x2 = some r) : MW l yX7_isSet cX7_isSet 3 (some .boolean) rm_X7_isSet B D Y o [.ref (B + 47), .int x1, .int x2] M M (some (.int r)) := by
  refine ofAt (L0 := [(0, .ref (B + 47)), (1, .int x1), (2, .int x2)]) (by decide +kernel) (Nat.le_of_ble_eq_true rfl) rfl (fun p e s m args below meth c C hr hk => ?_)
  dsimp only [f_X7_isSet] at hf
  refine A_iload_n C (pc := 0) 2 rfl dX7_isSet_0 ?_
  refine A_if_lt C (pc := 1) 20 (by decide) dX7_isSet_1 hf (fun _ hf => ?_) (fun _ hf => ?_)
  · refine A_iconst C (pc := 20) ic_0 dX7_isSet_20 ?_
    exact R_iP C (pc := 21) hr hk nz_0 dX7_isSet_21 hf
  · refine A_iload_n C (pc := 4) 2 rfl dX7_isSet_4 ?_
    refine A_iconst C (pc := 5) ic_1 dX7_isSet_5 ?_
    refine A_aload_n C (pc := 6) 0 rfl dX7_isSet_6 ?_
    refine A_g7_0 C (pc := 7) kf_X7_9 dX7_isSet_7 ?_
    refine A_iload_n C (pc := 10) 1 rfl dX7_isSet_10 ?_
    obtain ⟨c11, hf⟩ := chk_i hf
    refine A_iald C (pc := 11) (show IA 48 5 from ⟨rfl, rfl⟩) c11 dX7_isSet_11 ?_
    refine A_ishl C (pc := 12) dX7_isSet_12 ?_
    refine A_icmp_ge C (pc := 13) 20 (by decide) dX7_isSet_13 hf (fun _ hf => ?_) (fun _ hf => ?_)
    · refine A_iconst C (pc := 20) ic_0 dX7_isSet_20 ?_
      exact R_iP C (pc := 21) hr hk nz_0 dX7_isSet_21 hf
    · refine A_iconst C (pc := 16) ic_1 dX7_isSet_16 ?_
      refine A_goto C (pc := 17) 21 (by decide) dX7_isSet_17 ?_
      exact R_iP C (pc := 21) hr hk nz_1 dX7_isSet_21 hf
set_option maxRecDepth 100000 in
theorem m_X7_has (l : Launch) (B : Nat) (D : va_G) (Y : Nat → ClassId) (o : Ou) {M0 : Mem} {x0 : Int32} {x1 : Int32} {r : Int32}  (hf : f_X7_has x0 x1 = some r) : MW l yX7_has cX7_has 2 (some .boolean) rm_X7_has B D Y o [.int x0, .int x1] M0 M0 (some (.int r)) := by
  refine ofAt (L0 := [(0, .int x0), (1, .int x1)]) (by decide +kernel) (Nat.le_of_ble_eq_true rfl) rfl (fun p e s m args below meth c C hr hk => ?_)
  dsimp only [f_X7_has] at hf
  refine A_iload_n C (pc := 0) 0 rfl dX7_has_0 ?_
  refine A_iload_n C (pc := 1) 1 rfl dX7_has_1 ?_
  refine A_ishr C (pc := 2) dX7_has_2 ?_
  refine A_iconst C (pc := 3) ic_1 dX7_has_3 ?_
  refine A_iand C (pc := 4) dX7_has_4 ?_
  refine A_iconst C (pc := 5) ic_1 dX7_has_5 ?_
  refine A_icmp_ne C (pc := 6) 13 (by decide) dX7_has_6 hf (fun _ hf => ?_) (fun _ hf => ?_)
  · refine A_iconst C (pc := 13) ic_0 dX7_has_13 ?_
    exact R_iP C (pc := 14) hr hk nz_0 dX7_has_14 hf
  · refine A_iconst C (pc := 9) ic_1 dX7_has_9 ?_
    refine A_goto C (pc := 10) 14 (by decide) dX7_has_10 ?_
    exact R_iP C (pc := 14) hr hk nz_1 dX7_has_14 hf
set_option maxRecDepth 100000 in
theorem w_X7_manyIn_L4 {M0 : Mem} {x0 : Int32} {r : Int32} (C : Cx p s m args c cX7_manyIn 3 RX7 B D Y) (hr : meth.sig.returnType = (some .int)) (hk : meth.locks = false)  : ∀ (n : Nat) (x1 : Int32) (x2 : Int32), f_X7_manyIn_L4 x0 n (x1, x2) = some r → At p l e rm_X7_manyIn s m args below meth c 3 0 0 (QQ below args s B D Y M0 o (some (.int r))) B D Y o 4 M0 [(0, .int x0), (1, .int x1), (2, .int x2)] [] := by
  intro n
  induction n with
  | zero => intro x1 x2 hf; exact nomatch (show (none : Option Int32) = some r from hf)
  | succ n hk4 =>
    intro x1 x2 hf
    replace hf : g_X7_manyIn_L4 x0 (f_X7_manyIn_L4 x0 n) (x1, x2) = some r := hf
    dsimp only [g_X7_manyIn_L4] at hf
    refine A_iload_n C (pc := 4) 2 rfl dX7_manyIn_4 ?_
    refine A_bipush C (pc := 5) bc_9 dX7_manyIn_5 ?_
    refine A_icmp_ge C (pc := 7) 32 (by decide) dX7_manyIn_7 hf (fun _ hf => ?_) (fun _ hf => ?_)
    · refine A_iload_n C (pc := 32) 1 rfl dX7_manyIn_32 ?_
      exact R_iP C (pc := 33) hr hk rfl dX7_manyIn_33 hf
    · refine A_iload_n C (pc := 10) 1 rfl dX7_manyIn_10 ?_
      refine A_iload_n C (pc := 11) 0 rfl dX7_manyIn_11 ?_
      refine A_iload_n C (pc := 12) 2 rfl dX7_manyIn_12 ?_
      obtain ⟨z13, h13, hf⟩ := bd_i hf
      refine A_callS1 C (pc := 13) (A := [.int x0, .int x2]) (rest := [.int x1]) k_X7_47 ky_X7_has ks_X7_has (m_X7_has l B D Y o  h13) rfl rfl (Nat.le_of_ble_eq_true rfl) ⟨rfl, rfl, Nat.le_of_ble_eq_true rfl, Nat.le_of_ble_eq_true rfl⟩ ⟨Nat.zero_le _, Nat.zero_le _⟩ dX7_manyIn_13 ?_
      refine A_if_eq C (pc := 16) 23 (by decide) dX7_manyIn_16 hf (fun _ hf => ?_) (fun _ hf => ?_)
      · refine A_iconst C (pc := 23) ic_0 dX7_manyIn_23 ?_
        refine A_iadd C (pc := 24) dX7_manyIn_24 ?_
        obtain ⟨v25, e25, hf⟩ := bd_i hf
        refine A_nmI e25 ?_
        refine A_istore_n C (pc := 25) [(0, .int x0), (1, .int v25), (2, .int x2)] rfl (by decide) [1, 0, 2] rfl dX7_manyIn_25 ?_
        refine A_iinc C (pc := 26) (k0 := 2) [(0, .int x0), (1, .int v25), (2, .int (x2 + 1))] rfl ic_1 (by decide) [1, 2, 0] rfl dX7_manyIn_26 ?_
        refine A_goto C (pc := 29) 4 (by decide) dX7_manyIn_29 ?_
        exact hk4 _ _ hf
      · refine A_iconst C (pc := 19) ic_1 dX7_manyIn_19 ?_
        refine A_goto C (pc := 20) 24 (by decide) dX7_manyIn_20 ?_
        refine A_iadd C (pc := 24) dX7_manyIn_24 ?_
        obtain ⟨v25, e25, hf⟩ := bd_i hf
        refine A_nmI e25 ?_
        refine A_istore_n C (pc := 25) [(0, .int x0), (1, .int v25), (2, .int x2)] rfl (by decide) [1, 0, 2] rfl dX7_manyIn_25 ?_
        refine A_iinc C (pc := 26) (k0 := 2) [(0, .int x0), (1, .int v25), (2, .int (x2 + 1))] rfl ic_1 (by decide) [1, 2, 0] rfl dX7_manyIn_26 ?_
        refine A_goto C (pc := 29) 4 (by decide) dX7_manyIn_29 ?_
        exact hk4 _ _ hf
set_option maxRecDepth 100000 in
theorem m_X7_manyIn (l : Launch) (B : Nat) (D : va_G) (Y : Nat → ClassId) (o : Ou) {M0 : Mem} {x0 : Int32} {r : Int32}  (hf : f_X7_manyIn x0 = some r) : MW l yX7_manyIn cX7_manyIn 3 (some .int) rm_X7_manyIn B D Y o [.int x0] M0 M0 (some (.int r)) := by
  refine ofAt (L0 := [(0, .int x0)]) (by decide +kernel) (Nat.le_of_ble_eq_true rfl) rfl (fun p e s m args below meth c C hr hk => ?_)
  dsimp only [f_X7_manyIn] at hf
  refine A_iconst C (pc := 0) ic_0 dX7_manyIn_0 ?_
  refine A_istore_n C (pc := 1) [(0, .int x0), (1, .int 0)] rfl (by decide) [1, 0] rfl dX7_manyIn_1 ?_
  refine A_iconst C (pc := 2) ic_0 dX7_manyIn_2 ?_
  refine A_istore_n C (pc := 3) [(0, .int x0), (1, .int 0), (2, .int 0)] rfl (by decide) [1, 2, 0] rfl dX7_manyIn_3 ?_
  exact w_X7_manyIn_L4 C hr hk FU _ _  hf
set_option maxRecDepth 100000 in
theorem w_X7_empty_L27 {x1 : Int32} {x3 : Int32} {r : Mem} (C : Cx p s m args c cX7_empty 5 RX7 B D Y) (hr : meth.sig.returnType = none) (hk : meth.locks = false)  {k9 : (Int32 × Mem) → Option Mem} (hk9 : ∀ (x3 : Int32) (M : Mem), k9 (x3, M) = some r → At p l e rm_X7_empty s m args below meth c 5 0 0 (QQ below args s B D Y r o none) B D Y o 9 M [(0, .ref (B + 47)), (1, .int x1), (3, .int x3)] []) : ∀ (n : Nat) (x4 : Int32) (M : Mem), f_X7_empty_L27 x1 x3 k9 n (x4, M) = some r → At p l e rm_X7_empty s m args below meth c 5 0 0 (QQ below args s B D Y r o none) B D Y o 27 M [(0, .ref (B + 47)), (1, .int x1), (3, .int x3), (4, .int x4)] [] := by
  intro n
  induction n with
  | zero => intro x4 M hf; exact nomatch (show (none : Option Mem) = some r from hf)
  | succ n hk27 =>
    intro x4 M hf
    replace hf : g_X7_empty_L27 x1 x3 k9 (f_X7_empty_L27 x1 x3 k9 n) (x4, M) = some r := hf
    dsimp only [g_X7_empty_L27] at hf
    refine A_iload C (pc := 27) 3 rfl dX7_empty_27 ?_
    refine A_bipush C (pc := 29) bc_9 dX7_empty_29 ?_
    refine A_icmp_ge C (pc := 31) 52 (by decide) dX7_empty_31 hf (fun _ hf => ?_) (fun _ hf => ?_)
    · refine A_iinc C (pc := 52) (k0 := 2) [(0, .ref (B + 47)), (1, .int x1), (3, .int (x3 + 1))] rfl ic_1 (by decide) [1, 2, 0] rfl dX7_empty_52 ?_
      refine A_goto C (pc := 55) 9 (by decide) dX7_empty_55 ?_
      exact hk9 _ _ hf
    · refine A_aload_n C (pc := 34) 0 rfl dX7_empty_34 ?_
      refine A_g7_2 C (pc := 35) kf_X7_20 dX7_empty_35 ?_
      refine A_iload_n C (pc := 38) 1 rfl dX7_empty_38 ?_
      obtain ⟨c39, hf⟩ := chk_i hf
      refine A_aB C (pc := 39) c39 dX7_empty_39 ?_
      refine A_iload_n C (pc := 40) 2 rfl dX7_empty_40 ?_
      obtain ⟨c41, hf⟩ := chk_i hf
      refine A_aR C (pc := 41) (kBel (inb_lt c39)) c41 dX7_empty_41 ?_
      refine A_iload C (pc := 42) 3 rfl dX7_empty_42 ?_
      refine A_iconst C (pc := 44) ic_0 dX7_empty_44 ?_
      obtain ⟨c45, hf⟩ := chk_i hf
      obtain ⟨b45, hf⟩ := chk_i hf
      obtain ⟨M45, e45, hf⟩ := bd_i hf
      refine A_zast C (pc := 45) (kRow (kBel (inb_lt c39)) (inb_lt c41)) c45 b45 dX7_empty_45 ?_
      refine A_nmM e45 ?_
      refine A_iinc C (pc := 46) (k0 := 3) [(0, .ref (B + 47)), (1, .int x1), (3, .int x3), (4, .int (x4 + 1))] rfl ic_1 (by decide) [1, 2, 3, 0] rfl dX7_empty_46 ?_
      refine A_goto C (pc := 49) 27 (by decide) dX7_empty_49 ?_
      exact hk27 _ _ hf
set_option maxRecDepth 100000 in
theorem w_X7_empty_L9 {x1 : Int32} {r : Mem} (C : Cx p s m args c cX7_empty 5 RX7 B D Y) (hr : meth.sig.returnType = none) (hk : meth.locks = false)  : ∀ (n : Nat) (x3 : Int32) (M : Mem), f_X7_empty_L9 x1 n (x3, M) = some r → At p l e rm_X7_empty s m args below meth c 5 0 0 (QQ below args s B D Y r o none) B D Y o 9 M [(0, .ref (B + 47)), (1, .int x1), (3, .int x3)] [] := by
  intro n
  induction n with
  | zero => intro x3 M hf; exact nomatch (show (none : Option Mem) = some r from hf)
  | succ n hk9 =>
    intro x3 M hf
    replace hf : g_X7_empty_L9 x1 (f_X7_empty_L9 x1 n) (x3, M) = some r := hf
    dsimp only [g_X7_empty_L9] at hf
    refine A_iload_n C (pc := 9) 2 rfl dX7_empty_9 ?_
    refine A_bipush C (pc := 10) bc_9 dX7_empty_10 ?_
    refine A_icmp_ge C (pc := 12) 58 (by decide) dX7_empty_12 hf (fun _ hf => ?_) (fun _ hf => ?_)
    · exact R_vM C (pc := 58) hr hk dX7_empty_58 hf
    · refine A_aload_n C (pc := 15) 0 rfl dX7_empty_15 ?_
      refine A_g7_1 C (pc := 16) kf_X7_15 dX7_empty_16 ?_
      refine A_iload_n C (pc := 19) 1 rfl dX7_empty_19 ?_
      obtain ⟨c20, hf⟩ := chk_i hf
      refine A_aV C (pc := 20) c20 dX7_empty_20 ?_
      refine A_iload_n C (pc := 21) 2 rfl dX7_empty_21 ?_
      refine A_iconst C (pc := 22) ic_0 dX7_empty_22 ?_
      obtain ⟨c23, hf⟩ := chk_i hf
      obtain ⟨M23, e23, hf⟩ := bd_i hf
      refine A_iast C (pc := 23) (iVal (inb_lt c20)) c23 dX7_empty_23 ?_
      refine A_nmM e23 ?_
      refine A_iconst C (pc := 24) ic_0 dX7_empty_24 ?_
      refine A_istore C (pc := 25) [(0, .ref (B + 47)), (1, .int x1), (3, .int x3), (4, .int 0)] (by decide) [1, 2, 3, 0] rfl dX7_empty_25 ?_
      exact w_X7_empty_L27 C hr hk hk9 FU _ _  hf
set_option maxRecDepth 100000 in
theorem m_X7_empty (l : Launch) (B : Nat) (D : va_G) (Y : Nat → ClassId) (o : Ou) {M : Mem} {x1 : Int32} {x2 : Int32} {r : Mem}  (hf : f_X7_empty M x1 x2 = some r) : MW l yX7_empty cX7_empty 5 none rm_X7_empty B D Y o [.ref (B + 47), .int x1, .int x2] M r none := by
  refine ofAt (L0 := [(0, .ref (B + 47)), (1, .int x1), (2, .int x2)]) (by decide +kernel) (Nat.le_of_ble_eq_true rfl) rfl (fun p e s m args below meth c C hr hk => ?_)
  dsimp only [f_X7_empty] at hf
  refine A_aload_n C (pc := 0) 0 rfl dX7_empty_0 ?_
  refine A_g7_0 C (pc := 1) kf_X7_9 dX7_empty_1 ?_
  refine A_iload_n C (pc := 4) 1 rfl dX7_empty_4 ?_
  refine A_iload_n C (pc := 5) 2 rfl dX7_empty_5 ?_
  obtain ⟨c6, hf⟩ := chk_i hf
  obtain ⟨M6, e6, hf⟩ := bd_i hf
  refine A_iast C (pc := 6) (show IA 48 5 from ⟨rfl, rfl⟩) c6 dX7_empty_6 ?_
  refine A_nmM e6 ?_
  refine A_iconst C (pc := 7) ic_0 dX7_empty_7 ?_
  refine A_istore_n C (pc := 8) [(0, .ref (B + 47)), (1, .int x1), (3, .int 0)] rfl (by decide) [1, 2, 0] rfl dX7_empty_8 ?_
  exact w_X7_empty_L9 C hr hk FU _ _  hf
set_option maxRecDepth 100000 in
theorem w_X7_becomes_L39 {x1 : Int32} {x2 : Int32} {x3 : Int32} {r : Mem} (C : Cx p s m args c cX7_becomes 5 RX7 B D Y) (hr : meth.sig.returnType = none) (hk : meth.locks = false)  {k14 : (Int32 × Mem) → Option Mem} (hk14 : ∀ (x3 : Int32) (M : Mem), k14 (x3, M) = some r → At p l e rm_X7_becomes s m args below meth c 5 0 0 (QQ below args s B D Y r o none) B D Y o 14 M [(0, .ref (B + 47)), (1, .int x1), (2, .int x2), (3, .int x3)] []) : ∀ (n : Nat) (x4 : Int32) (M : Mem), f_X7_becomes_L39 x1 x2 x3 k14 n (x4, M) = some r → At p l e rm_X7_becomes s m args below meth c 5 0 0 (QQ below args s B D Y r o none) B D Y o 39 M [(0, .ref (B + 47)), (1, .int x1), (2, .int x2), (3, .int x3), (4, .int x4)] [] := by
  intro n
  induction n with
  | zero => intro x4 M hf; exact nomatch (show (none : Option Mem) = some r from hf)
  | succ n hk39 =>
    intro x4 M hf
    replace hf : g_X7_becomes_L39 x1 x2 x3 k14 (f_X7_becomes_L39 x1 x2 x3 k14 n) (x4, M) = some r := hf
    dsimp only [g_X7_becomes_L39] at hf
    refine A_iload C (pc := 39) 4 rfl dX7_becomes_39 ?_
    refine A_bipush C (pc := 41) bc_9 dX7_becomes_41 ?_
    refine A_icmp_ge C (pc := 43) 74 (by decide) dX7_becomes_43 hf (fun _ hf => ?_) (fun _ hf => ?_)
    · refine A_iinc C (pc := 74) (k0 := 3) [(0, .ref (B + 47)), (1, .int x1), (2, .int x2), (3, .int (x3 + 1))] rfl ic_1 (by decide) [1, 2, 3, 0] rfl dX7_becomes_74 ?_
      refine A_goto C (pc := 77) 14 (by decide) dX7_becomes_77 ?_
      exact hk14 _ _ hf
    · refine A_aload_n C (pc := 46) 0 rfl dX7_becomes_46 ?_
      refine A_g7_2 C (pc := 47) kf_X7_20 dX7_becomes_47 ?_
      refine A_iload_n C (pc := 50) 1 rfl dX7_becomes_50 ?_
      obtain ⟨c51, hf⟩ := chk_i hf
      refine A_aB C (pc := 51) c51 dX7_becomes_51 ?_
      refine A_iload_n C (pc := 52) 3 rfl dX7_becomes_52 ?_
      obtain ⟨c53, hf⟩ := chk_i hf
      refine A_aR C (pc := 53) (kBel (inb_lt c51)) c53 dX7_becomes_53 ?_
      refine A_iload C (pc := 54) 4 rfl dX7_becomes_54 ?_
      refine A_aload_n C (pc := 56) 0 rfl dX7_becomes_56 ?_
      refine A_g7_2 C (pc := 57) kf_X7_20 dX7_becomes_57 ?_
      refine A_iload_n C (pc := 60) 2 rfl dX7_becomes_60 ?_
      obtain ⟨c61, hf⟩ := chk_i hf
      refine A_aB C (pc := 61) c61 dX7_becomes_61 ?_
      refine A_iload_n C (pc := 62) 3 rfl dX7_becomes_62 ?_
      obtain ⟨c63, hf⟩ := chk_i hf
      refine A_aR C (pc := 63) (kBel (inb_lt c61)) c63 dX7_becomes_63 ?_
      refine A_iload C (pc := 64) 4 rfl dX7_becomes_64 ?_
      obtain ⟨c66, hf⟩ := chk_i hf
      refine A_zald C (pc := 66) (kRow (kBel (inb_lt c61)) (inb_lt c63)) c66 dX7_becomes_66 ?_
      obtain ⟨c67, hf⟩ := chk_i hf
      obtain ⟨b67, hf⟩ := chk_i hf
      obtain ⟨M67, e67, hf⟩ := bd_i hf
      refine A_zast C (pc := 67) (kRow (kBel (inb_lt c51)) (inb_lt c53)) c67 b67 dX7_becomes_67 ?_
      refine A_nmM e67 ?_
      refine A_iinc C (pc := 68) (k0 := 4) [(0, .ref (B + 47)), (1, .int x1), (2, .int x2), (3, .int x3), (4, .int (x4 + 1))] rfl ic_1 (by decide) [1, 2, 3, 4, 0] rfl dX7_becomes_68 ?_
      refine A_goto C (pc := 71) 39 (by decide) dX7_becomes_71 ?_
      exact hk39 _ _ hf
set_option maxRecDepth 100000 in
theorem w_X7_becomes_L14 {x1 : Int32} {x2 : Int32} {r : Mem} (C : Cx p s m args c cX7_becomes 5 RX7 B D Y) (hr : meth.sig.returnType = none) (hk : meth.locks = false)  : ∀ (n : Nat) (x3 : Int32) (M : Mem), f_X7_becomes_L14 x1 x2 n (x3, M) = some r → At p l e rm_X7_becomes s m args below meth c 5 0 0 (QQ below args s B D Y r o none) B D Y o 14 M [(0, .ref (B + 47)), (1, .int x1), (2, .int x2), (3, .int x3)] [] := by
  intro n
  induction n with
  | zero => intro x3 M hf; exact nomatch (show (none : Option Mem) = some r from hf)
  | succ n hk14 =>
    intro x3 M hf
    replace hf : g_X7_becomes_L14 x1 x2 (f_X7_becomes_L14 x1 x2 n) (x3, M) = some r := hf
    dsimp only [g_X7_becomes_L14] at hf
    refine A_iload_n C (pc := 14) 3 rfl dX7_becomes_14 ?_
    refine A_bipush C (pc := 15) bc_9 dX7_becomes_15 ?_
    refine A_icmp_ge C (pc := 17) 80 (by decide) dX7_becomes_17 hf (fun _ hf => ?_) (fun _ hf => ?_)
    · exact R_vM C (pc := 80) hr hk dX7_becomes_80 hf
    · refine A_aload_n C (pc := 20) 0 rfl dX7_becomes_20 ?_
      refine A_g7_1 C (pc := 21) kf_X7_15 dX7_becomes_21 ?_
      refine A_iload_n C (pc := 24) 1 rfl dX7_becomes_24 ?_
      obtain ⟨c25, hf⟩ := chk_i hf
      refine A_aV C (pc := 25) c25 dX7_becomes_25 ?_
      refine A_iload_n C (pc := 26) 3 rfl dX7_becomes_26 ?_
      refine A_aload_n C (pc := 27) 0 rfl dX7_becomes_27 ?_
      refine A_g7_1 C (pc := 28) kf_X7_15 dX7_becomes_28 ?_
      refine A_iload_n C (pc := 31) 2 rfl dX7_becomes_31 ?_
      obtain ⟨c32, hf⟩ := chk_i hf
      refine A_aV C (pc := 32) c32 dX7_becomes_32 ?_
      refine A_iload_n C (pc := 33) 3 rfl dX7_becomes_33 ?_
      obtain ⟨c34, hf⟩ := chk_i hf
      refine A_iald C (pc := 34) (iVal (inb_lt c32)) c34 dX7_becomes_34 ?_
      obtain ⟨c35, hf⟩ := chk_i hf
      obtain ⟨M35, e35, hf⟩ := bd_i hf
      refine A_iast C (pc := 35) (iVal (inb_lt c25)) c35 dX7_becomes_35 ?_
      refine A_nmM e35 ?_
      refine A_iconst C (pc := 36) ic_0 dX7_becomes_36 ?_
      refine A_istore C (pc := 37) [(0, .ref (B + 47)), (1, .int x1), (2, .int x2), (3, .int x3), (4, .int 0)] (by decide) [1, 2, 3, 4, 0] rfl dX7_becomes_37 ?_
      exact w_X7_becomes_L39 C hr hk hk14 FU _ _  hf
set_option maxRecDepth 100000 in
theorem m_X7_becomes (l : Launch) (B : Nat) (D : va_G) (Y : Nat → ClassId) (o : Ou) {M : Mem} {x1 : Int32} {x2 : Int32} {r : Mem}  (hf : f_X7_becomes M x1 x2 = some r) : MW l yX7_becomes cX7_becomes 5 none rm_X7_becomes B D Y o [.ref (B + 47), .int x1, .int x2] M r none := by
  refine ofAt (L0 := [(0, .ref (B + 47)), (1, .int x1), (2, .int x2)]) (by decide +kernel) (Nat.le_of_ble_eq_true rfl) rfl (fun p e s m args below meth c C hr hk => ?_)
  dsimp only [f_X7_becomes] at hf
  refine A_aload_n C (pc := 0) 0 rfl dX7_becomes_0 ?_
  refine A_g7_0 C (pc := 1) kf_X7_9 dX7_becomes_1 ?_
  refine A_iload_n C (pc := 4) 1 rfl dX7_becomes_4 ?_
  refine A_aload_n C (pc := 5) 0 rfl dX7_becomes_5 ?_
  refine A_g7_0 C (pc := 6) kf_X7_9 dX7_becomes_6 ?_
  refine A_iload_n C (pc := 9) 2 rfl dX7_becomes_9 ?_
  obtain ⟨c10, hf⟩ := chk_i hf
  refine A_iald C (pc := 10) (show IA 48 5 from ⟨rfl, rfl⟩) c10 dX7_becomes_10 ?_
  obtain ⟨c11, hf⟩ := chk_i hf
  obtain ⟨M11, e11, hf⟩ := bd_i hf
  refine A_iast C (pc := 11) (show IA 48 5 from ⟨rfl, rfl⟩) c11 dX7_becomes_11 ?_
  refine A_nmM e11 ?_
  refine A_iconst C (pc := 12) ic_0 dX7_becomes_12 ?_
  refine A_istore_n C (pc := 13) [(0, .ref (B + 47)), (1, .int x1), (2, .int x2), (3, .int 0)] rfl (by decide) [1, 2, 3, 0] rfl dX7_becomes_13 ?_
  exact w_X7_becomes_L14 C hr hk FU _ _  hf
set_option maxRecDepth 100000 in
theorem w_X7_pairsOf_L17 {M : Mem} {x1 : Int32} {x3 : Int32} {r : Int32} (C : Cx p s m args c cX7_pairsOf 5 RX7 B D Y) (hr : meth.sig.returnType = (some .int)) (hk : meth.locks = false)  {k4 : (Int32 × Int32) → Option Int32} (hk4 : ∀ (x2 : Int32) (x3 : Int32), k4 (x2, x3) = some r → At p l e rm_X7_pairsOf s m args below meth c 5 0 0 (QQ below args s B D Y M o (some (.int r))) B D Y o 4 M [(0, .ref (B + 47)), (1, .int x1), (2, .int x2), (3, .int x3)] []) : ∀ (n : Nat) (x2 : Int32) (x4 : Int32), f_X7_pairsOf_L17 M x1 x3 k4 n (x2, x4) = some r → At p l e rm_X7_pairsOf s m args below meth c 5 0 0 (QQ below args s B D Y M o (some (.int r))) B D Y o 17 M [(0, .ref (B + 47)), (1, .int x1), (2, .int x2), (3, .int x3), (4, .int x4)] [] := by
  intro n
  induction n with
  | zero => intro x2 x4 hf; exact nomatch (show (none : Option Int32) = some r from hf)
  | succ n hk17 =>
    intro x2 x4 hf
    replace hf : g_X7_pairsOf_L17 M x1 x3 k4 (f_X7_pairsOf_L17 M x1 x3 k4 n) (x2, x4) = some r := hf
    dsimp only [g_X7_pairsOf_L17] at hf
    refine A_iload C (pc := 17) 4 rfl dX7_pairsOf_17 ?_
    refine A_aload_n C (pc := 19) 0 rfl dX7_pairsOf_19 ?_
    refine A_g7_0 C (pc := 20) kf_X7_9 dX7_pairsOf_20 ?_
    refine A_iload_n C (pc := 23) 1 rfl dX7_pairsOf_23 ?_
    obtain ⟨c24, hf⟩ := chk_i hf
    refine A_iald C (pc := 24) (show IA 48 5 from ⟨rfl, rfl⟩) c24 dX7_pairsOf_24 ?_
    refine A_icmp_ge C (pc := 25) 56 (by decide) dX7_pairsOf_25 hf (fun _ hf => ?_) (fun _ hf => ?_)
    · refine A_iinc C (pc := 56) (k0 := 3) [(0, .ref (B + 47)), (1, .int x1), (2, .int x2), (3, .int (x3 + 1))] rfl ic_1 (by decide) [1, 2, 3, 0] rfl dX7_pairsOf_56 ?_
      refine A_goto C (pc := 59) 4 (by decide) dX7_pairsOf_59 ?_
      exact hk4 _ _ hf
    · refine A_iload_n C (pc := 28) 2 rfl dX7_pairsOf_28 ?_
      refine A_aload_n C (pc := 29) 0 rfl dX7_pairsOf_29 ?_
      refine A_g7_2 C (pc := 30) kf_X7_20 dX7_pairsOf_30 ?_
      refine A_iload_n C (pc := 33) 1 rfl dX7_pairsOf_33 ?_
      obtain ⟨c34, hf⟩ := chk_i hf
      refine A_aB C (pc := 34) c34 dX7_pairsOf_34 ?_
      refine A_iload_n C (pc := 35) 3 rfl dX7_pairsOf_35 ?_
      obtain ⟨c36, hf⟩ := chk_i hf
      refine A_aR C (pc := 36) (kBel (inb_lt c34)) c36 dX7_pairsOf_36 ?_
      refine A_iload C (pc := 37) 4 rfl dX7_pairsOf_37 ?_
      obtain ⟨c39, hf⟩ := chk_i hf
      refine A_zald C (pc := 39) (kRow (kBel (inb_lt c34)) (inb_lt c36)) c39 dX7_pairsOf_39 ?_
      refine A_if_eq C (pc := 40) 47 (by decide) dX7_pairsOf_40 hf (fun _ hf => ?_) (fun _ hf => ?_)
      · refine A_iconst C (pc := 47) ic_0 dX7_pairsOf_47 ?_
        refine A_iadd C (pc := 48) dX7_pairsOf_48 ?_
        obtain ⟨v49, e49, hf⟩ := bd_i hf
        refine A_nmI e49 ?_
        refine A_istore_n C (pc := 49) [(0, .ref (B + 47)), (1, .int x1), (2, .int v49), (3, .int x3), (4, .int x4)] rfl (by decide) [1, 2, 0, 3, 4] rfl dX7_pairsOf_49 ?_
        refine A_iinc C (pc := 50) (k0 := 4) [(0, .ref (B + 47)), (1, .int x1), (2, .int v49), (3, .int x3), (4, .int (x4 + 1))] rfl ic_1 (by decide) [1, 2, 3, 4, 0] rfl dX7_pairsOf_50 ?_
        refine A_goto C (pc := 53) 17 (by decide) dX7_pairsOf_53 ?_
        exact hk17 _ _ hf
      · refine A_iconst C (pc := 43) ic_1 dX7_pairsOf_43 ?_
        refine A_goto C (pc := 44) 48 (by decide) dX7_pairsOf_44 ?_
        refine A_iadd C (pc := 48) dX7_pairsOf_48 ?_
        obtain ⟨v49, e49, hf⟩ := bd_i hf
        refine A_nmI e49 ?_
        refine A_istore_n C (pc := 49) [(0, .ref (B + 47)), (1, .int x1), (2, .int v49), (3, .int x3), (4, .int x4)] rfl (by decide) [1, 2, 0, 3, 4] rfl dX7_pairsOf_49 ?_
        refine A_iinc C (pc := 50) (k0 := 4) [(0, .ref (B + 47)), (1, .int x1), (2, .int v49), (3, .int x3), (4, .int (x4 + 1))] rfl ic_1 (by decide) [1, 2, 3, 4, 0] rfl dX7_pairsOf_50 ?_
        refine A_goto C (pc := 53) 17 (by decide) dX7_pairsOf_53 ?_
        exact hk17 _ _ hf
set_option maxRecDepth 100000 in
theorem w_X7_pairsOf_L4 {M : Mem} {x1 : Int32} {r : Int32} (C : Cx p s m args c cX7_pairsOf 5 RX7 B D Y) (hr : meth.sig.returnType = (some .int)) (hk : meth.locks = false)  : ∀ (n : Nat) (x2 : Int32) (x3 : Int32), f_X7_pairsOf_L4 M x1 n (x2, x3) = some r → At p l e rm_X7_pairsOf s m args below meth c 5 0 0 (QQ below args s B D Y M o (some (.int r))) B D Y o 4 M [(0, .ref (B + 47)), (1, .int x1), (2, .int x2), (3, .int x3)] [] := by
  intro n
  induction n with
  | zero => intro x2 x3 hf; exact nomatch (show (none : Option Int32) = some r from hf)
  | succ n hk4 =>
    intro x2 x3 hf
    replace hf : g_X7_pairsOf_L4 M x1 (f_X7_pairsOf_L4 M x1 n) (x2, x3) = some r := hf
    dsimp only [g_X7_pairsOf_L4] at hf
    refine A_iload_n C (pc := 4) 3 rfl dX7_pairsOf_4 ?_
    refine A_aload_n C (pc := 5) 0 rfl dX7_pairsOf_5 ?_
    refine A_g7_0 C (pc := 6) kf_X7_9 dX7_pairsOf_6 ?_
    refine A_iload_n C (pc := 9) 1 rfl dX7_pairsOf_9 ?_
    obtain ⟨c10, hf⟩ := chk_i hf
    refine A_iald C (pc := 10) (show IA 48 5 from ⟨rfl, rfl⟩) c10 dX7_pairsOf_10 ?_
    refine A_icmp_ge C (pc := 11) 62 (by decide) dX7_pairsOf_11 hf (fun _ hf => ?_) (fun _ hf => ?_)
    · refine A_iload_n C (pc := 62) 2 rfl dX7_pairsOf_62 ?_
      exact R_iP C (pc := 63) hr hk rfl dX7_pairsOf_63 hf
    · refine A_iconst C (pc := 14) ic_0 dX7_pairsOf_14 ?_
      refine A_istore C (pc := 15) [(0, .ref (B + 47)), (1, .int x1), (2, .int x2), (3, .int x3), (4, .int 0)] (by decide) [1, 2, 3, 4, 0] rfl dX7_pairsOf_15 ?_
      exact w_X7_pairsOf_L17 C hr hk hk4 FU _ _  hf
set_option maxRecDepth 100000 in
theorem m_X7_pairsOf (l : Launch) (B : Nat) (D : va_G) (Y : Nat → ClassId) (o : Ou) {M : Mem} {x1 : Int32} {r : Int32}  (hf : f_X7_pairsOf M x1 = some r) : MW l yX7_pairsOf cX7_pairsOf 5 (some .int) rm_X7_pairsOf B D Y o [.ref (B + 47), .int x1] M M (some (.int r)) := by
  refine ofAt (L0 := [(0, .ref (B + 47)), (1, .int x1)]) (by decide +kernel) (Nat.le_of_ble_eq_true rfl) rfl (fun p e s m args below meth c C hr hk => ?_)
  dsimp only [f_X7_pairsOf] at hf
  refine A_iconst C (pc := 0) ic_0 dX7_pairsOf_0 ?_
  refine A_istore_n C (pc := 1) [(0, .ref (B + 47)), (1, .int x1), (2, .int 0)] rfl (by decide) [1, 2, 0] rfl dX7_pairsOf_1 ?_
  refine A_iconst C (pc := 2) ic_0 dX7_pairsOf_2 ?_
  refine A_istore_n C (pc := 3) [(0, .ref (B + 47)), (1, .int x1), (2, .int 0), (3, .int 0)] rfl (by decide) [1, 2, 3, 0] rfl dX7_pairsOf_3 ?_
  exact w_X7_pairsOf_L4 C hr hk FU _ _  hf
set_option maxRecDepth 100000 in
theorem m_X7_lay (l : Launch) (B : Nat) (D : va_G) (Y : Nat → ClassId) (o : Ou) {M : Mem} {x1 : Int32} {x2 : Int32} {r : Int32 × Mem}  (hf : f_X7_lay M x1 x2 = some r) : MW l yX7_lay cX7_lay 4 (some .int) rm_X7_lay B D Y o [.ref (B + 47), .int x1, .int x2] M r.2 (some (.int r.1)) := by
  refine ofAt (L0 := [(0, .ref (B + 47)), (1, .int x1), (2, .int x2)]) (by decide +kernel) (Nat.le_of_ble_eq_true rfl) rfl (fun p e s m args below meth c C hr hk => ?_)
  dsimp only [f_X7_lay] at hf
  refine A_aload_n C (pc := 0) 0 rfl dX7_lay_0 ?_
  refine A_iload_n C (pc := 1) 1 rfl dX7_lay_1 ?_
  obtain ⟨z2, h2, hf⟩ := bd_i hf
  refine A_callS1 C (pc := 2) (A := [.int x1]) (rest := [.ref (B + 47)]) k_X7_43 ky_X7_isOrder ks_X7_isOrder (m_X7_isOrder l B D Y o  h2) rfl rfl (Nat.le_of_ble_eq_true rfl) ⟨rfl, rfl, Nat.le_of_ble_eq_true rfl, Nat.le_of_ble_eq_true rfl⟩ ⟨Nat.zero_le _, Nat.zero_le _⟩ dX7_lay_2 ?_
  refine A_iconst C (pc := 5) ic_1 dX7_lay_5 ?_
  obtain ⟨z6, h6, hf⟩ := bd_i hf
  refine A_callV1 C (pc := 6) (A := [.int z2, .int 1]) (rest := []) k_X7_51 ky_X7_lets kv_X7_lets (m_X7_lets l B D Y o  h6) (by decide) rfl rfl rfl rfl (Nat.le_of_ble_eq_true rfl) ⟨rfl, rfl, Nat.le_of_ble_eq_true rfl, Nat.le_of_ble_eq_true rfl⟩ ⟨Nat.zero_le _, Nat.zero_le _⟩ dX7_lay_6 ?_
  refine A_if_eq C (pc := 9) 27 (by decide) dX7_lay_9 hf (fun _ hf => ?_) (fun _ hf => ?_)
  · refine A_iconst C (pc := 27) ic_0 dX7_lay_27 ?_
    exact R_iM C (pc := 28) hr hk rfl dX7_lay_28 hf
  · refine A_aload_n C (pc := 12) 0 rfl dX7_lay_12 ?_
    refine A_iload_n C (pc := 13) 2 rfl dX7_lay_13 ?_
    refine A_iconst C (pc := 14) ic_0 dX7_lay_14 ?_
    refine A_bipush C (pc := 15) bc_9 dX7_lay_15 ?_
    obtain ⟨z17, h17, hf⟩ := bd_i hf
    refine A_callS1 C (pc := 17) (A := [.int x2, .int 0, .int 9]) (rest := [.ref (B + 47)]) k_X7_39 ky_X7_in ks_X7_in (m_X7_in l B D Y o  h17) rfl rfl (Nat.le_of_ble_eq_true rfl) ⟨rfl, rfl, Nat.le_of_ble_eq_true rfl, Nat.le_of_ble_eq_true rfl⟩ ⟨Nat.zero_le _, Nat.zero_le _⟩ dX7_lay_17 ?_
    refine A_iconst C (pc := 20) ic_2 dX7_lay_20 ?_
    obtain ⟨z21, h21, hf⟩ := bd_i hf
    refine A_callV1 C (pc := 21) (A := [.int z17, .int 2]) (rest := []) k_X7_51 ky_X7_lets kv_X7_lets (m_X7_lets l B D Y o  h21) (by decide) rfl rfl rfl rfl (Nat.le_of_ble_eq_true rfl) ⟨rfl, rfl, Nat.le_of_ble_eq_true rfl, Nat.le_of_ble_eq_true rfl⟩ ⟨Nat.zero_le _, Nat.zero_le _⟩ dX7_lay_21 ?_
    refine A_if_ne C (pc := 24) 29 (by decide) dX7_lay_24 hf (fun _ hf => ?_) (fun _ hf => ?_)
    · refine A_aload_n C (pc := 29) 0 rfl dX7_lay_29 ?_
      refine A_g7_0 C (pc := 30) kf_X7_9 dX7_lay_30 ?_
      refine A_iload_n C (pc := 33) 1 rfl dX7_lay_33 ?_
      obtain ⟨c34, hf⟩ := chk_i hf
      refine A_iald C (pc := 34) (show IA 48 5 from ⟨rfl, rfl⟩) c34 dX7_lay_34 ?_
      obtain ⟨v35, e35, hf⟩ := bd_i hf
      refine A_nmI e35 ?_
      refine A_istore_n C (pc := 35) [(0, .ref (B + 47)), (1, .int x1), (2, .int x2), (3, .int v35)] rfl (by decide) [1, 2, 3, 0] rfl dX7_lay_35 ?_
      refine A_aload_n C (pc := 36) 0 rfl dX7_lay_36 ?_
      refine A_iload_n C (pc := 37) 1 rfl dX7_lay_37 ?_
      refine A_iload_n C (pc := 38) 2 rfl dX7_lay_38 ?_
      obtain ⟨z39, h39, hf⟩ := bd_i hf
      refine A_callV0 C (pc := 39) (A := [.int x1, .int x2]) (rest := []) k_X7_55 ky_X7_empty kv_X7_empty (m_X7_empty l B D Y o  h39) (by decide) rfl rfl rfl rfl (Nat.le_of_ble_eq_true rfl) ⟨rfl, rfl, Nat.le_of_ble_eq_true rfl, Nat.le_of_ble_eq_true rfl⟩ ⟨Nat.zero_le _, Nat.zero_le _⟩ dX7_lay_39 ?_
      refine A_iload_n C (pc := 42) 3 rfl dX7_lay_42 ?_
      exact R_iM C (pc := 43) hr hk rfl dX7_lay_43 hf
    · refine A_iconst C (pc := 27) ic_0 dX7_lay_27 ?_
      exact R_iM C (pc := 28) hr hk rfl dX7_lay_28 hf
set_option maxRecDepth 100000 in
theorem w_X7_chain_L47 {x1 : Int32} {x2 : Int32} {x3 : Int32} {r : Int32 × Mem} (C : Cx p s m args c cX7_chain 5 RX7 B D Y) (hr : meth.sig.returnType = (some .int)) (hk : meth.locks = false)  {k37 : (Int32 × Mem) → Option (Int32 × Mem)} (hk37 : ∀ (x3 : Int32) (M : Mem), k37 (x3, M) = some r → At p l e rm_X7_chain s m args below meth c 5 0 0 (QQ below args s B D Y r.2 o (some (.int r.1))) B D Y o 37 M [(0, .ref (B + 47)), (1, .int x1), (2, .int x2), (3, .int x3)] []) : ∀ (n : Nat) (x4 : Int32) (M : Mem), f_X7_chain_L47 x1 x2 x3 k37 n (x4, M) = some r → At p l e rm_X7_chain s m args below meth c 5 0 0 (QQ below args s B D Y r.2 o (some (.int r.1))) B D Y o 47 M [(0, .ref (B + 47)), (1, .int x1), (2, .int x2), (3, .int x3), (4, .int x4)] [] := by
  intro n
  induction n with
  | zero => intro x4 M hf; exact nomatch (show (none : Option (Int32 × Mem)) = some r from hf)
  | succ n hk47 =>
    intro x4 M hf
    replace hf : g_X7_chain_L47 x1 x2 x3 k37 (f_X7_chain_L47 x1 x2 x3 k37 n) (x4, M) = some r := hf
    dsimp only [g_X7_chain_L47] at hf
    refine A_iload C (pc := 47) 4 rfl dX7_chain_47 ?_
    refine A_iload_n C (pc := 49) 2 rfl dX7_chain_49 ?_
    refine A_icmp_ge C (pc := 50) 71 (by decide) dX7_chain_50 hf (fun _ hf => ?_) (fun _ hf => ?_)
    · refine A_iinc C (pc := 71) (k0 := 3) [(0, .ref (B + 47)), (1, .int x1), (2, .int x2), (3, .int (x3 + 1))] rfl ic_1 (by decide) [1, 2, 3, 0] rfl dX7_chain_71 ?_
      refine A_goto C (pc := 74) 37 (by decide) dX7_chain_74 ?_
      exact hk37 _ _ hf
    · refine A_aload_n C (pc := 53) 0 rfl dX7_chain_53 ?_
      refine A_g7_2 C (pc := 54) kf_X7_20 dX7_chain_54 ?_
      refine A_iload_n C (pc := 57) 1 rfl dX7_chain_57 ?_
      obtain ⟨c58, hf⟩ := chk_i hf
      refine A_aB C (pc := 58) c58 dX7_chain_58 ?_
      refine A_iload_n C (pc := 59) 3 rfl dX7_chain_59 ?_
      obtain ⟨c60, hf⟩ := chk_i hf
      refine A_aR C (pc := 60) (kBel (inb_lt c58)) c60 dX7_chain_60 ?_
      refine A_iload C (pc := 61) 4 rfl dX7_chain_61 ?_
      refine A_iconst C (pc := 63) ic_1 dX7_chain_63 ?_
      obtain ⟨c64, hf⟩ := chk_i hf
      obtain ⟨b64, hf⟩ := chk_i hf
      obtain ⟨M64, e64, hf⟩ := bd_i hf
      refine A_zast C (pc := 64) (kRow (kBel (inb_lt c58)) (inb_lt c60)) c64 b64 dX7_chain_64 ?_
      refine A_nmM e64 ?_
      refine A_iinc C (pc := 65) (k0 := 4) [(0, .ref (B + 47)), (1, .int x1), (2, .int x2), (3, .int x3), (4, .int (x4 + 1))] rfl ic_1 (by decide) [1, 2, 3, 4, 0] rfl dX7_chain_65 ?_
      refine A_goto C (pc := 68) 47 (by decide) dX7_chain_68 ?_
      exact hk47 _ _ hf
set_option maxRecDepth 100000 in
theorem w_X7_chain_L37 {x1 : Int32} {x2 : Int32} {r : Int32 × Mem} (C : Cx p s m args c cX7_chain 5 RX7 B D Y) (hr : meth.sig.returnType = (some .int)) (hk : meth.locks = false)  : ∀ (n : Nat) (x3 : Int32) (M : Mem), f_X7_chain_L37 x1 x2 n (x3, M) = some r → At p l e rm_X7_chain s m args below meth c 5 0 0 (QQ below args s B D Y r.2 o (some (.int r.1))) B D Y o 37 M [(0, .ref (B + 47)), (1, .int x1), (2, .int x2), (3, .int x3)] [] := by
  intro n
  induction n with
  | zero => intro x3 M hf; exact nomatch (show (none : Option (Int32 × Mem)) = some r from hf)
  | succ n hk37 =>
    intro x3 M hf
    replace hf : g_X7_chain_L37 x1 x2 (f_X7_chain_L37 x1 x2 n) (x3, M) = some r := hf
    dsimp only [g_X7_chain_L37] at hf
    refine A_iload_n C (pc := 37) 3 rfl dX7_chain_37 ?_
    refine A_iload_n C (pc := 38) 2 rfl dX7_chain_38 ?_
    refine A_icmp_ge C (pc := 39) 77 (by decide) dX7_chain_39 hf (fun _ hf => ?_) (fun _ hf => ?_)
    · refine A_aload_n C (pc := 77) 0 rfl dX7_chain_77 ?_
      refine A_iload_n C (pc := 78) 1 rfl dX7_chain_78 ?_
      obtain ⟨z79, h79, hf⟩ := bd_i hf
      refine A_callV1 C (pc := 79) (A := [.int x1]) (rest := []) k_X7_59 ky_X7_pairsOf kv_X7_pairsOf (m_X7_pairsOf l B D Y o  h79) (by decide) rfl rfl rfl rfl (Nat.le_of_ble_eq_true rfl) ⟨rfl, rfl, Nat.le_of_ble_eq_true rfl, Nat.le_of_ble_eq_true rfl⟩ ⟨Nat.zero_le _, Nat.zero_le _⟩ dX7_chain_79 ?_
      exact R_iM C (pc := 82) hr hk rfl dX7_chain_82 hf
    · refine A_iload_n C (pc := 42) 3 rfl dX7_chain_42 ?_
      refine A_iconst C (pc := 43) ic_1 dX7_chain_43 ?_
      refine A_iadd C (pc := 44) dX7_chain_44 ?_
      obtain ⟨v45, e45, hf⟩ := bd_i hf
      refine A_nmI e45 ?_
      refine A_istore C (pc := 45) [(0, .ref (B + 47)), (1, .int x1), (2, .int x2), (3, .int x3), (4, .int v45)] (by decide) [1, 2, 3, 4, 0] rfl dX7_chain_45 ?_
      exact w_X7_chain_L47 C hr hk hk37 FU _ _  hf
set_option maxRecDepth 100000 in
theorem m_X7_chain (l : Launch) (B : Nat) (D : va_G) (Y : Nat → ClassId) (o : Ou) {M : Mem} {x1 : Int32} {x2 : Int32} {r : Int32 × Mem}  (hf : f_X7_chain M x1 x2 = some r) : MW l yX7_chain cX7_chain 5 (some .int) rm_X7_chain B D Y o [.ref (B + 47), .int x1, .int x2] M r.2 (some (.int r.1)) := by
  refine ofAt (L0 := [(0, .ref (B + 47)), (1, .int x1), (2, .int x2)]) (by decide +kernel) (Nat.le_of_ble_eq_true rfl) rfl (fun p e s m args below meth c C hr hk => ?_)
  dsimp only [f_X7_chain] at hf
  refine A_aload_n C (pc := 0) 0 rfl dX7_chain_0 ?_
  refine A_iload_n C (pc := 1) 1 rfl dX7_chain_1 ?_
  obtain ⟨z2, h2, hf⟩ := bd_i hf
  refine A_callS1 C (pc := 2) (A := [.int x1]) (rest := [.ref (B + 47)]) k_X7_43 ky_X7_isOrder ks_X7_isOrder (m_X7_isOrder l B D Y o  h2) rfl rfl (Nat.le_of_ble_eq_true rfl) ⟨rfl, rfl, Nat.le_of_ble_eq_true rfl, Nat.le_of_ble_eq_true rfl⟩ ⟨Nat.zero_le _, Nat.zero_le _⟩ dX7_chain_2 ?_
  refine A_iconst C (pc := 5) ic_1 dX7_chain_5 ?_
  obtain ⟨z6, h6, hf⟩ := bd_i hf
  refine A_callV1 C (pc := 6) (A := [.int z2, .int 1]) (rest := []) k_X7_51 ky_X7_lets kv_X7_lets (m_X7_lets l B D Y o  h6) (by decide) rfl rfl rfl rfl (Nat.le_of_ble_eq_true rfl) ⟨rfl, rfl, Nat.le_of_ble_eq_true rfl, Nat.le_of_ble_eq_true rfl⟩ ⟨Nat.zero_le _, Nat.zero_le _⟩ dX7_chain_6 ?_
  refine A_if_eq C (pc := 9) 27 (by decide) dX7_chain_9 hf (fun _ hf => ?_) (fun _ hf => ?_)
  · refine A_iconst C (pc := 27) ic_0 dX7_chain_27 ?_
    exact R_iM C (pc := 28) hr hk rfl dX7_chain_28 hf
  · refine A_aload_n C (pc := 12) 0 rfl dX7_chain_12 ?_
    refine A_iload_n C (pc := 13) 2 rfl dX7_chain_13 ?_
    refine A_iconst C (pc := 14) ic_0 dX7_chain_14 ?_
    refine A_bipush C (pc := 15) bc_9 dX7_chain_15 ?_
    obtain ⟨z17, h17, hf⟩ := bd_i hf
    refine A_callS1 C (pc := 17) (A := [.int x2, .int 0, .int 9]) (rest := [.ref (B + 47)]) k_X7_39 ky_X7_in ks_X7_in (m_X7_in l B D Y o  h17) rfl rfl (Nat.le_of_ble_eq_true rfl) ⟨rfl, rfl, Nat.le_of_ble_eq_true rfl, Nat.le_of_ble_eq_true rfl⟩ ⟨Nat.zero_le _, Nat.zero_le _⟩ dX7_chain_17 ?_
    refine A_iconst C (pc := 20) ic_2 dX7_chain_20 ?_
    obtain ⟨z21, h21, hf⟩ := bd_i hf
    refine A_callV1 C (pc := 21) (A := [.int z17, .int 2]) (rest := []) k_X7_51 ky_X7_lets kv_X7_lets (m_X7_lets l B D Y o  h21) (by decide) rfl rfl rfl rfl (Nat.le_of_ble_eq_true rfl) ⟨rfl, rfl, Nat.le_of_ble_eq_true rfl, Nat.le_of_ble_eq_true rfl⟩ ⟨Nat.zero_le _, Nat.zero_le _⟩ dX7_chain_21 ?_
    refine A_if_ne C (pc := 24) 29 (by decide) dX7_chain_24 hf (fun _ hf => ?_) (fun _ hf => ?_)
    · refine A_aload_n C (pc := 29) 0 rfl dX7_chain_29 ?_
      refine A_iload_n C (pc := 30) 1 rfl dX7_chain_30 ?_
      refine A_iload_n C (pc := 31) 2 rfl dX7_chain_31 ?_
      obtain ⟨z32, h32, hf⟩ := bd_i hf
      refine A_callV0 C (pc := 32) (A := [.int x1, .int x2]) (rest := []) k_X7_55 ky_X7_empty kv_X7_empty (m_X7_empty l B D Y o  h32) (by decide) rfl rfl rfl rfl (Nat.le_of_ble_eq_true rfl) ⟨rfl, rfl, Nat.le_of_ble_eq_true rfl, Nat.le_of_ble_eq_true rfl⟩ ⟨Nat.zero_le _, Nat.zero_le _⟩ dX7_chain_32 ?_
      refine A_iconst C (pc := 35) ic_0 dX7_chain_35 ?_
      refine A_istore_n C (pc := 36) [(0, .ref (B + 47)), (1, .int x1), (2, .int x2), (3, .int 0)] rfl (by decide) [1, 2, 3, 0] rfl dX7_chain_36 ?_
      exact w_X7_chain_L37 C hr hk FU _ _  hf
    · refine A_iconst C (pc := 27) ic_0 dX7_chain_27 ?_
      exact R_iM C (pc := 28) hr hk rfl dX7_chain_28 hf
set_option maxRecDepth 100000 in
theorem w_X7_add_L85 {x1 : Int32} {x3 : Int32} {r : Int32 × Mem} (C : Cx p s m args c cX7_add 5 RX7 B D Y) (hr : meth.sig.returnType = (some .int)) (hk : meth.locks = false)  : ∀ (n : Nat) (x4 : Int32) (M : Mem), f_X7_add_L85 x1 x3 n (x4, M) = some r → At p l e rm_X7_add s m args below meth c 5 0 0 (QQ below args s B D Y r.2 o (some (.int r.1))) B D Y o 85 M [(0, .ref (B + 47)), (1, .int x1), (3, .int x3), (4, .int x4)] [] := by
  intro n
  induction n with
  | zero => intro x4 M hf; exact nomatch (show (none : Option (Int32 × Mem)) = some r from hf)
  | succ n hk85 =>
    intro x4 M hf
    replace hf : g_X7_add_L85 x1 x3 (f_X7_add_L85 x1 x3 n) (x4, M) = some r := hf
    dsimp only [g_X7_add_L85] at hf
    refine A_iload C (pc := 85) 3 rfl dX7_add_85 ?_
    refine A_bipush C (pc := 87) bc_9 dX7_add_87 ?_
    refine A_icmp_ge C (pc := 89) 122 (by decide) dX7_add_89 hf (fun _ hf => ?_) (fun _ hf => ?_)
    · refine A_iload_n C (pc := 122) 2 rfl dX7_add_122 ?_
      exact R_iM C (pc := 123) hr hk rfl dX7_add_123 hf
    · refine A_aload_n C (pc := 92) 0 rfl dX7_add_92 ?_
      refine A_g7_2 C (pc := 93) kf_X7_20 dX7_add_93 ?_
      refine A_iload_n C (pc := 96) 1 rfl dX7_add_96 ?_
      obtain ⟨c97, hf⟩ := chk_i hf
      refine A_aB C (pc := 97) c97 dX7_add_97 ?_
      refine A_iload_n C (pc := 98) 2 rfl dX7_add_98 ?_
      obtain ⟨c99, hf⟩ := chk_i hf
      refine A_aR C (pc := 99) (kBel (inb_lt c97)) c99 dX7_add_99 ?_
      refine A_iload C (pc := 100) 3 rfl dX7_add_100 ?_
      refine A_iconst C (pc := 102) ic_0 dX7_add_102 ?_
      obtain ⟨c103, hf⟩ := chk_i hf
      obtain ⟨b103, hf⟩ := chk_i hf
      obtain ⟨M103, e103, hf⟩ := bd_i hf
      refine A_zast C (pc := 103) (kRow (kBel (inb_lt c97)) (inb_lt c99)) c103 b103 dX7_add_103 ?_
      refine A_nmM e103 ?_
      refine A_aload_n C (pc := 104) 0 rfl dX7_add_104 ?_
      refine A_g7_2 C (pc := 105) kf_X7_20 dX7_add_105 ?_
      refine A_iload_n C (pc := 108) 1 rfl dX7_add_108 ?_
      obtain ⟨c109, hf⟩ := chk_i hf
      refine A_aB C (pc := 109) c109 dX7_add_109 ?_
      refine A_iload C (pc := 110) 3 rfl dX7_add_110 ?_
      obtain ⟨c112, hf⟩ := chk_i hf
      refine A_aR C (pc := 112) (kBel (inb_lt c109)) c112 dX7_add_112 ?_
      refine A_iload_n C (pc := 113) 2 rfl dX7_add_113 ?_
      refine A_iconst C (pc := 114) ic_0 dX7_add_114 ?_
      obtain ⟨c115, hf⟩ := chk_i hf
      obtain ⟨b115, hf⟩ := chk_i hf
      obtain ⟨M115, e115, hf⟩ := bd_i hf
      refine A_zast C (pc := 115) (kRow (kBel (inb_lt c109)) (inb_lt c112)) c115 b115 dX7_add_115 ?_
      refine A_nmM e115 ?_
      refine A_iinc C (pc := 116) (k0 := 3) [(0, .ref (B + 47)), (1, .int x1), (3, .int x3), (4, .int (x4 + 1))] rfl ic_1 (by decide) [1, 2, 3, 0] rfl dX7_add_116 ?_
      refine A_goto C (pc := 119) 85 (by decide) dX7_add_119 ?_
      exact hk85 _ _ hf
set_option maxRecDepth 100000 in
theorem w_X7_add_L47 {M : Mem} {x1 : Int32} {x2 : Int32} {y0 : Int32} {r : Int32 × Mem} (C : Cx p s m args c cX7_add 5 RX7 B D Y) (hr : meth.sig.returnType = (some .int)) (hk : meth.locks = false)  (hf : f_X7_add_L47 M x1 x2 y0 = some r) : At p l e rm_X7_add s m args below meth c 5 0 0 (QQ below args s B D Y r.2 o (some (.int r.1))) B D Y o 47 M [(0, .ref (B + 47)), (1, .int x1), (2, .int x2)] [.int y0, .ref (B + 47)] := by
  dsimp only [f_X7_add_L47] at hf
  refine A_iconst C (pc := 47) ic_3 dX7_add_47 ?_
  obtain ⟨z48, h48, hf⟩ := bd_i hf
  refine A_callV1 C (pc := 48) (A := [.int y0, .int 3]) (rest := []) k_X7_51 ky_X7_lets kv_X7_lets (m_X7_lets l B D Y o  h48) (by decide) rfl rfl rfl rfl (Nat.le_of_ble_eq_true rfl) ⟨rfl, rfl, Nat.le_of_ble_eq_true rfl, Nat.le_of_ble_eq_true rfl⟩ ⟨Nat.zero_le _, Nat.zero_le _⟩ dX7_add_48 ?_
  refine A_if_ne C (pc := 51) 56 (by decide) dX7_add_51 hf (fun _ hf => ?_) (fun _ hf => ?_)
  · refine A_aload_n C (pc := 56) 0 rfl dX7_add_56 ?_
    refine A_g7_0 C (pc := 57) kf_X7_9 dX7_add_57 ?_
    refine A_iload_n C (pc := 60) 1 rfl dX7_add_60 ?_
    obtain ⟨c61, hf⟩ := chk_i hf
    refine A_iald C (pc := 61) (show IA 48 5 from ⟨rfl, rfl⟩) c61 dX7_add_61 ?_
    obtain ⟨v62, e62, hf⟩ := bd_i hf
    refine A_nmI e62 ?_
    refine A_istore_n C (pc := 62) [(0, .ref (B + 47)), (1, .int x1), (2, .int x2), (3, .int v62)] rfl (by decide) [1, 2, 3, 0] rfl dX7_add_62 ?_
    refine A_aload_n C (pc := 63) 0 rfl dX7_add_63 ?_
    refine A_g7_0 C (pc := 64) kf_X7_9 dX7_add_64 ?_
    refine A_iload_n C (pc := 67) 1 rfl dX7_add_67 ?_
    refine A_dup2 C (pc := 68) rfl rfl dX7_add_68 ?_
    obtain ⟨c69, hf⟩ := chk_i hf
    refine A_iald C (pc := 69) (show IA 48 5 from ⟨rfl, rfl⟩) c69 dX7_add_69 ?_
    refine A_iconst C (pc := 70) ic_1 dX7_add_70 ?_
    refine A_iadd C (pc := 71) dX7_add_71 ?_
    obtain ⟨c72, hf⟩ := chk_i hf
    obtain ⟨M72, e72, hf⟩ := bd_i hf
    refine A_iast C (pc := 72) (show IA 48 5 from ⟨rfl, rfl⟩) c72 dX7_add_72 ?_
    refine A_nmM e72 ?_
    refine A_aload_n C (pc := 73) 0 rfl dX7_add_73 ?_
    refine A_g7_1 C (pc := 74) kf_X7_15 dX7_add_74 ?_
    refine A_iload_n C (pc := 77) 1 rfl dX7_add_77 ?_
    obtain ⟨c78, hf⟩ := chk_i hf
    refine A_aV C (pc := 78) c78 dX7_add_78 ?_
    refine A_iload_n C (pc := 79) 3 rfl dX7_add_79 ?_
    refine A_iload_n C (pc := 80) 2 rfl dX7_add_80 ?_
    obtain ⟨c81, hf⟩ := chk_i hf
    obtain ⟨M81, e81, hf⟩ := bd_i hf
    refine A_iast C (pc := 81) (iVal (inb_lt c78)) c81 dX7_add_81 ?_
    refine A_nmM e81 ?_
    refine A_iconst C (pc := 82) ic_0 dX7_add_82 ?_
    refine A_istore C (pc := 83) [(0, .ref (B + 47)), (1, .int x1), (3, .int v62), (4, .int 0)] (by decide) [1, 2, 4, 0] rfl dX7_add_83 ?_
    exact w_X7_add_L85 C hr hk FU _ _  hf
  · refine A_iconst C (pc := 54) ic_0 dX7_add_54 ?_
    exact R_iM C (pc := 55) hr hk rfl dX7_add_55 hf
set_option maxRecDepth 100000 in
theorem m_X7_add (l : Launch) (B : Nat) (D : va_G) (Y : Nat → ClassId) (o : Ou) {M : Mem} {x1 : Int32} {x2 : Int32} {r : Int32 × Mem}  (hf : f_X7_add M x1 x2 = some r) : MW l yX7_add cX7_add 5 (some .int) rm_X7_add B D Y o [.ref (B + 47), .int x1, .int x2] M r.2 (some (.int r.1)) := by
  refine ofAt (L0 := [(0, .ref (B + 47)), (1, .int x1), (2, .int x2)]) (by decide +kernel) (Nat.le_of_ble_eq_true rfl) rfl (fun p e s m args below meth c C hr hk => ?_)
  dsimp only [f_X7_add] at hf
  refine A_aload_n C (pc := 0) 0 rfl dX7_add_0 ?_
  refine A_iload_n C (pc := 1) 1 rfl dX7_add_1 ?_
  obtain ⟨z2, h2, hf⟩ := bd_i hf
  refine A_callS1 C (pc := 2) (A := [.int x1]) (rest := [.ref (B + 47)]) k_X7_43 ky_X7_isOrder ks_X7_isOrder (m_X7_isOrder l B D Y o  h2) rfl rfl (Nat.le_of_ble_eq_true rfl) ⟨rfl, rfl, Nat.le_of_ble_eq_true rfl, Nat.le_of_ble_eq_true rfl⟩ ⟨Nat.zero_le _, Nat.zero_le _⟩ dX7_add_2 ?_
  refine A_iconst C (pc := 5) ic_1 dX7_add_5 ?_
  obtain ⟨z6, h6, hf⟩ := bd_i hf
  refine A_callV1 C (pc := 6) (A := [.int z2, .int 1]) (rest := []) k_X7_51 ky_X7_lets kv_X7_lets (m_X7_lets l B D Y o  h6) (by decide) rfl rfl rfl rfl (Nat.le_of_ble_eq_true rfl) ⟨rfl, rfl, Nat.le_of_ble_eq_true rfl, Nat.le_of_ble_eq_true rfl⟩ ⟨Nat.zero_le _, Nat.zero_le _⟩ dX7_add_6 ?_
  refine A_if_eq C (pc := 9) 54 (by decide) dX7_add_9 hf (fun _ hf => ?_) (fun _ hf => ?_)
  · refine A_iconst C (pc := 54) ic_0 dX7_add_54 ?_
    exact R_iM C (pc := 55) hr hk rfl dX7_add_55 hf
  · refine A_aload_n C (pc := 12) 0 rfl dX7_add_12 ?_
    refine A_iload_n C (pc := 13) 2 rfl dX7_add_13 ?_
    refine A_sipush C (pc := 14) sc_m1000 dX7_add_14 ?_
    refine A_sipush C (pc := 17) sc_1000 dX7_add_17 ?_
    obtain ⟨z20, h20, hf⟩ := bd_i hf
    refine A_callS1 C (pc := 20) (A := [.int x2, .int ((-1000)), .int 1000]) (rest := [.ref (B + 47)]) k_X7_39 ky_X7_in ks_X7_in (m_X7_in l B D Y o  h20) rfl rfl (Nat.le_of_ble_eq_true rfl) ⟨rfl, rfl, Nat.le_of_ble_eq_true rfl, Nat.le_of_ble_eq_true rfl⟩ ⟨Nat.zero_le _, Nat.zero_le _⟩ dX7_add_20 ?_
    refine A_iconst C (pc := 23) ic_2 dX7_add_23 ?_
    obtain ⟨z24, h24, hf⟩ := bd_i hf
    refine A_callV1 C (pc := 24) (A := [.int z20, .int 2]) (rest := []) k_X7_51 ky_X7_lets kv_X7_lets (m_X7_lets l B D Y o  h24) (by decide) rfl rfl rfl rfl (Nat.le_of_ble_eq_true rfl) ⟨rfl, rfl, Nat.le_of_ble_eq_true rfl, Nat.le_of_ble_eq_true rfl⟩ ⟨Nat.zero_le _, Nat.zero_le _⟩ dX7_add_24 ?_
    refine A_if_eq C (pc := 27) 54 (by decide) dX7_add_27 hf (fun _ hf => ?_) (fun _ hf => ?_)
    · refine A_iconst C (pc := 54) ic_0 dX7_add_54 ?_
      exact R_iM C (pc := 55) hr hk rfl dX7_add_55 hf
    · refine A_aload_n C (pc := 30) 0 rfl dX7_add_30 ?_
      refine A_aload_n C (pc := 31) 0 rfl dX7_add_31 ?_
      refine A_g7_0 C (pc := 32) kf_X7_9 dX7_add_32 ?_
      refine A_iload_n C (pc := 35) 1 rfl dX7_add_35 ?_
      obtain ⟨c36, hf⟩ := chk_i hf
      refine A_iald C (pc := 36) (show IA 48 5 from ⟨rfl, rfl⟩) c36 dX7_add_36 ?_
      refine A_bipush C (pc := 37) bc_9 dX7_add_37 ?_
      refine A_icmp_ge C (pc := 39) 46 (by decide) dX7_add_39 hf (fun _ hf => ?_) (fun _ hf => ?_)
      · refine A_iconst C (pc := 46) ic_0 dX7_add_46 ?_
        exact w_X7_add_L47 C hr hk hf
      · refine A_iconst C (pc := 42) ic_1 dX7_add_42 ?_
        refine A_goto C (pc := 43) 47 (by decide) dX7_add_43 ?_
        exact w_X7_add_L47 C hr hk hf
set_option maxRecDepth 100000 in
theorem w_X7_stay_L90 {x1 : Int32} {x3 : Int32} {x4 : Int32} {r : Mem} (C : Cx p s m args c cX7_stay 6 RX7 B D Y) (hr : meth.sig.returnType = none) (hk : meth.locks = false)  {k58 : (Int32 × Mem) → Option Mem} (hk58 : ∀ (x4 : Int32) (M : Mem), k58 (x4, M) = some r → At p l e rm_X7_stay s m args below meth c 6 0 0 (QQ below args s B D Y r o none) B D Y o 58 M [(0, .ref (B + 47)), (1, .int x1), (3, .int x3), (4, .int x4)] []) : ∀ (n : Nat) (x5 : Int32) (M : Mem), f_X7_stay_L90 x1 x3 x4 k58 n (x5, M) = some r → At p l e rm_X7_stay s m args below meth c 6 0 0 (QQ below args s B D Y r o none) B D Y o 90 M [(0, .ref (B + 47)), (1, .int x1), (3, .int x3), (4, .int x4), (5, .int x5)] [] := by
  intro n
  induction n with
  | zero => intro x5 M hf; exact nomatch (show (none : Option Mem) = some r from hf)
  | succ n hk90 =>
    intro x5 M hf
    replace hf : g_X7_stay_L90 x1 x3 x4 k58 (f_X7_stay_L90 x1 x3 x4 k58 n) (x5, M) = some r := hf
    dsimp only [g_X7_stay_L90] at hf
    refine A_iload C (pc := 90) 4 rfl dX7_stay_90 ?_
    refine A_iload_n C (pc := 92) 2 rfl dX7_stay_92 ?_
    refine A_icmp_ge C (pc := 93) 136 (by decide) dX7_stay_93 hf (fun _ hf => ?_) (fun _ hf => ?_)
    · refine A_iinc C (pc := 136) (k0 := 3) [(0, .ref (B + 47)), (1, .int x1), (3, .int x3), (4, .int (x4 + 1))] rfl ic_1 (by decide) [1, 2, 3, 0] rfl dX7_stay_136 ?_
      refine A_goto C (pc := 139) 58 (by decide) dX7_stay_139 ?_
      exact hk58 _ _ hf
    · refine A_aload_n C (pc := 96) 0 rfl dX7_stay_96 ?_
      refine A_g7_2 C (pc := 97) kf_X7_20 dX7_stay_97 ?_
      refine A_iconst C (pc := 100) ic_4 dX7_stay_100 ?_
      obtain ⟨c101, hf⟩ := chk_i hf
      refine A_aB C (pc := 101) c101 dX7_stay_101 ?_
      refine A_iload C (pc := 102) 3 rfl dX7_stay_102 ?_
      obtain ⟨c104, hf⟩ := chk_i hf
      refine A_aR C (pc := 104) (kBel (inb_lt c101)) c104 dX7_stay_104 ?_
      refine A_iload C (pc := 105) 4 rfl dX7_stay_105 ?_
      refine A_aload_n C (pc := 107) 0 rfl dX7_stay_107 ?_
      refine A_g7_2 C (pc := 108) kf_X7_20 dX7_stay_108 ?_
      refine A_iload_n C (pc := 111) 1 rfl dX7_stay_111 ?_
      obtain ⟨c112, hf⟩ := chk_i hf
      refine A_aB C (pc := 112) c112 dX7_stay_112 ?_
      refine A_aload_n C (pc := 113) 0 rfl dX7_stay_113 ?_
      refine A_g7_6 C (pc := 114) kf_X7_29 dX7_stay_114 ?_
      refine A_iload C (pc := 117) 3 rfl dX7_stay_117 ?_
      obtain ⟨c119, hf⟩ := chk_i hf
      refine A_iald C (pc := 119) (show IA 108 9 from ⟨rfl, rfl⟩) c119 dX7_stay_119 ?_
      obtain ⟨c120, hf⟩ := chk_i hf
      refine A_aR C (pc := 120) (kBel (inb_lt c112)) c120 dX7_stay_120 ?_
      refine A_aload_n C (pc := 121) 0 rfl dX7_stay_121 ?_
      refine A_g7_6 C (pc := 122) kf_X7_29 dX7_stay_122 ?_
      refine A_iload C (pc := 125) 4 rfl dX7_stay_125 ?_
      obtain ⟨c127, hf⟩ := chk_i hf
      refine A_iald C (pc := 127) (show IA 108 9 from ⟨rfl, rfl⟩) c127 dX7_stay_127 ?_
      obtain ⟨c128, hf⟩ := chk_i hf
      refine A_zald C (pc := 128) (kRow (kBel (inb_lt c112)) (inb_lt c120)) c128 dX7_stay_128 ?_
      obtain ⟨c129, hf⟩ := chk_i hf
      obtain ⟨b129, hf⟩ := chk_i hf
      obtain ⟨M129, e129, hf⟩ := bd_i hf
      refine A_zast C (pc := 129) (kRow (kBel (inb_lt c101)) (inb_lt c104)) c129 b129 dX7_stay_129 ?_
      refine A_nmM e129 ?_
      refine A_iinc C (pc := 130) (k0 := 4) [(0, .ref (B + 47)), (1, .int x1), (3, .int x3), (4, .int x4), (5, .int (x5 + 1))] rfl ic_1 (by decide) [1, 2, 3, 4, 0] rfl dX7_stay_130 ?_
      refine A_goto C (pc := 133) 90 (by decide) dX7_stay_133 ?_
      exact hk90 _ _ hf
set_option maxRecDepth 100000 in
theorem w_X7_stay_L58 {x1 : Int32} {x3 : Int32} {r : Mem} (C : Cx p s m args c cX7_stay 6 RX7 B D Y) (hr : meth.sig.returnType = none) (hk : meth.locks = false)  : ∀ (n : Nat) (x4 : Int32) (M : Mem), f_X7_stay_L58 x1 x3 n (x4, M) = some r → At p l e rm_X7_stay s m args below meth c 6 0 0 (QQ below args s B D Y r o none) B D Y o 58 M [(0, .ref (B + 47)), (1, .int x1), (3, .int x3), (4, .int x4)] [] := by
  intro n
  induction n with
  | zero => intro x4 M hf; exact nomatch (show (none : Option Mem) = some r from hf)
  | succ n hk58 =>
    intro x4 M hf
    replace hf : g_X7_stay_L58 x1 x3 (f_X7_stay_L58 x1 x3 n) (x4, M) = some r := hf
    dsimp only [g_X7_stay_L58] at hf
    refine A_iload C (pc := 58) 3 rfl dX7_stay_58 ?_
    refine A_iload_n C (pc := 60) 2 rfl dX7_stay_60 ?_
    refine A_icmp_ge C (pc := 61) 142 (by decide) dX7_stay_61 hf (fun _ hf => ?_) (fun _ hf => ?_)
    · refine A_aload_n C (pc := 142) 0 rfl dX7_stay_142 ?_
      refine A_iload_n C (pc := 143) 1 rfl dX7_stay_143 ?_
      refine A_iconst C (pc := 144) ic_4 dX7_stay_144 ?_
      obtain ⟨z145, h145, hf⟩ := bd_i hf
      refine A_callV0 C (pc := 145) (A := [.int x1, .int 4]) (rest := []) k_X7_63 ky_X7_becomes kv_X7_becomes (m_X7_becomes l B D Y o  h145) (by decide) rfl rfl rfl rfl (Nat.le_of_ble_eq_true rfl) ⟨rfl, rfl, Nat.le_of_ble_eq_true rfl, Nat.le_of_ble_eq_true rfl⟩ ⟨Nat.zero_le _, Nat.zero_le _⟩ dX7_stay_145 ?_
      exact R_vM C (pc := 148) hr hk dX7_stay_148 hf
    · refine A_aload_n C (pc := 64) 0 rfl dX7_stay_64 ?_
      refine A_g7_1 C (pc := 65) kf_X7_15 dX7_stay_65 ?_
      refine A_iconst C (pc := 68) ic_4 dX7_stay_68 ?_
      obtain ⟨c69, hf⟩ := chk_i hf
      refine A_aV C (pc := 69) c69 dX7_stay_69 ?_
      refine A_iload C (pc := 70) 3 rfl dX7_stay_70 ?_
      refine A_aload_n C (pc := 72) 0 rfl dX7_stay_72 ?_
      refine A_g7_1 C (pc := 73) kf_X7_15 dX7_stay_73 ?_
      refine A_iload_n C (pc := 76) 1 rfl dX7_stay_76 ?_
      obtain ⟨c77, hf⟩ := chk_i hf
      refine A_aV C (pc := 77) c77 dX7_stay_77 ?_
      refine A_aload_n C (pc := 78) 0 rfl dX7_stay_78 ?_
      refine A_g7_6 C (pc := 79) kf_X7_29 dX7_stay_79 ?_
      refine A_iload C (pc := 82) 3 rfl dX7_stay_82 ?_
      obtain ⟨c84, hf⟩ := chk_i hf
      refine A_iald C (pc := 84) (show IA 108 9 from ⟨rfl, rfl⟩) c84 dX7_stay_84 ?_
      obtain ⟨c85, hf⟩ := chk_i hf
      refine A_iald C (pc := 85) (iVal (inb_lt c77)) c85 dX7_stay_85 ?_
      obtain ⟨c86, hf⟩ := chk_i hf
      obtain ⟨M86, e86, hf⟩ := bd_i hf
      refine A_iast C (pc := 86) (iVal (inb_lt c69)) c86 dX7_stay_86 ?_
      refine A_nmM e86 ?_
      refine A_iconst C (pc := 87) ic_0 dX7_stay_87 ?_
      refine A_istore C (pc := 88) [(0, .ref (B + 47)), (1, .int x1), (3, .int x3), (4, .int x4), (5, .int 0)] (by decide) [1, 2, 3, 4, 0] rfl dX7_stay_88 ?_
      exact w_X7_stay_L90 C hr hk hk58 FU _ _  hf
set_option maxRecDepth 100000 in
theorem w_X7_stay_L11 {x1 : Int32} {x2 : Int32} {r : Mem} (C : Cx p s m args c cX7_stay 6 RX7 B D Y) (hr : meth.sig.returnType = none) (hk : meth.locks = false)  : ∀ (n : Nat) (x3 : Int32) (x4 : Int32) (M : Mem), f_X7_stay_L11 x1 x2 n (x3, x4, M) = some r → At p l e rm_X7_stay s m args below meth c 6 0 0 (QQ below args s B D Y r o none) B D Y o 11 M [(0, .ref (B + 47)), (1, .int x1), (2, .int x2), (3, .int x3), (4, .int x4)] [] := by
  intro n
  induction n with
  | zero => intro x3 x4 M hf; exact nomatch (show (none : Option Mem) = some r from hf)
  | succ n hk11 =>
    intro x3 x4 M hf
    replace hf : g_X7_stay_L11 x1 x2 (f_X7_stay_L11 x1 x2 n) (x3, x4, M) = some r := hf
    dsimp only [g_X7_stay_L11] at hf
    refine A_iload C (pc := 11) 4 rfl dX7_stay_11 ?_
    refine A_aload_n C (pc := 13) 0 rfl dX7_stay_13 ?_
    refine A_g7_0 C (pc := 14) kf_X7_9 dX7_stay_14 ?_
    refine A_iload_n C (pc := 17) 1 rfl dX7_stay_17 ?_
    obtain ⟨c18, hf⟩ := chk_i hf
    refine A_iald C (pc := 18) (show IA 48 5 from ⟨rfl, rfl⟩) c18 dX7_stay_18 ?_
    refine A_icmp_ge C (pc := 19) 48 (by decide) dX7_stay_19 hf (fun _ hf => ?_) (fun _ hf => ?_)
    · refine A_aload_n C (pc := 48) 0 rfl dX7_stay_48 ?_
      refine A_g7_0 C (pc := 49) kf_X7_9 dX7_stay_49 ?_
      refine A_iconst C (pc := 52) ic_4 dX7_stay_52 ?_
      refine A_iload_n C (pc := 53) 3 rfl dX7_stay_53 ?_
      obtain ⟨c54, hf⟩ := chk_i hf
      obtain ⟨M54, e54, hf⟩ := bd_i hf
      refine A_iast C (pc := 54) (show IA 48 5 from ⟨rfl, rfl⟩) c54 dX7_stay_54 ?_
      refine A_nmM e54 ?_
      refine A_iconst C (pc := 55) ic_0 dX7_stay_55 ?_
      refine A_istore C (pc := 56) [(0, .ref (B + 47)), (1, .int x1), (3, .int x3), (4, .int 0)] (by decide) [1, 2, 4, 0] rfl dX7_stay_56 ?_
      exact w_X7_stay_L58 C hr hk FU _ _  hf
    · refine A_iload_n C (pc := 22) 2 rfl dX7_stay_22 ?_
      refine A_iload C (pc := 23) 4 rfl dX7_stay_23 ?_
      obtain ⟨z25, h25, hf⟩ := bd_i hf
      refine A_callS1 C (pc := 25) (A := [.int x2, .int x4]) (rest := []) k_X7_47 ky_X7_has ks_X7_has (m_X7_has l B D Y o  h25) rfl rfl (Nat.le_of_ble_eq_true rfl) ⟨rfl, rfl, Nat.le_of_ble_eq_true rfl, Nat.le_of_ble_eq_true rfl⟩ ⟨Nat.zero_le _, Nat.zero_le _⟩ dX7_stay_25 ?_
      refine A_if_eq C (pc := 28) 42 (by decide) dX7_stay_28 hf (fun _ hf => ?_) (fun _ hf => ?_)
      · refine A_iinc C (pc := 42) (k0 := 4) [(0, .ref (B + 47)), (1, .int x1), (2, .int x2), (3, .int x3), (4, .int (x4 + 1))] rfl ic_1 (by decide) [1, 2, 3, 4, 0] rfl dX7_stay_42 ?_
        refine A_goto C (pc := 45) 11 (by decide) dX7_stay_45 ?_
        exact hk11 _ _ _ hf
      · refine A_aload_n C (pc := 31) 0 rfl dX7_stay_31 ?_
        refine A_g7_6 C (pc := 32) kf_X7_29 dX7_stay_32 ?_
        refine A_iload_n C (pc := 35) 3 rfl dX7_stay_35 ?_
        refine A_iload C (pc := 36) 4 rfl dX7_stay_36 ?_
        obtain ⟨c38, hf⟩ := chk_i hf
        obtain ⟨M38, e38, hf⟩ := bd_i hf
        refine A_iast C (pc := 38) (show IA 108 9 from ⟨rfl, rfl⟩) c38 dX7_stay_38 ?_
        refine A_nmM e38 ?_
        refine A_iinc C (pc := 39) (k0 := 3) [(0, .ref (B + 47)), (1, .int x1), (2, .int x2), (3, .int (x3 + 1)), (4, .int x4)] rfl ic_1 (by decide) [1, 2, 3, 0, 4] rfl dX7_stay_39 ?_
        refine A_iinc C (pc := 42) (k0 := 4) [(0, .ref (B + 47)), (1, .int x1), (2, .int x2), (3, .int (x3 + 1)), (4, .int (x4 + 1))] rfl ic_1 (by decide) [1, 2, 3, 4, 0] rfl dX7_stay_42 ?_
        refine A_goto C (pc := 45) 11 (by decide) dX7_stay_45 ?_
        exact hk11 _ _ _ hf
set_option maxRecDepth 100000 in
theorem m_X7_stay (l : Launch) (B : Nat) (D : va_G) (Y : Nat → ClassId) (o : Ou) {M : Mem} {x1 : Int32} {x2 : Int32} {r : Mem}  (hf : f_X7_stay M x1 x2 = some r) : MW l yX7_stay cX7_stay 6 none rm_X7_stay B D Y o [.ref (B + 47), .int x1, .int x2] M r none := by
  refine ofAt (L0 := [(0, .ref (B + 47)), (1, .int x1), (2, .int x2)]) (by decide +kernel) (Nat.le_of_ble_eq_true rfl) rfl (fun p e s m args below meth c C hr hk => ?_)
  dsimp only [f_X7_stay] at hf
  refine A_aload_n C (pc := 0) 0 rfl dX7_stay_0 ?_
  refine A_iconst C (pc := 1) ic_4 dX7_stay_1 ?_
  refine A_iconst C (pc := 2) ic_0 dX7_stay_2 ?_
  obtain ⟨z3, h3, hf⟩ := bd_i hf
  refine A_callV0 C (pc := 3) (A := [.int 4, .int 0]) (rest := []) k_X7_55 ky_X7_empty kv_X7_empty (m_X7_empty l B D Y o  h3) (by decide) rfl rfl rfl rfl (Nat.le_of_ble_eq_true rfl) ⟨rfl, rfl, Nat.le_of_ble_eq_true rfl, Nat.le_of_ble_eq_true rfl⟩ ⟨Nat.zero_le _, Nat.zero_le _⟩ dX7_stay_3 ?_
  refine A_iconst C (pc := 6) ic_0 dX7_stay_6 ?_
  refine A_istore_n C (pc := 7) [(0, .ref (B + 47)), (1, .int x1), (2, .int x2), (3, .int 0)] rfl (by decide) [1, 2, 3, 0] rfl dX7_stay_7 ?_
  refine A_iconst C (pc := 8) ic_0 dX7_stay_8 ?_
  refine A_istore C (pc := 9) [(0, .ref (B + 47)), (1, .int x1), (2, .int x2), (3, .int 0), (4, .int 0)] (by decide) [1, 2, 3, 4, 0] rfl dX7_stay_9 ?_
  exact w_X7_stay_L11 C hr hk FU _ _ _  hf
end W1
