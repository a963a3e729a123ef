/-! ===== the constructors: each over any prefix of cells ===== -/
section YE
variable {p : Program} {l : Launch} {e : Env} {R : Room} {s : State} {m : MethodId} {args : Array Value} {below : List Frame} {meth : Method} {c : Code} {nL cells slots : Nat} {Q : State → Prop} {B : Nat} {D : va_G} {Y : Nat → ClassId} {pc : Nat} {F G G' : List va_E} {L L' : List (Nat × Value)} {rest : List Value} {cc : ByteArray} {own : String} {q0 n : Nat}
theorem fe_get {j : Nat} {e : va_E} (hF : F.length = q0) (h : G[j]? = some e) : (F ++ G)[q0 + j]? = some e := by
  subst hF
  rw [List.getElem?_append_right (Nat.le_add_right _ _), Nat.add_sub_cancel_left, h]
theorem fe_set {j : Nat} {e : va_E} (hF : F.length = q0) : (F ++ G).set (q0 + j) e = F ++ G.set j e := by
  subst hF
  rw [List.set_append_right _ _ (Nat.le_add_right _ _), Nat.add_sub_cancel_left]
theorem fe_app (e : List va_E) (hG : G ++ e = G') : F ++ G ++ e = F ++ G' := by rw [List.append_assoc, hG]
theorem fe_len (hF : F.length = q0) (hn : G.length = n) : (F ++ G).length = q0 + n := by rw [List.length_append, hF, hn]
theorem Y_new (C : Cx p s m args c cc nL own B D Y) (hF : F.length = q0) (hn : G.length = n) {K : String} {T : u_T} {N ci idx : Nat} {fs : List Value} (hG : G ++ [.inr (ci, fs)] = G') (hc : vwCl[ci]? = some (K, T, N)) (hin : ∀ w ∈ u_ws K T N, w ∈ Tz) (ty : Nat → FieldType) (hty : ∀ k, k < N → parseFieldDescriptor (T k).2.2.1 = some (ty k)) (hcl : Cond.classLink own idx K ∈ Tz) (hinst : Cond.instantiable K N ∈ Tz) (hini : Cond.initialized K ∈ Tz) (hfs : ∀ j, j < N → defaultValue (ty j) = vp_V fs j) (hcs : cells + 1 ≤ R.cells ∧ slots + N ≤ R.slots) (hd : decode cc pc = .ok (.new idx, 3)) (k : AtE p l e R s m args below meth c nL (cells + 1) (slots + N) Q B D (F ++ G') (pc + 3) L (.ref (B + (q0 + n)) :: rest)) : AtE p l e R s m args below meth c nL cells slots Q B D (F ++ G) pc L rest :=
  X_new C hc hin ty hty hcl hinst hini hfs hcs hd (by rw [fe_app _ hG, fe_len hF hn]; exact k)
theorem Y_newa (C : Cx p s m args c cc nL own B D Y) (X : XE Y s) (hF : F.length = q0) (hn : G.length = n) {atype : ArrayType} {ty : FieldType} (hty : newarray.typeOf atype = ty) (ky : Nat) (hky : tyY[ky]? = some ty) {v : Int32} {N : Nat} (a0 : vp_A) (hG : G ++ [.inl (Y ky, a0)] = G') (ha : ∀ cA : ClassId, vp_cell cA a0 = arrV cA N (fun _ => defaultValue ty)) (hv : ¬ v < 0) (hN : v.toNatClampNeg = N) (hby : N * componentBytes ty ≤ 536870912) (hcs : cells + 1 ≤ R.cells ∧ slots + N ≤ R.slots) (hd : decode cc pc = .ok (.newarray atype, 2)) (k : AtE p l e R s m args below meth c nL (cells + 1) (slots + N) Q B D (F ++ G') (pc + 2) L (.ref (B + (q0 + n)) :: rest)) : AtE p l e R s m args below meth c nL cells slots Q B D (F ++ G) pc L (.int v :: rest) :=
  X_newa C X hty ky hky a0 ha hv hN hby hcs hd (by rw [fe_app _ hG, fe_len hF hn]; exact k)
theorem Y_anew (C : Cx p s m args c cc nL own B D Y) (X : XE Y s) (hF : F.length = q0) (hn : G.length = n) {idx : Nat} (hcl : Cond.classLink own idx "Belowhouse$Order" ∈ Tz) {v : Int32} {N : Nat} (hG : G ++ [.inl (Y 2, N, .inr (.inr (.inr (.inr (fun _ => none)))))] = G') (hv : ¬ v < 0) (hN : v.toNatClampNeg = N) (hby : N * 4 ≤ 536870912) (hcs : cells + 1 ≤ R.cells ∧ slots + N ≤ R.slots) (hd : decode cc pc = .ok (.anewarray idx, 3)) (k : AtE p l e R s m args below meth c nL (cells + 1) (slots + N) Q B D (F ++ G') (pc + 3) L (.ref (B + (q0 + n)) :: rest)) : AtE p l e R s m args below meth c nL cells slots Q B D (F ++ G) pc L (.int v :: rest) :=
  X_anew C X hcl hv hN hby hcs hd (by rw [fe_app _ hG, fe_len hF hn]; exact k)
theorem Y_putF (C : Cx p s m args c cc nL own B D Y) (hF : F.length = q0) (hi : meth.name = "<init>") {T : u_T} {N ci idx : Nat} {fs : List Value} (q : Nat) (he : G[q]? = some (.inr (ci, fs))) (hc : vwCl[ci]? = some (own, T, N)) (hin : ∀ w ∈ u_ws own T N, w ∈ Tz) (ty0 : Nat → FieldType) (hty : ∀ k, k < N → parseFieldDescriptor (T k).2.2.1 = some (ty0 k)) (hnm : ∀ a, a < N → ∀ b, b < N → a ≠ b → (T a).2.1 ≠ (T b).2.1) (j : Nat) (hj : j < N) (hT : (T j).1 = own) (hw : Cond.fieldLink own idx own (T j).2.1 (T j).2.2.1 ∈ Tz) (hfin : (T j).2.2.2 = true) {ty : FieldType} {v : Value} (hpd : parseFieldDescriptor (T j).2.2.1 = some ty) (hnar : narrow ty v = v) (hfit : fits ty v = true) (hl0 : j < fs.length) (hG : G.set q (.inr (ci, fs.set j v)) = G') (hd : decode cc pc = .ok (.putfield idx, 3)) (k : AtE p l e R s m args below meth c nL cells slots Q B D (F ++ G') (pc + 3) L rest) : AtE p l e R s m args below meth c nL cells slots Q B D (F ++ G) pc L (v :: .ref (B + (q0 + q)) :: rest) :=
  X_putF C hi (q0 + q) (fe_get hF he) hc hin ty0 hty hnm j hj hT hw hfin hpd hnar hfit hl0 hd (by rw [fe_set hF, hG]; exact k)
theorem Y_get (C : Cx p s m args c cc nL own B D Y) (hF : F.length = q0) {K : String} {T : u_T} {N ci idx : Nat} {fs : List Value} {v : Value} (q : Nat) (he : G[q]? = some (.inr (ci, fs))) (hcl : vwCl[ci]? = some (K, T, N)) (hin : ∀ w ∈ u_ws K T N, w ∈ Tz) (j : Nat) (hj : j < N) (hT : (T j).1 = K) (hw : Cond.fieldLink own idx K (T j).2.1 (T j).2.2.1 ∈ Tz) (hv : fs[j]? = some v) (hd : decode cc pc = .ok (.getfield idx, 3)) (k : AtE p l e R s m args below meth c nL cells slots Q B D (F ++ G) (pc + 3) L (v :: rest)) : AtE p l e R s m args below meth c nL cells slots Q B D (F ++ G) pc L (.ref (B + (q0 + q)) :: rest) :=
  X_get C (q0 + q) (fe_get hF he) hcl hin j hj hT hw hv hd k
theorem Y_aast (C : Cx p s m args c cc nL own B D Y) (X : XE Y s) (hF : F.length = q0) {N qa qv i0 : Nat} {vs : List Value} {f : Nat → Option Nat} (ha : G[qa]? = some (.inl (Y 2, N, .inr (.inr (.inr (.inr f)))))) (hv : G[qv]? = some (.inr (2, vs))) {i : Int32} (hin : vp_in i N) (hi : i.toNatClampNeg = i0) (hG : G.set qa (.inl (Y 2, N, .inr (.inr (.inr (.inr (va_up f i0 (some (B + (q0 + qv))))))))) = G') (hd : decode cc pc = .ok (.aastore, 1)) (k : AtE p l e R s m args below meth c nL cells slots Q B D (F ++ G') (pc + 1) L rest) : AtE p l e R s m args below meth c nL cells slots Q B D (F ++ G) pc L (.ref (B + (q0 + qv)) :: .int i :: .ref (B + (q0 + qa)) :: rest) :=
  X_aast C X (qa := q0 + qa) (qv := q0 + qv) (fe_get hF ha) (fe_get hF hv) hin hd (by rw [fe_set hF, hi, hG]; exact k)
theorem Y_init (C : Cx p s m args c cc nL own B D Y) (X : XE Y s) (hF : F.length = q0) {G0 : List va_E} (hn : G0.length = n) {y : MethodName} {cy : ByteArray} {nl idx mc ms : Nat} {rm : Room} {e0 : va_E} {g : Nat → List va_E} (hG : G = G0 ++ [e0]) (hG' : G0 ++ g (q0 + n) = G') (hli : LK own idx y) (hcy : CY y cy nl none 0) (hni : y.name = "<init>") (hins : Cond.instanceMethod y ∈ Tz) (hM : ∀ F' : List va_E, CI l y cy nl rm mc ms B D Y F'.length (F' ++ [e0]) (F' ++ g F'.length)) (hc : (rest.map fun v => v.category).sum ≤ 8) (hrm : rm.cells = mc ∧ rm.slots = ms ∧ rm.frames + 1 ≤ R.frames ∧ 8 + (nl + 11) + rm.locals ≤ R.locals) (hcs : cells + mc ≤ R.cells ∧ slots + ms ≤ R.slots) (hd : decode cc pc = .ok (.invokespecial idx, 3)) (k : AtE p l e R s m args below meth c nL (cells + mc) (slots + ms) Q B D (F ++ G') (pc + 3) L rest) : AtE p l e R s m args below meth c nL cells slots Q B D (F ++ G) pc L (.ref (B + (q0 + n)) :: rest) := by
  subst hG
  have h := hM (F ++ G0)
  rw [fe_len hF hn, List.append_assoc, List.append_assoc, hG'] at h
  exact X_init C X hli hcy hni hins h hc hrm hcs hd k
/-- a cell is told otherwise -/
theorem X_conv {E E' : List va_E} (hlen : E.length = E'.length) (h : ∀ H, va_P D vwCl (mkW B E) H → va_P D vwCl (mkW B E') H) (k : AtE p l e R s m args below meth c nL cells slots Q B D E' pc L rest) : AtE p l e R s m args below meth c nL cells slots Q B D E pc L rest := fun H locs ls hP hz hS hl => k H locs ls (h H hP) (by rw [← hlen]; exact hz) hS hl
end YE
theorem dX0_init_0 : decode cX0_init 0 = .ok (.aload_n 0, 1) := by decide +kernel
theorem dX0_init_1 : decode cX0_init 1 = .ok (.invokespecial 3, 3) := by decide +kernel
theorem dX0_init_4 : decode cX0_init 4 = .ok (.aload_n 0, 1) := by decide +kernel
theorem dX0_init_5 : decode cX0_init 5 = .ok (.bipush 9, 2) := by decide +kernel
theorem dX0_init_7 : decode cX0_init 7 = .ok (.newarray .int, 2) := by decide +kernel
theorem dX0_init_9 : decode cX0_init 9 = .ok (.putfield 9, 3) := by decide +kernel
theorem dX0_init_12 : decode cX0_init 12 = .ok (.aload_n 0, 1) := by decide +kernel
theorem dX0_init_13 : decode cX0_init 13 = .ok (.bipush 9, 2) := by decide +kernel
theorem dX0_init_15 : decode cX0_init 15 = .ok (.newarray .int, 2) := by decide +kernel
theorem dX0_init_17 : decode cX0_init 17 = .ok (.putfield 15, 3) := by decide +kernel
theorem dX0_init_20 : decode cX0_init 20 = .ok (.return_, 1) := by decide +kernel
theorem dX2_init_0 : decode cX2_init 0 = .ok (.aload_n 0, 1) := by decide +kernel
theorem dX2_init_1 : decode cX2_init 1 = .ok (.invokespecial 3, 3) := by decide +kernel
theorem dX2_init_4 : decode cX2_init 4 = .ok (.aload_n 0, 1) := by decide +kernel
theorem dX2_init_5 : decode cX2_init 5 = .ok (.bipush 9, 2) := by decide +kernel
theorem dX2_init_7 : decode cX2_init 7 = .ok (.newarray .int, 2) := by decide +kernel
theorem dX2_init_9 : decode cX2_init 9 = .ok (.putfield 9, 3) := by decide +kernel
theorem dX2_init_12 : decode cX2_init 12 = .ok (.return_, 1) := by decide +kernel
theorem dX3_init_0 : decode cX3_init 0 = .ok (.aload_n 0, 1) := by decide +kernel
theorem dX3_init_1 : decode cX3_init 1 = .ok (.invokespecial 3, 3) := by decide +kernel
theorem dX3_init_4 : decode cX3_init 4 = .ok (.aload_n 0, 1) := by decide +kernel
theorem dX3_init_5 : decode cX3_init 5 = .ok (.bipush 9, 2) := by decide +kernel
theorem dX3_init_7 : decode cX3_init 7 = .ok (.newarray .int, 2) := by decide +kernel
theorem dX3_init_9 : decode cX3_init 9 = .ok (.putfield 9, 3) := by decide +kernel
theorem dX3_init_12 : decode cX3_init 12 = .ok (.aload_n 0, 1) := by decide +kernel
theorem dX3_init_13 : decode cX3_init 13 = .ok (.bipush 9, 2) := by decide +kernel
theorem dX3_init_15 : decode cX3_init 15 = .ok (.newarray .int, 2) := by decide +kernel
theorem dX3_init_17 : decode cX3_init 17 = .ok (.putfield 15, 3) := by decide +kernel
theorem dX3_init_20 : decode cX3_init 20 = .ok (.return_, 1) := by decide +kernel
theorem dX4_init_0 : decode cX4_init 0 = .ok (.aload_n 0, 1) := by decide +kernel
theorem dX4_init_1 : decode cX4_init 1 = .ok (.invokespecial 3, 3) := by decide +kernel
theorem dX4_init_4 : decode cX4_init 4 = .ok (.aload_n 0, 1) := by decide +kernel
theorem dX4_init_5 : decode cX4_init 5 = .ok (.sipush 512, 3) := by decide +kernel
theorem dX4_init_8 : decode cX4_init 8 = .ok (.newarray .int, 2) := by decide +kernel
theorem dX4_init_10 : decode cX4_init 10 = .ok (.putfield 9, 3) := by decide +kernel
theorem dX4_init_13 : decode cX4_init 13 = .ok (.aload_n 0, 1) := by decide +kernel
theorem dX4_init_14 : decode cX4_init 14 = .ok (.sipush 512, 3) := by decide +kernel
theorem dX4_init_17 : decode cX4_init 17 = .ok (.newarray .int, 2) := by decide +kernel
theorem dX4_init_19 : decode cX4_init 19 = .ok (.putfield 15, 3) := by decide +kernel
theorem dX4_init_22 : decode cX4_init 22 = .ok (.aload_n 0, 1) := by decide +kernel
theorem dX4_init_23 : decode cX4_init 23 = .ok (.bipush 9, 2) := by decide +kernel
theorem dX4_init_25 : decode cX4_init 25 = .ok (.newarray .int, 2) := by decide +kernel
theorem dX4_init_27 : decode cX4_init 27 = .ok (.putfield 18, 3) := by decide +kernel
theorem dX4_init_30 : decode cX4_init 30 = .ok (.return_, 1) := by decide +kernel
theorem dX5_init_0 : decode cX5_init 0 = .ok (.aload_n 0, 1) := by decide +kernel
theorem dX5_init_1 : decode cX5_init 1 = .ok (.invokespecial 3, 3) := by decide +kernel
theorem dX5_init_4 : decode cX5_init 4 = .ok (.aload_n 0, 1) := by decide +kernel
theorem dX5_init_5 : decode cX5_init 5 = .ok (.new 9, 3) := by decide +kernel
theorem dX5_init_8 : decode cX5_init 8 = .ok (.dup, 1) := by decide +kernel
theorem dX5_init_9 : decode cX5_init 9 = .ok (.invokespecial 11, 3) := by decide +kernel
theorem dX5_init_12 : decode cX5_init 12 = .ok (.putfield 12, 3) := by decide +kernel
theorem dX5_init_15 : decode cX5_init 15 = .ok (.aload_n 0, 1) := by decide +kernel
theorem dX5_init_16 : decode cX5_init 16 = .ok (.new 9, 3) := by decide +kernel
theorem dX5_init_19 : decode cX5_init 19 = .ok (.dup, 1) := by decide +kernel
theorem dX5_init_20 : decode cX5_init 20 = .ok (.invokespecial 11, 3) := by decide +kernel
theorem dX5_init_23 : decode cX5_init 23 = .ok (.putfield 18, 3) := by decide +kernel
theorem dX5_init_26 : decode cX5_init 26 = .ok (.aload_n 0, 1) := by decide +kernel
theorem dX5_init_27 : decode cX5_init 27 = .ok (.new 21, 3) := by decide +kernel
theorem dX5_init_30 : decode cX5_init 30 = .ok (.dup, 1) := by decide +kernel
theorem dX5_init_31 : decode cX5_init 31 = .ok (.invokespecial 23, 3) := by decide +kernel
theorem dX5_init_34 : decode cX5_init 34 = .ok (.putfield 24, 3) := by decide +kernel
theorem dX5_init_37 : decode cX5_init 37 = .ok (.aload_n 0, 1) := by decide +kernel
theorem dX5_init_38 : decode cX5_init 38 = .ok (.new 21, 3) := by decide +kernel
theorem dX5_init_41 : decode cX5_init 41 = .ok (.dup, 1) := by decide +kernel
theorem dX5_init_42 : decode cX5_init 42 = .ok (.invokespecial 23, 3) := by decide +kernel
theorem dX5_init_45 : decode cX5_init 45 = .ok (.putfield 28, 3) := by decide +kernel
theorem dX5_init_48 : decode cX5_init 48 = .ok (.aload_n 0, 1) := by decide +kernel
theorem dX5_init_49 : decode cX5_init 49 = .ok (.new 31, 3) := by decide +kernel
theorem dX5_init_52 : decode cX5_init 52 = .ok (.dup, 1) := by decide +kernel
theorem dX5_init_53 : decode cX5_init 53 = .ok (.invokespecial 33, 3) := by decide +kernel
theorem dX5_init_56 : decode cX5_init 56 = .ok (.putfield 34, 3) := by decide +kernel
theorem dX5_init_59 : decode cX5_init 59 = .ok (.aload_n 0, 1) := by decide +kernel
theorem dX5_init_60 : decode cX5_init 60 = .ok (.new 38, 3) := by decide +kernel
theorem dX5_init_63 : decode cX5_init 63 = .ok (.dup, 1) := by decide +kernel
theorem dX5_init_64 : decode cX5_init 64 = .ok (.invokespecial 40, 3) := by decide +kernel
theorem dX5_init_67 : decode cX5_init 67 = .ok (.putfield 41, 3) := by decide +kernel
theorem dX5_init_70 : decode cX5_init 70 = .ok (.aload_n 0, 1) := by decide +kernel
theorem dX5_init_71 : decode cX5_init 71 = .ok (.bipush 10, 2) := by decide +kernel
theorem dX5_init_73 : decode cX5_init 73 = .ok (.newarray .int, 2) := by decide +kernel
theorem dX5_init_75 : decode cX5_init 75 = .ok (.putfield 45, 3) := by decide +kernel
theorem dX5_init_78 : decode cX5_init 78 = .ok (.return_, 1) := by decide +kernel
theorem dX6_init_0 : decode cX6_init 0 = .ok (.aload_n 0, 1) := by decide +kernel
theorem dX6_init_1 : decode cX6_init 1 = .ok (.invokespecial 3, 3) := by decide +kernel
theorem dX6_init_4 : decode cX6_init 4 = .ok (.aload_n 0, 1) := by decide +kernel
theorem dX6_init_5 : decode cX6_init 5 = .ok (.iconst 4, 1) := by decide +kernel
theorem dX6_init_6 : decode cX6_init 6 = .ok (.anewarray 9, 3) := by decide +kernel
theorem dX6_init_9 : decode cX6_init 9 = .ok (.putfield 11, 3) := by decide +kernel
theorem dX6_init_12 : decode cX6_init 12 = .ok (.iconst 0, 1) := by decide +kernel
theorem dX6_init_13 : decode cX6_init 13 = .ok (.istore_n 1, 1) := by decide +kernel
theorem dX6_init_14 : decode cX6_init 14 = .ok (.iload_n 1, 1) := by decide +kernel
theorem dX6_init_15 : decode cX6_init 15 = .ok (.iconst 4, 1) := by decide +kernel
theorem dX6_init_16 : decode cX6_init 16 = .ok (.if_icmp .ge 22, 3) := by decide +kernel
theorem dX6_init_19 : decode cX6_init 19 = .ok (.aload_n 0, 1) := by decide +kernel
theorem dX6_init_20 : decode cX6_init 20 = .ok (.getfield 11, 3) := by decide +kernel
theorem dX6_init_23 : decode cX6_init 23 = .ok (.iload_n 1, 1) := by decide +kernel
theorem dX6_init_24 : decode cX6_init 24 = .ok (.new 9, 3) := by decide +kernel
theorem dX6_init_27 : decode cX6_init 27 = .ok (.dup, 1) := by decide +kernel
theorem dX6_init_28 : decode cX6_init 28 = .ok (.invokespecial 15, 3) := by decide +kernel
theorem dX6_init_31 : decode cX6_init 31 = .ok (.aastore, 1) := by decide +kernel
theorem dX6_init_32 : decode cX6_init 32 = .ok (.iinc 1 1, 3) := by decide +kernel
theorem dX6_init_35 : decode cX6_init 35 = .ok (.goto (-21), 3) := by decide +kernel
theorem dX6_init_38 : decode cX6_init 38 = .ok (.aload_n 0, 1) := by decide +kernel
theorem dX6_init_39 : decode cX6_init 39 = .ok (.new 9, 3) := by decide +kernel
theorem dX6_init_42 : decode cX6_init 42 = .ok (.dup, 1) := by decide +kernel
theorem dX6_init_43 : decode cX6_init 43 = .ok (.invokespecial 15, 3) := by decide +kernel
theorem dX6_init_46 : decode cX6_init 46 = .ok (.putfield 16, 3) := by decide +kernel
theorem dX6_init_49 : decode cX6_init 49 = .ok (.aload_n 0, 1) := by decide +kernel
theorem dX6_init_50 : decode cX6_init 50 = .ok (.new 20, 3) := by decide +kernel
theorem dX6_init_53 : decode cX6_init 53 = .ok (.dup, 1) := by decide +kernel
theorem dX6_init_54 : decode cX6_init 54 = .ok (.invokespecial 22, 3) := by decide +kernel
theorem dX6_init_57 : decode cX6_init 57 = .ok (.putfield 23, 3) := by decide +kernel
theorem dX6_init_60 : decode cX6_init 60 = .ok (.aload_n 0, 1) := by decide +kernel
theorem dX6_init_61 : decode cX6_init 61 = .ok (.new 27, 3) := by decide +kernel
theorem dX6_init_64 : decode cX6_init 64 = .ok (.dup, 1) := by decide +kernel
theorem dX6_init_65 : decode cX6_init 65 = .ok (.invokespecial 29, 3) := by decide +kernel
theorem dX6_init_68 : decode cX6_init 68 = .ok (.putfield 30, 3) := by decide +kernel
theorem dX6_init_71 : decode cX6_init 71 = .ok (.aload_n 0, 1) := by decide +kernel
theorem dX6_init_72 : decode cX6_init 72 = .ok (.new 34, 3) := by decide +kernel
theorem dX6_init_75 : decode cX6_init 75 = .ok (.dup, 1) := by decide +kernel
theorem dX6_init_76 : decode cX6_init 76 = .ok (.invokespecial 36, 3) := by decide +kernel
theorem dX6_init_79 : decode cX6_init 79 = .ok (.putfield 37, 3) := by decide +kernel
theorem dX6_init_82 : decode cX6_init 82 = .ok (.aload_n 0, 1) := by decide +kernel
theorem dX6_init_83 : decode cX6_init 83 = .ok (.new 41, 3) := by decide +kernel
theorem dX6_init_86 : decode cX6_init 86 = .ok (.dup, 1) := by decide +kernel
theorem dX6_init_87 : decode cX6_init 87 = .ok (.invokespecial 43, 3) := by decide +kernel
theorem dX6_init_90 : decode cX6_init 90 = .ok (.putfield 44, 3) := by decide +kernel
theorem dX6_init_93 : decode cX6_init 93 = .ok (.return_, 1) := by decide +kernel
theorem dX7_init_0 : decode cX7_init 0 = .ok (.aload_n 0, 1) := by decide +kernel
theorem dX7_init_1 : decode cX7_init 1 = .ok (.invokespecial 1, 3) := by decide +kernel
theorem dX7_init_4 : decode cX7_init 4 = .ok (.aload_n 0, 1) := by decide +kernel
theorem dX7_init_5 : decode cX7_init 5 = .ok (.iconst 5, 1) := by decide +kernel
theorem dX7_init_6 : decode cX7_init 6 = .ok (.newarray .int, 2) := by decide +kernel
theorem dX7_init_8 : decode cX7_init 8 = .ok (.putfield 9, 3) := by decide +kernel
theorem dX7_init_11 : decode cX7_init 11 = .ok (.aload_n 0, 1) := by decide +kernel
theorem dX7_init_12 : decode cX7_init 12 = .ok (.iconst 5, 1) := by decide +kernel
theorem dX7_init_13 : decode cX7_init 13 = .ok (.bipush 9, 2) := by decide +kernel
theorem dX7_init_15 : decode cX7_init 15 = .ok (.multianewarray 13 2, 4) := by decide +kernel
theorem dX7_init_19 : decode cX7_init 19 = .ok (.putfield 15, 3) := by decide +kernel
theorem dX7_init_22 : decode cX7_init 22 = .ok (.aload_n 0, 1) := by decide +kernel
theorem dX7_init_23 : decode cX7_init 23 = .ok (.iconst 5, 1) := by decide +kernel
theorem dX7_init_24 : decode cX7_init 24 = .ok (.bipush 9, 2) := by decide +kernel
theorem dX7_init_26 : decode cX7_init 26 = .ok (.bipush 9, 2) := by decide +kernel
theorem dX7_init_28 : decode cX7_init 28 = .ok (.multianewarray 18 3, 4) := by decide +kernel
theorem dX7_init_32 : decode cX7_init 32 = .ok (.putfield 20, 3) := by decide +kernel
theorem dX7_init_35 : decode cX7_init 35 = .ok (.aload_n 0, 1) := by decide +kernel
theorem dX7_init_36 : decode cX7_init 36 = .ok (.sipush 512, 3) := by decide +kernel
theorem dX7_init_39 : decode cX7_init 39 = .ok (.newarray .int, 2) := by decide +kernel
theorem dX7_init_41 : decode cX7_init 41 = .ok (.putfield 23, 3) := by decide +kernel
theorem dX7_init_44 : decode cX7_init 44 = .ok (.aload_n 0, 1) := by decide +kernel
theorem dX7_init_45 : decode cX7_init 45 = .ok (.sipush 512, 3) := by decide +kernel
theorem dX7_init_48 : decode cX7_init 48 = .ok (.newarray .int, 2) := by decide +kernel
theorem dX7_init_50 : decode cX7_init 50 = .ok (.putfield 26, 3) := by decide +kernel
theorem dX7_init_53 : decode cX7_init 53 = .ok (.aload_n 0, 1) := by decide +kernel
theorem dX7_init_54 : decode cX7_init 54 = .ok (.bipush 9, 2) := by decide +kernel
theorem dX7_init_56 : decode cX7_init 56 = .ok (.newarray .int, 2) := by decide +kernel
theorem dX7_init_58 : decode cX7_init 58 = .ok (.putfield 29, 3) := by decide +kernel
theorem dX7_init_61 : decode cX7_init 61 = .ok (.aload_n 0, 1) := by decide +kernel
theorem dX7_init_62 : decode cX7_init 62 = .ok (.bipush 9, 2) := by decide +kernel
theorem dX7_init_64 : decode cX7_init 64 = .ok (.newarray .int, 2) := by decide +kernel
theorem dX7_init_66 : decode cX7_init 66 = .ok (.putfield 32, 3) := by decide +kernel
theorem dX7_init_69 : decode cX7_init 69 = .ok (.return_, 1) := by decide +kernel
theorem cy_X0 : CY yX0_init cX0_init 1 none 0 := ⟨Tz_mem (tz1 (List.mem_of_getElem? (i := 58) rfl)) rfl, Tz_mem (tz1 (List.mem_of_getElem? (i := 3) rfl)) rfl, ⟨by decide, by decide⟩, by decide +kernel⟩
theorem im_X0 : Cond.instanceMethod yX0_init ∈ Tz := Tz_mem (tz1 (List.mem_of_getElem? (i := 57) rfl)) rfl
theorem ob_X0 : Cond.methodLink RX0 3 Lib.objectInit ∈ Tz := Tz_mem (tz1 (List.mem_of_getElem? (i := 59) rfl)) rfl
theorem is_X0 : Cond.instantiable RX0 2 ∈ Tz := Tz_mem (tz1 (List.mem_of_getElem? (i := 55) rfl)) rfl
theorem it_X0 : Cond.initialized RX0 ∈ Tz := Tz_mem (tz1 (List.mem_of_getElem? (i := 3) rfl)) rfl
theorem df_X0 : ∀ j, j < 2 → defaultValue (tyX0 j) = vp_V [.null, .null] j := fun j hj => match j, hj with | 0, _ => rfl | 1, _ => rfl | j + 2, h => absurd h (by omega)
theorem cy_X2 : CY yX2_init cX2_init 1 none 0 := ⟨Tz_mem (tz1 (List.mem_of_getElem? (i := 88) rfl)) rfl, Tz_mem (tz1 (List.mem_of_getElem? (i := 5) rfl)) rfl, ⟨by decide, by decide⟩, by decide +kernel⟩
theorem im_X2 : Cond.instanceMethod yX2_init ∈ Tz := Tz_mem (tz1 (List.mem_of_getElem? (i := 87) rfl)) rfl
theorem ob_X2 : Cond.methodLink RX2 3 Lib.objectInit ∈ Tz := Tz_mem (tz1 (List.mem_of_getElem? (i := 89) rfl)) rfl
theorem is_X2 : Cond.instantiable RX2 1 ∈ Tz := Tz_mem (tz1 (List.mem_of_getElem? (i := 85) rfl)) rfl
theorem it_X2 : Cond.initialized RX2 ∈ Tz := Tz_mem (tz1 (List.mem_of_getElem? (i := 5) rfl)) rfl
theorem df_X2 : ∀ j, j < 1 → defaultValue (tyX2 j) = vp_V [.null] j := fun j hj => match j, hj with | 0, _ => rfl | j + 1, h => absurd h (by omega)
theorem cy_X3 : CY yX3_init cX3_init 1 none 0 := ⟨Tz_mem (tz1 (List.mem_of_getElem? (i := 30) rfl)) rfl, Tz_mem (tz1 (List.mem_of_getElem? (i := 2) rfl)) rfl, ⟨by decide, by decide⟩, by decide +kernel⟩
theorem im_X3 : Cond.instanceMethod yX3_init ∈ Tz := Tz_mem (tz1 (List.mem_of_getElem? (i := 29) rfl)) rfl
theorem ob_X3 : Cond.methodLink RX3 3 Lib.objectInit ∈ Tz := Tz_mem (tz1 (List.mem_of_getElem? (i := 31) rfl)) rfl
theorem is_X3 : Cond.instantiable RX3 3 ∈ Tz := Tz_mem (tz1 (List.mem_of_getElem? (i := 27) rfl)) rfl
theorem it_X3 : Cond.initialized RX3 ∈ Tz := Tz_mem (tz1 (List.mem_of_getElem? (i := 2) rfl)) rfl
theorem df_X3 : ∀ j, j < 3 → defaultValue (tyX3 j) = vp_V [.int 0, .null, .null] j := fun j hj => match j, hj with | 0, _ => rfl | 1, _ => rfl | 2, _ => rfl | j + 3, h => absurd h (by omega)
theorem cy_X4 : CY yX4_init cX4_init 1 none 0 := ⟨Tz_mem (tz1 (List.mem_of_getElem? (i := 71) rfl)) rfl, Tz_mem (tz1 (List.mem_of_getElem? (i := 4) rfl)) rfl, ⟨by decide, by decide⟩, by decide +kernel⟩
theorem im_X4 : Cond.instanceMethod yX4_init ∈ Tz := Tz_mem (tz1 (List.mem_of_getElem? (i := 70) rfl)) rfl
theorem ob_X4 : Cond.methodLink RX4 3 Lib.objectInit ∈ Tz := Tz_mem (tz1 (List.mem_of_getElem? (i := 72) rfl)) rfl
theorem is_X4 : Cond.instantiable RX4 3 ∈ Tz := Tz_mem (tz1 (List.mem_of_getElem? (i := 68) rfl)) rfl
theorem it_X4 : Cond.initialized RX4 ∈ Tz := Tz_mem (tz1 (List.mem_of_getElem? (i := 4) rfl)) rfl
theorem df_X4 : ∀ j, j < 3 → defaultValue (tyX4 j) = vp_V [.null, .null, .null] j := fun j hj => match j, hj with | 0, _ => rfl | 1, _ => rfl | 2, _ => rfl | j + 3, h => absurd h (by omega)
theorem cy_X5 : CY yX5_init cX5_init 1 none 0 := ⟨Tz_mem (tz1 (List.mem_of_getElem? (i := 98) rfl)) rfl, Tz_mem (tz1 (List.mem_of_getElem? (i := 6) rfl)) rfl, ⟨by decide, by decide⟩, by decide +kernel⟩
theorem im_X5 : Cond.instanceMethod yX5_init ∈ Tz := Tz_mem (tz1 (List.mem_of_getElem? (i := 97) rfl)) rfl
theorem ob_X5 : Cond.methodLink RX5 3 Lib.objectInit ∈ Tz := Tz_mem (tz1 (List.mem_of_getElem? (i := 99) rfl)) rfl
theorem is_X5 : Cond.instantiable RX5 7 ∈ Tz := Tz_mem (tz1 (List.mem_of_getElem? (i := 95) rfl)) rfl
theorem it_X5 : Cond.initialized RX5 ∈ Tz := Tz_mem (tz1 (List.mem_of_getElem? (i := 6) rfl)) rfl
theorem df_X5 : ∀ j, j < 7 → defaultValue (tyX5 j) = vp_V [.null, .null, .null, .null, .null, .null, .null] j := fun j hj => match j, hj with | 0, _ => rfl | 1, _ => rfl | 2, _ => rfl | 3, _ => rfl | 4, _ => rfl | 5, _ => rfl | 6, _ => rfl | j + 7, h => absurd h (by omega)
theorem cy_X6 : CY yX6_init cX6_init 2 none 0 := ⟨Tz_mem (tz1 (List.mem_of_getElem? (i := 21) rfl)) rfl, Tz_mem (tz1 (List.mem_of_getElem? (i := 1) rfl)) rfl, ⟨by decide, by decide⟩, by decide +kernel⟩
theorem im_X6 : Cond.instanceMethod yX6_init ∈ Tz := Tz_mem (tz1 (List.mem_of_getElem? (i := 20) rfl)) rfl
theorem ob_X6 : Cond.methodLink RX6 3 Lib.objectInit ∈ Tz := Tz_mem (tz1 (List.mem_of_getElem? (i := 22) rfl)) rfl
theorem is_X6 : Cond.instantiable RX6 6 ∈ Tz := Tz_mem (tz1 (List.mem_of_getElem? (i := 18) rfl)) rfl
theorem it_X6 : Cond.initialized RX6 ∈ Tz := Tz_mem (tz1 (List.mem_of_getElem? (i := 1) rfl)) rfl
theorem df_X6 : ∀ j, j < 6 → defaultValue (tyX6 j) = vp_V [.null, .null, .null, .null, .null, .null] j := fun j hj => match j, hj with | 0, _ => rfl | 1, _ => rfl | 2, _ => rfl | 3, _ => rfl | 4, _ => rfl | 5, _ => rfl | j + 6, h => absurd h (by omega)
theorem cy_X7 : CY yX7_init cX7_init 1 none 0 := ⟨Tz_mem (tz5 (List.mem_of_getElem? (i := 124) rfl)) rfl, Tz_mem (tz1 (List.mem_of_getElem? (i := 7) rfl)) rfl, ⟨by decide, by decide⟩, by decide +kernel⟩
theorem im_X7 : Cond.instanceMethod yX7_init ∈ Tz := Tz_mem (tz5 (List.mem_of_getElem? (i := 123) rfl)) rfl
theorem ob_X7 : Cond.methodLink RX7 1 Lib.objectInit ∈ Tz := Tz_mem (tz5 (List.mem_of_getElem? (i := 125) rfl)) rfl
theorem is_X7 : Cond.instantiable RX7 8 ∈ Tz := Tz_mem (tz5 (List.mem_of_getElem? (i := 121) rfl)) rfl
theorem it_X7 : Cond.initialized RX7 ∈ Tz := Tz_mem (tz1 (List.mem_of_getElem? (i := 7) rfl)) rfl
theorem df_X7 : ∀ j, j < 8 → defaultValue (tyX7 j) = vp_V [.null, .null, .null, .int 0, .null, .null, .null, .null] j := fun j hj => match j, hj with | 0, _ => rfl | 1, _ => rfl | 2, _ => rfl | 3, _ => rfl | 4, _ => rfl | 5, _ => rfl | 6, _ => rfl | 7, _ => rfl | j + 8, h => absurd h (by omega)
def iA (Y : Nat → ClassId) (n : Nat) : va_E := .inl (Y 0, n, .inl (fun _ => 0))
theorem iA_cell (cA : ClassId) (n : Nat) : vp_cell cA (n, .inl (fun _ => 0)) = arrV cA n (fun _ => defaultValue .int) := rfl
def blX (x : Nat) : va_E := match x with | 0 => (.inr (0, [.null, .null]) : va_E) | 2 => (.inr (1, [.null]) : va_E) | 3 => (.inr (2, [.int 0, .null, .null]) : va_E) | 4 => (.inr (3, [.null, .null, .null]) : va_E) | 5 => (.inr (4, [.null, .null, .null, .null, .null, .null, .null]) : va_E) | 6 => (.inr (5, [.null, .null, .null, .null, .null, .null]) : va_E) | 7 => (.inr (6, [.null, .null, .null, .int 0, .null, .null, .null, .null]) : va_E) | _ => .inr (0, [])
def g3 (B : Nat) (Y : Nat → ClassId) (q : Nat) : List va_E := [.inr (2, [.int 0, .ref (B + (q + 1)), .ref (B + (q + 2))]), iA Y 9, iA Y 9]
def g0 (B : Nat) (Y : Nat → ClassId) (q : Nat) : List va_E := [.inr (0, [.ref (B + (q + 1)), .ref (B + (q + 2))]), iA Y 9, iA Y 9]
def g2 (B : Nat) (Y : Nat → ClassId) (q : Nat) : List va_E := [.inr (1, [.ref (B + (q + 1))]), iA Y 9]
def g4 (B : Nat) (Y : Nat → ClassId) (q : Nat) : List va_E := [.inr (3, [.ref (B + (q + 1)), .ref (B + (q + 2)), .ref (B + (q + 3))]), iA Y 512, iA Y 512, iA Y 9]
def g5 (B : Nat) (Y : Nat → ClassId) (q : Nat) : List va_E := (.inr (4, [.ref (B + (q + 1)), .ref (B + (q + 4)), .ref (B + (q + 7)), .ref (B + (q + 11)), .ref (B + (q + 15)), .ref (B + (q + 18)), .ref (B + (q + 20))]) : va_E) :: (g3 B Y (q + 1) ++ g3 B Y (q + 4) ++ g4 B Y (q + 7) ++ g4 B Y (q + 11) ++ g0 B Y (q + 15) ++ g2 B Y (q + 18) ++ [iA Y 10])
def g6 (B : Nat) (Y : Nat → ClassId) (q : Nat) : List va_E := (.inr (5, [.ref (B + (q + 1)), .ref (B + (q + 14)), .ref (B + (q + 17)), .ref (B + (q + 20)), .ref (B + (q + 24)), .ref (B + (q + 26))]) : va_E) :: ((.inl (Y 2, 4, .inr (.inr (.inr (.inr (fun j => some (B + (q + 2 + 3 * j))))))) : va_E) :: (g3 B Y (q + 2) ++ g3 B Y (q + 5) ++ g3 B Y (q + 8) ++ g3 B Y (q + 11) ++ g3 B Y (q + 14) ++ g0 B Y (q + 17) ++ g4 B Y (q + 20) ++ g2 B Y (q + 24) ++ g5 B Y (q + 26)))
theorem cellsOf_app (a b : List (ClassId × vp_A)) : cellsOf (a ++ b) = cellsOf a ++ cellsOf b := by simp only [cellsOf, List.map_append]
def a2 (B : Nat) (Y : Nat → ClassId) (q : Nat) : List (ClassId × vp_A) := [(Y 3, 5, .inr (.inr (.inr (.inr (fun j => some (B + (q + 3 + j)))))))] ++ [(Y 0, 9, .inl (fun _ => 0)), (Y 0, 9, .inl (fun _ => 0)), (Y 0, 9, .inl (fun _ => 0)), (Y 0, 9, .inl (fun _ => 0)), (Y 0, 9, .inl (fun _ => 0))]
def a3 (B : Nat) (Y : Nat → ClassId) (q : Nat) : List (ClassId × vp_A) := [(Y 4, 5, .inr (.inr (.inr (.inr (fun j => some (B + (q + 9 + 10 * j)))))))] ++ [(Y 5, 9, .inr (.inr (.inr (.inr (fun j => some (B + (q + (10 + 10 * 0) + j))))))), (Y 1, 9, .inl (fun _ => 0)), (Y 1, 9, .inl (fun _ => 0)), (Y 1, 9, .inl (fun _ => 0)), (Y 1, 9, .inl (fun _ => 0)), (Y 1, 9, .inl (fun _ => 0)), (Y 1, 9, .inl (fun _ => 0)), (Y 1, 9, .inl (fun _ => 0)), (Y 1, 9, .inl (fun _ => 0)), (Y 1, 9, .inl (fun _ => 0))] ++ [(Y 5, 9, .inr (.inr (.inr (.inr (fun j => some (B + (q + (10 + 10 * 1) + j))))))), (Y 1, 9, .inl (fun _ => 0)), (Y 1, 9, .inl (fun _ => 0)), (Y 1, 9, .inl (fun _ => 0)), (Y 1, 9, .inl (fun _ => 0)), (Y 1, 9, .inl (fun _ => 0)), (Y 1, 9, .inl (fun _ => 0)), (Y 1, 9, .inl (fun _ => 0)), (Y 1, 9, .inl (fun _ => 0)), (Y 1, 9, .inl (fun _ => 0))] ++ [(Y 5, 9, .inr (.inr (.inr (.inr (fun j => some (B + (q + (10 + 10 * 2) + j))))))), (Y 1, 9, .inl (fun _ => 0)), (Y 1, 9, .inl (fun _ => 0)), (Y 1, 9, .inl (fun _ => 0)), (Y 1, 9, .inl (fun _ => 0)), (Y 1, 9, .inl (fun _ => 0)), (Y 1, 9, .inl (fun _ => 0)), (Y 1, 9, .inl (fun _ => 0)), (Y 1, 9, .inl (fun _ => 0)), (Y 1, 9, .inl (fun _ => 0))] ++ [(Y 5, 9, .inr (.inr (.inr (.inr (fun j => some (B + (q + (10 + 10 * 3) + j))))))), (Y 1, 9, .inl (fun _ => 0)), (Y 1, 9, .inl (fun _ => 0)), (Y 1, 9, .inl (fun _ => 0)), (Y 1, 9, .inl (fun _ => 0)), (Y 1, 9, .inl (fun _ => 0)), (Y 1, 9, .inl (fun _ => 0)), (Y 1, 9, .inl (fun _ => 0)), (Y 1, 9, .inl (fun _ => 0)), (Y 1, 9, .inl (fun _ => 0))] ++ [(Y 5, 9, .inr (.inr (.inr (.inr (fun j => some (B + (q + (10 + 10 * 4) + j))))))), (Y 1, 9, .inl (fun _ => 0)), (Y 1, 9, .inl (fun _ => 0)), (Y 1, 9, .inl (fun _ => 0)), (Y 1, 9, .inl (fun _ => 0)), (Y 1, 9, .inl (fun _ => 0)), (Y 1, 9, .inl (fun _ => 0)), (Y 1, 9, .inl (fun _ => 0)), (Y 1, 9, .inl (fun _ => 0)), (Y 1, 9, .inl (fun _ => 0))]
def rm_i3 : Room := { frames := 1, cells := 2, slots := 18, locals := 28 }
theorem ci_X3 {l : Launch} {B : Nat} {D : va_G} {Y : Nat → ClassId} (F : List va_E) : CI l yX3_init cX3_init 1 rm_i3 2 18 B D Y F.length (F ++ [(.inr (2, [.int 0, .null, .null]) : va_E)]) (F ++ g3 B Y F.length) := by
  generalize hF : F.length = q0
  refine ofE (by decide) (by decide) rfl fun p e s m args below meth c C X hi hr hk => ?_
  refine X_aload_n C 0 rfl dX3_init_0 ?_
  refine X_objInit C ob_X3 (by decide) (by decide) (by decide) dX3_init_1 ?_
  refine X_aload_n C 0 rfl dX3_init_4 ?_
  refine X_bipush C (v := 9) (by decide) dX3_init_5 ?_
  refine Y_newa (n := 1) (G' := (.inr (2, [.int 0, .null, .null]) : va_E) :: ([iA Y 9])) (atype := .int) C X hF rfl rfl 0 rfl (9, .inl (fun _ => 0)) rfl (fun cA => iA_cell cA 9) (by decide) (by decide) (by decide) (by decide) dX3_init_7 ?_
  refine Y_putF (q0 := q0) (fs := [.int 0, .null, .null]) (G' := (.inr (2, [.int 0, .ref (B + (q0 + 1)), .null]) : va_E) :: ([iA Y 9])) C hF hi 0 rfl rfl inX3 tyX3 tyX3_ok nmX3 1 (by decide) rfl (Tz_mem (tz1 (List.mem_of_getElem? (i := 39) rfl)) rfl) rfl (tyX3_ok 1 (by decide)) rfl rfl (show 1 < 3 by decide) rfl dX3_init_9 ?_
  refine X_aload_n C 0 rfl dX3_init_12 ?_
  refine X_bipush C (v := 9) (by decide) dX3_init_13 ?_
  refine Y_newa (n := 2) (G' := (.inr (2, [.int 0, .ref (B + (q0 + 1)), .null]) : va_E) :: ([iA Y 9] ++ [iA Y 9])) (atype := .int) C X hF rfl rfl 0 rfl (9, .inl (fun _ => 0)) rfl (fun cA => iA_cell cA 9) (by decide) (by decide) (by decide) (by decide) dX3_init_15 ?_
  refine Y_putF (q0 := q0) (fs := [.int 0, .ref (B + (q0 + 1)), .null]) (G' := (.inr (2, [.int 0, .ref (B + (q0 + 1)), .ref (B + (q0 + 2))]) : va_E) :: ([iA Y 9] ++ [iA Y 9])) C hF hi 0 rfl rfl inX3 tyX3 tyX3_ok nmX3 2 (by decide) rfl (Tz_mem (tz1 (List.mem_of_getElem? (i := 43) rfl)) rfl) rfl (tyX3_ok 2 (by decide)) rfl rfl (show 2 < 3 by decide) rfl dX3_init_17 ?_
  refine X_eq (E' := F ++ g3 B Y q0) rfl ?_
  exact X_ret C hr hk (by decide) dX3_init_20
def rm_i0 : Room := { frames := 1, cells := 2, slots := 18, locals := 28 }
theorem ci_X0 {l : Launch} {B : Nat} {D : va_G} {Y : Nat → ClassId} (F : List va_E) : CI l yX0_init cX0_init 1 rm_i0 2 18 B D Y F.length (F ++ [(.inr (0, [.null, .null]) : va_E)]) (F ++ g0 B Y F.length) := by
  generalize hF : F.length = q0
  refine ofE (by decide) (by decide) rfl fun p e s m args below meth c C X hi hr hk => ?_
  refine X_aload_n C 0 rfl dX0_init_0 ?_
  refine X_objInit C ob_X0 (by decide) (by decide) (by decide) dX0_init_1 ?_
  refine X_aload_n C 0 rfl dX0_init_4 ?_
  refine X_bipush C (v := 9) (by decide) dX0_init_5 ?_
  refine Y_newa (n := 1) (G' := (.inr (0, [.null, .null]) : va_E) :: ([iA Y 9])) (atype := .int) C X hF rfl rfl 0 rfl (9, .inl (fun _ => 0)) rfl (fun cA => iA_cell cA 9) (by decide) (by decide) (by decide) (by decide) dX0_init_7 ?_
  refine Y_putF (q0 := q0) (fs := [.null, .null]) (G' := (.inr (0, [.ref (B + (q0 + 1)), .null]) : va_E) :: ([iA Y 9])) C hF hi 0 rfl rfl inX0 tyX0 tyX0_ok nmX0 0 (by decide) rfl (Tz_mem (tz1 (List.mem_of_getElem? (i := 60) rfl)) rfl) rfl (tyX0_ok 0 (by decide)) rfl rfl (show 0 < 2 by decide) rfl dX0_init_9 ?_
  refine X_aload_n C 0 rfl dX0_init_12 ?_
  refine X_bipush C (v := 9) (by decide) dX0_init_13 ?_
  refine Y_newa (n := 2) (G' := (.inr (0, [.ref (B + (q0 + 1)), .null]) : va_E) :: ([iA Y 9] ++ [iA Y 9])) (atype := .int) C X hF rfl rfl 0 rfl (9, .inl (fun _ => 0)) rfl (fun cA => iA_cell cA 9) (by decide) (by decide) (by decide) (by decide) dX0_init_15 ?_
  refine Y_putF (q0 := q0) (fs := [.ref (B + (q0 + 1)), .null]) (G' := (.inr (0, [.ref (B + (q0 + 1)), .ref (B + (q0 + 2))]) : va_E) :: ([iA Y 9] ++ [iA Y 9])) C hF hi 0 rfl rfl inX0 tyX0 tyX0_ok nmX0 1 (by decide) rfl (Tz_mem (tz1 (List.mem_of_getElem? (i := 61) rfl)) rfl) rfl (tyX0_ok 1 (by decide)) rfl rfl (show 1 < 2 by decide) rfl dX0_init_17 ?_
  refine X_eq (E' := F ++ g0 B Y q0) rfl ?_
  exact X_ret C hr hk (by decide) dX0_init_20
def rm_i2 : Room := { frames := 1, cells := 1, slots := 9, locals := 28 }
theorem ci_X2 {l : Launch} {B : Nat} {D : va_G} {Y : Nat → ClassId} (F : List va_E) : CI l yX2_init cX2_init 1 rm_i2 1 9 B D Y F.length (F ++ [(.inr (1, [.null]) : va_E)]) (F ++ g2 B Y F.length) := by
  generalize hF : F.length = q0
  refine ofE (by decide) (by decide) rfl fun p e s m args below meth c C X hi hr hk => ?_
  refine X_aload_n C 0 rfl dX2_init_0 ?_
  refine X_objInit C ob_X2 (by decide) (by decide) (by decide) dX2_init_1 ?_
  refine X_aload_n C 0 rfl dX2_init_4 ?_
  refine X_bipush C (v := 9) (by decide) dX2_init_5 ?_
  refine Y_newa (n := 1) (G' := (.inr (1, [.null]) : va_E) :: ([iA Y 9])) (atype := .int) C X hF rfl rfl 0 rfl (9, .inl (fun _ => 0)) rfl (fun cA => iA_cell cA 9) (by decide) (by decide) (by decide) (by decide) dX2_init_7 ?_
  refine Y_putF (q0 := q0) (fs := [.null]) (G' := (.inr (1, [.ref (B + (q0 + 1))]) : va_E) :: ([iA Y 9])) C hF hi 0 rfl rfl inX2 tyX2 tyX2_ok nmX2 0 (by decide) rfl (Tz_mem (tz1 (List.mem_of_getElem? (i := 90) rfl)) rfl) rfl (tyX2_ok 0 (by decide)) rfl rfl (show 0 < 1 by decide) rfl dX2_init_9 ?_
  refine X_eq (E' := F ++ g2 B Y q0) rfl ?_
  exact X_ret C hr hk (by decide) dX2_init_12
def rm_i4 : Room := { frames := 1, cells := 3, slots := 1033, locals := 28 }
theorem ci_X4 {l : Launch} {B : Nat} {D : va_G} {Y : Nat → ClassId} (F : List va_E) : CI l yX4_init cX4_init 1 rm_i4 3 1033 B D Y F.length (F ++ [(.inr (3, [.null, .null, .null]) : va_E)]) (F ++ g4 B Y F.length) := by
  generalize hF : F.length = q0
  refine ofE (by decide) (by decide) rfl fun p e s m args below meth c C X hi hr hk => ?_
  refine X_aload_n C 0 rfl dX4_init_0 ?_
  refine X_objInit C ob_X4 (by decide) (by decide) (by decide) dX4_init_1 ?_
  refine X_aload_n C 0 rfl dX4_init_4 ?_
  refine X_sipush C (v := 512) (by decide) dX4_init_5 ?_
  refine Y_newa (n := 1) (G' := (.inr (3, [.null, .null, .null]) : va_E) :: ([iA Y 512])) (atype := .int) C X hF rfl rfl 0 rfl (512, .inl (fun _ => 0)) rfl (fun cA => iA_cell cA 512) (by decide) (by decide) (by decide) (by decide) dX4_init_8 ?_
  refine Y_putF (q0 := q0) (fs := [.null, .null, .null]) (G' := (.inr (3, [.ref (B + (q0 + 1)), .null, .null]) : va_E) :: ([iA Y 512])) C hF hi 0 rfl rfl inX4 tyX4 tyX4_ok nmX4 0 (by decide) rfl (Tz_mem (tz1 (List.mem_of_getElem? (i := 73) rfl)) rfl) rfl (tyX4_ok 0 (by decide)) rfl rfl (show 0 < 3 by decide) rfl dX4_init_10 ?_
  refine X_aload_n C 0 rfl dX4_init_13 ?_
  refine X_sipush C (v := 512) (by decide) dX4_init_14 ?_
  refine Y_newa (n := 2) (G' := (.inr (3, [.ref (B + (q0 + 1)), .null, .null]) : va_E) :: ([iA Y 512] ++ [iA Y 512])) (atype := .int) C X hF rfl rfl 0 rfl (512, .inl (fun _ => 0)) rfl (fun cA => iA_cell cA 512) (by decide) (by decide) (by decide) (by decide) dX4_init_17 ?_
  refine Y_putF (q0 := q0) (fs := [.ref (B + (q0 + 1)), .null, .null]) (G' := (.inr (3, [.ref (B + (q0 + 1)), .ref (B + (q0 + 2)), .null]) : va_E) :: ([iA Y 512] ++ [iA Y 512])) C hF hi 0 rfl rfl inX4 tyX4 tyX4_ok nmX4 1 (by decide) rfl (Tz_mem (tz1 (List.mem_of_getElem? (i := 74) rfl)) rfl) rfl (tyX4_ok 1 (by decide)) rfl rfl (show 1 < 3 by decide) rfl dX4_init_19 ?_
  refine X_aload_n C 0 rfl dX4_init_22 ?_
  refine X_bipush C (v := 9) (by decide) dX4_init_23 ?_
  refine Y_newa (n := 3) (G' := (.inr (3, [.ref (B + (q0 + 1)), .ref (B + (q0 + 2)), .null]) : va_E) :: ([iA Y 512] ++ [iA Y 512] ++ [iA Y 9])) (atype := .int) C X hF rfl rfl 0 rfl (9, .inl (fun _ => 0)) rfl (fun cA => iA_cell cA 9) (by decide) (by decide) (by decide) (by decide) dX4_init_25 ?_
  refine Y_putF (q0 := q0) (fs := [.ref (B + (q0 + 1)), .ref (B + (q0 + 2)), .null]) (G' := (.inr (3, [.ref (B + (q0 + 1)), .ref (B + (q0 + 2)), .ref (B + (q0 + 3))]) : va_E) :: ([iA Y 512] ++ [iA Y 512] ++ [iA Y 9])) C hF hi 0 rfl rfl inX4 tyX4 tyX4_ok nmX4 2 (by decide) rfl (Tz_mem (tz1 (List.mem_of_getElem? (i := 75) rfl)) rfl) rfl (tyX4_ok 2 (by decide)) rfl rfl (show 2 < 3 by decide) rfl dX4_init_27 ?_
  refine X_eq (E' := F ++ g4 B Y q0) rfl ?_
  exact X_ret C hr hk (by decide) dX4_init_30
def rm_i5 : Room := { frames := 2, cells := 20, slots := 2154, locals := 48 }
theorem ci_X5 {l : Launch} {B : Nat} {D : va_G} {Y : Nat → ClassId} (F : List va_E) : CI l yX5_init cX5_init 1 rm_i5 20 2154 B D Y F.length (F ++ [(.inr (4, [.null, .null, .null, .null, .null, .null, .null]) : va_E)]) (F ++ g5 B Y F.length) := by
  generalize hF : F.length = q0
  refine ofE (by decide) (by decide) rfl fun p e s m args below meth c C X hi hr hk => ?_
  refine X_aload_n C 0 rfl dX5_init_0 ?_
  refine X_objInit C ob_X5 (by decide) (by decide) (by decide) dX5_init_1 ?_
  refine X_aload_n C 0 rfl dX5_init_4 ?_
  refine Y_new (n := 1) (G' := (.inr (4, [.null, .null, .null, .null, .null, .null, .null]) : va_E) :: ([(.inr (2, [.int 0, .null, .null]) : va_E)])) C hF rfl rfl rfl inX3 tyX3 tyX3_ok (Tz_mem (tz1 (List.mem_of_getElem? (i := 100) rfl)) rfl) is_X3 it_X3 df_X3 (by decide) dX5_init_5 ?_
  refine X_dup C dX5_init_8 ?_
  refine Y_init (G0 := (.inr (4, [.null, .null, .null, .null, .null, .null, .null]) : va_E) :: (([] : List va_E))) (n := 1) (g := g3 B Y) (G' := (.inr (4, [.null, .null, .null, .null, .null, .null, .null]) : va_E) :: (g3 B Y (q0 + 1))) C X hF rfl rfl rfl (Or.inr ⟨"Belowhouse", Tz_mem (tz1 (List.mem_of_getElem? (i := 101) rfl)) rfl⟩ : LK RX5 11 yX3_init) cy_X3 rfl im_X3 (fun F' => ci_X3 F') (show 2 ≤ 8 by decide) ⟨rfl, rfl, by decide, by decide⟩ (by decide) dX5_init_9 ?_
  refine Y_putF (q0 := q0) (fs := [.null, .null, .null, .null, .null, .null, .null]) (G' := (.inr (4, [.ref (B + (q0 + 1)), .null, .null, .null, .null, .null, .null]) : va_E) :: (g3 B Y (q0 + 1))) C hF hi 0 rfl rfl inX5 tyX5 tyX5_ok nmX5 0 (by decide) rfl (Tz_mem (tz1 (List.mem_of_getElem? (i := 108) rfl)) rfl) rfl (tyX5_ok 0 (by decide)) rfl rfl (show 0 < 7 by decide) rfl dX5_init_12 ?_
  refine X_aload_n C 0 rfl dX5_init_15 ?_
  refine Y_new (n := 4) (G' := (.inr (4, [.ref (B + (q0 + 1)), .null, .null, .null, .null, .null, .null]) : va_E) :: (g3 B Y (q0 + 1) ++ [(.inr (2, [.int 0, .null, .null]) : va_E)])) C hF rfl rfl rfl inX3 tyX3 tyX3_ok (Tz_mem (tz1 (List.mem_of_getElem? (i := 100) rfl)) rfl) is_X3 it_X3 df_X3 (by decide) dX5_init_16 ?_
  refine X_dup C dX5_init_19 ?_
  refine Y_init (G0 := (.inr (4, [.ref (B + (q0 + 1)), .null, .null, .null, .null, .null, .null]) : va_E) :: (g3 B Y (q0 + 1))) (n := 4) (g := g3 B Y) (G' := (.inr (4, [.ref (B + (q0 + 1)), .null, .null, .null, .null, .null, .null]) : va_E) :: (g3 B Y (q0 + 1) ++ g3 B Y (q0 + 4))) C X hF rfl rfl rfl (Or.inr ⟨"Belowhouse", Tz_mem (tz1 (List.mem_of_getElem? (i := 101) rfl)) rfl⟩ : LK RX5 11 yX3_init) cy_X3 rfl im_X3 (fun F' => ci_X3 F') (show 2 ≤ 8 by decide) ⟨rfl, rfl, by decide, by decide⟩ (by decide) dX5_init_20 ?_
  refine Y_putF (q0 := q0) (fs := [.ref (B + (q0 + 1)), .null, .null, .null, .null, .null, .null]) (G' := (.inr (4, [.ref (B + (q0 + 1)), .ref (B + (q0 + 4)), .null, .null, .null, .null, .null]) : va_E) :: (g3 B Y (q0 + 1) ++ g3 B Y (q0 + 4))) C hF hi 0 rfl rfl inX5 tyX5 tyX5_ok nmX5 1 (by decide) rfl (Tz_mem (tz1 (List.mem_of_getElem? (i := 109) rfl)) rfl) rfl (tyX5_ok 1 (by decide)) rfl rfl (show 1 < 7 by decide) rfl dX5_init_23 ?_
  refine X_aload_n C 0 rfl dX5_init_26 ?_
  refine Y_new (n := 7) (G' := (.inr (4, [.ref (B + (q0 + 1)), .ref (B + (q0 + 4)), .null, .null, .null, .null, .null]) : va_E) :: (g3 B Y (q0 + 1) ++ g3 B Y (q0 + 4) ++ [(.inr (3, [.null, .null, .null]) : va_E)])) C hF rfl rfl rfl inX4 tyX4 tyX4_ok (Tz_mem (tz1 (List.mem_of_getElem? (i := 102) rfl)) rfl) is_X4 it_X4 df_X4 (by decide) dX5_init_27 ?_
  refine X_dup C dX5_init_30 ?_
  refine Y_init (G0 := (.inr (4, [.ref (B + (q0 + 1)), .ref (B + (q0 + 4)), .null, .null, .null, .null, .null]) : va_E) :: (g3 B Y (q0 + 1) ++ g3 B Y (q0 + 4))) (n := 7) (g := g4 B Y) (G' := (.inr (4, [.ref (B + (q0 + 1)), .ref (B + (q0 + 4)), .null, .null, .null, .null, .null]) : va_E) :: (g3 B Y (q0 + 1) ++ g3 B Y (q0 + 4) ++ g4 B Y (q0 + 7))) C X hF rfl rfl rfl (Or.inr ⟨"Belowhouse", Tz_mem (tz1 (List.mem_of_getElem? (i := 103) rfl)) rfl⟩ : LK RX5 23 yX4_init) cy_X4 rfl im_X4 (fun F' => ci_X4 F') (show 2 ≤ 8 by decide) ⟨rfl, rfl, by decide, by decide⟩ (by decide) dX5_init_31 ?_
  refine Y_putF (q0 := q0) (fs := [.ref (B + (q0 + 1)), .ref (B + (q0 + 4)), .null, .null, .null, .null, .null]) (G' := (.inr (4, [.ref (B + (q0 + 1)), .ref (B + (q0 + 4)), .ref (B + (q0 + 7)), .null, .null, .null, .null]) : va_E) :: (g3 B Y (q0 + 1) ++ g3 B Y (q0 + 4) ++ g4 B Y (q0 + 7))) C hF hi 0 rfl rfl inX5 tyX5 tyX5_ok nmX5 2 (by decide) rfl (Tz_mem (tz1 (List.mem_of_getElem? (i := 110) rfl)) rfl) rfl (tyX5_ok 2 (by decide)) rfl rfl (show 2 < 7 by decide) rfl dX5_init_34 ?_
  refine X_aload_n C 0 rfl dX5_init_37 ?_
  refine Y_new (n := 11) (G' := (.inr (4, [.ref (B + (q0 + 1)), .ref (B + (q0 + 4)), .ref (B + (q0 + 7)), .null, .null, .null, .null]) : va_E) :: (g3 B Y (q0 + 1) ++ g3 B Y (q0 + 4) ++ g4 B Y (q0 + 7) ++ [(.inr (3, [.null, .null, .null]) : va_E)])) C hF rfl rfl rfl inX4 tyX4 tyX4_ok (Tz_mem (tz1 (List.mem_of_getElem? (i := 102) rfl)) rfl) is_X4 it_X4 df_X4 (by decide) dX5_init_38 ?_
  refine X_dup C dX5_init_41 ?_
  refine Y_init (G0 := (.inr (4, [.ref (B + (q0 + 1)), .ref (B + (q0 + 4)), .ref (B + (q0 + 7)), .null, .null, .null, .null]) : va_E) :: (g3 B Y (q0 + 1) ++ g3 B Y (q0 + 4) ++ g4 B Y (q0 + 7))) (n := 11) (g := g4 B Y) (G' := (.inr (4, [.ref (B + (q0 + 1)), .ref (B + (q0 + 4)), .ref (B + (q0 + 7)), .null, .null, .null, .null]) : va_E) :: (g3 B Y (q0 + 1) ++ g3 B Y (q0 + 4) ++ g4 B Y (q0 + 7) ++ g4 B Y (q0 + 11))) C X hF rfl rfl rfl (Or.inr ⟨"Belowhouse", Tz_mem (tz1 (List.mem_of_getElem? (i := 103) rfl)) rfl⟩ : LK RX5 23 yX4_init) cy_X4 rfl im_X4 (fun F' => ci_X4 F') (show 2 ≤ 8 by decide) ⟨rfl, rfl, by decide, by decide⟩ (by decide) dX5_init_42 ?_
  refine Y_putF (q0 := q0) (fs := [.ref (B + (q0 + 1)), .ref (B + (q0 + 4)), .ref (B + (q0 + 7)), .null, .null, .null, .null]) (G' := (.inr (4, [.ref (B + (q0 + 1)), .ref (B + (q0 + 4)), .ref (B + (q0 + 7)), .ref (B + (q0 + 11)), .null, .null, .null]) : va_E) :: (g3 B Y (q0 + 1) ++ g3 B Y (q0 + 4) ++ g4 B Y (q0 + 7) ++ g4 B Y (q0 + 11))) C hF hi 0 rfl rfl inX5 tyX5 tyX5_ok nmX5 3 (by decide) rfl (Tz_mem (tz1 (List.mem_of_getElem? (i := 111) rfl)) rfl) rfl (tyX5_ok 3 (by decide)) rfl rfl (show 3 < 7 by decide) rfl dX5_init_45 ?_
  refine X_aload_n C 0 rfl dX5_init_48 ?_
  refine Y_new (n := 15) (G' := (.inr (4, [.ref (B + (q0 + 1)), .ref (B + (q0 + 4)), .ref (B + (q0 + 7)), .ref (B + (q0 + 11)), .null, .null, .null]) : va_E) :: (g3 B Y (q0 + 1) ++ g3 B Y (q0 + 4) ++ g4 B Y (q0 + 7) ++ g4 B Y (q0 + 11) ++ [(.inr (0, [.null, .null]) : va_E)])) C hF rfl rfl rfl inX0 tyX0 tyX0_ok (Tz_mem (tz1 (List.mem_of_getElem? (i := 104) rfl)) rfl) is_X0 it_X0 df_X0 (by decide) dX5_init_49 ?_
  refine X_dup C dX5_init_52 ?_
  refine Y_init (G0 := (.inr (4, [.ref (B + (q0 + 1)), .ref (B + (q0 + 4)), .ref (B + (q0 + 7)), .ref (B + (q0 + 11)), .null, .null, .null]) : va_E) :: (g3 B Y (q0 + 1) ++ g3 B Y (q0 + 4) ++ g4 B Y (q0 + 7) ++ g4 B Y (q0 + 11))) (n := 15) (g := g0 B Y) (G' := (.inr (4, [.ref (B + (q0 + 1)), .ref (B + (q0 + 4)), .ref (B + (q0 + 7)), .ref (B + (q0 + 11)), .null, .null, .null]) : va_E) :: (g3 B Y (q0 + 1) ++ g3 B Y (q0 + 4) ++ g4 B Y (q0 + 7) ++ g4 B Y (q0 + 11) ++ g0 B Y (q0 + 15))) C X hF rfl rfl rfl (Or.inr ⟨"Belowhouse", Tz_mem (tz1 (List.mem_of_getElem? (i := 105) rfl)) rfl⟩ : LK RX5 33 yX0_init) cy_X0 rfl im_X0 (fun F' => ci_X0 F') (show 2 ≤ 8 by decide) ⟨rfl, rfl, by decide, by decide⟩ (by decide) dX5_init_53 ?_
  refine Y_putF (q0 := q0) (fs := [.ref (B + (q0 + 1)), .ref (B + (q0 + 4)), .ref (B + (q0 + 7)), .ref (B + (q0 + 11)), .null, .null, .null]) (G' := (.inr (4, [.ref (B + (q0 + 1)), .ref (B + (q0 + 4)), .ref (B + (q0 + 7)), .ref (B + (q0 + 11)), .ref (B + (q0 + 15)), .null, .null]) : va_E) :: (g3 B Y (q0 + 1) ++ g3 B Y (q0 + 4) ++ g4 B Y (q0 + 7) ++ g4 B Y (q0 + 11) ++ g0 B Y (q0 + 15))) C hF hi 0 rfl rfl inX5 tyX5 tyX5_ok nmX5 4 (by decide) rfl (Tz_mem (tz1 (List.mem_of_getElem? (i := 112) rfl)) rfl) rfl (tyX5_ok 4 (by decide)) rfl rfl (show 4 < 7 by decide) rfl dX5_init_56 ?_
  refine X_aload_n C 0 rfl dX5_init_59 ?_
  refine Y_new (n := 18) (G' := (.inr (4, [.ref (B + (q0 + 1)), .ref (B + (q0 + 4)), .ref (B + (q0 + 7)), .ref (B + (q0 + 11)), .ref (B + (q0 + 15)), .null, .null]) : va_E) :: (g3 B Y (q0 + 1) ++ g3 B Y (q0 + 4) ++ g4 B Y (q0 + 7) ++ g4 B Y (q0 + 11) ++ g0 B Y (q0 + 15) ++ [(.inr (1, [.null]) : va_E)])) C hF rfl rfl rfl inX2 tyX2 tyX2_ok (Tz_mem (tz1 (List.mem_of_getElem? (i := 106) rfl)) rfl) is_X2 it_X2 df_X2 (by decide) dX5_init_60 ?_
  refine X_dup C dX5_init_63 ?_
  refine Y_init (G0 := (.inr (4, [.ref (B + (q0 + 1)), .ref (B + (q0 + 4)), .ref (B + (q0 + 7)), .ref (B + (q0 + 11)), .ref (B + (q0 + 15)), .null, .null]) : va_E) :: (g3 B Y (q0 + 1) ++ g3 B Y (q0 + 4) ++ g4 B Y (q0 + 7) ++ g4 B Y (q0 + 11) ++ g0 B Y (q0 + 15))) (n := 18) (g := g2 B Y) (G' := (.inr (4, [.ref (B + (q0 + 1)), .ref (B + (q0 + 4)), .ref (B + (q0 + 7)), .ref (B + (q0 + 11)), .ref (B + (q0 + 15)), .null, .null]) : va_E) :: (g3 B Y (q0 + 1) ++ g3 B Y (q0 + 4) ++ g4 B Y (q0 + 7) ++ g4 B Y (q0 + 11) ++ g0 B Y (q0 + 15) ++ g2 B Y (q0 + 18))) C X hF rfl rfl rfl (Or.inr ⟨"Belowhouse", Tz_mem (tz1 (List.mem_of_getElem? (i := 107) rfl)) rfl⟩ : LK RX5 40 yX2_init) cy_X2 rfl im_X2 (fun F' => ci_X2 F') (show 2 ≤ 8 by decide) ⟨rfl, rfl, by decide, by decide⟩ (by decide) dX5_init_64 ?_
  refine Y_putF (q0 := q0) (fs := [.ref (B + (q0 + 1)), .ref (B + (q0 + 4)), .ref (B + (q0 + 7)), .ref (B + (q0 + 11)), .ref (B + (q0 + 15)), .null, .null]) (G' := (.inr (4, [.ref (B + (q0 + 1)), .ref (B + (q0 + 4)), .ref (B + (q0 + 7)), .ref (B + (q0 + 11)), .ref (B + (q0 + 15)), .ref (B + (q0 + 18)), .null]) : va_E) :: (g3 B Y (q0 + 1) ++ g3 B Y (q0 + 4) ++ g4 B Y (q0 + 7) ++ g4 B Y (q0 + 11) ++ g0 B Y (q0 + 15) ++ g2 B Y (q0 + 18))) C hF hi 0 rfl rfl inX5 tyX5 tyX5_ok nmX5 5 (by decide) rfl (Tz_mem (tz1 (List.mem_of_getElem? (i := 113) rfl)) rfl) rfl (tyX5_ok 5 (by decide)) rfl rfl (show 5 < 7 by decide) rfl dX5_init_67 ?_
  refine X_aload_n C 0 rfl dX5_init_70 ?_
  refine X_bipush C (v := 10) (by decide) dX5_init_71 ?_
  refine Y_newa (n := 20) (G' := (.inr (4, [.ref (B + (q0 + 1)), .ref (B + (q0 + 4)), .ref (B + (q0 + 7)), .ref (B + (q0 + 11)), .ref (B + (q0 + 15)), .ref (B + (q0 + 18)), .null]) : va_E) :: (g3 B Y (q0 + 1) ++ g3 B Y (q0 + 4) ++ g4 B Y (q0 + 7) ++ g4 B Y (q0 + 11) ++ g0 B Y (q0 + 15) ++ g2 B Y (q0 + 18) ++ [iA Y 10])) (atype := .int) C X hF rfl rfl 0 rfl (10, .inl (fun _ => 0)) rfl (fun cA => iA_cell cA 10) (by decide) (by decide) (by decide) (by decide) dX5_init_73 ?_
  refine Y_putF (q0 := q0) (fs := [.ref (B + (q0 + 1)), .ref (B + (q0 + 4)), .ref (B + (q0 + 7)), .ref (B + (q0 + 11)), .ref (B + (q0 + 15)), .ref (B + (q0 + 18)), .null]) (G' := (.inr (4, [.ref (B + (q0 + 1)), .ref (B + (q0 + 4)), .ref (B + (q0 + 7)), .ref (B + (q0 + 11)), .ref (B + (q0 + 15)), .ref (B + (q0 + 18)), .ref (B + (q0 + 20))]) : va_E) :: (g3 B Y (q0 + 1) ++ g3 B Y (q0 + 4) ++ g4 B Y (q0 + 7) ++ g4 B Y (q0 + 11) ++ g0 B Y (q0 + 15) ++ g2 B Y (q0 + 18) ++ [iA Y 10])) C hF hi 0 rfl rfl inX5 tyX5 tyX5_ok nmX5 6 (by decide) rfl (Tz_mem (tz1 (List.mem_of_getElem? (i := 114) rfl)) rfl) rfl (tyX5_ok 6 (by decide)) rfl rfl (show 6 < 7 by decide) rfl dX5_init_75 ?_
  refine X_eq (E' := F ++ g5 B Y q0) rfl ?_
  exact X_ret C hr hk (by decide) dX5_init_78
theorem arr4 (c : ClassId) (f g : Nat → Option Nat) (h : ∀ j, j < 4 → f j = g j) : vp_cell c (4, .inr (.inr (.inr (.inr f)))) = vp_cell c (4, .inr (.inr (.inr (.inr g)))) := by
  rw [vp_cell_q, vp_cell_q]
  exact arrV_congr fun j hj => by rw [h j hj]
theorem g6_conv {B : Nat} {D : va_G} {Y : Nat → ClassId} {q0 : Nat} {F : List va_E} {H : Heap} (hF : F.length = q0) (hP : va_P D vwCl (mkW B (F ++ ((.inr (5, [.ref (B + (q0 + 1)), .ref (B + (q0 + 14)), .ref (B + (q0 + 17)), .ref (B + (q0 + 20)), .ref (B + (q0 + 24)), .ref (B + (q0 + 26))]) : va_E) :: ((.inl (Y 2, 4, .inr (.inr (.inr (.inr (va_up (va_up (va_up (va_up (fun _ => none) 0 (some (B + (q0 + 2)))) 1 (some (B + (q0 + 5)))) 2 (some (B + (q0 + 8)))) 3 (some (B + (q0 + 11)))))))) : va_E) :: (g3 B Y (q0 + 2) ++ g3 B Y (q0 + 5) ++ g3 B Y (q0 + 8) ++ g3 B Y (q0 + 11) ++ g3 B Y (q0 + 14) ++ g0 B Y (q0 + 17) ++ g4 B Y (q0 + 20) ++ g2 B Y (q0 + 24) ++ g5 B Y (q0 + 26)))))) H) : va_P D vwCl (mkW B (F ++ g6 B Y q0)) H := fun k x hx => by
  obtain ⟨e, he, rfl⟩ := mkW_inv hx
  by_cases h1 : k = q0 + 1
  · subst h1
    have he2 : (F ++ g6 B Y q0)[q0 + 1]? = some (.inl (Y 2, 4, .inr (.inr (.inr (.inr (fun j => some (B + (q0 + 2 + 3 * j))))))) : va_E) := fe_get hF rfl
    rw [he2] at he
    cases he
    have h2 := hP (q0 + 1) _ (mkW_at (fe_get (j := 1) hF rfl))
    refine Eq.trans h2 (congrArg some ?_)
    exact arr4 (Y 2) _ _ (fun j hj => match j, hj with | 0, _ => rfl | 1, _ => rfl | 2, _ => rfl | 3, _ => rfl | j + 4, h => absurd h (by omega))
  · refine hP k _ (mkW_at ?_)
    rw [← he]
    by_cases h3 : k < q0
    · rw [List.getElem?_append_left (by omega), List.getElem?_append_left (by omega)]
    · obtain ⟨j, rfl⟩ : ∃ j, k = q0 + j := ⟨k - q0, by omega⟩
      rw [List.getElem?_append_right (by omega), List.getElem?_append_right (by omega), hF, Nat.add_sub_cancel_left]
      match j, h1 with
      | 0, _ => rfl
      | 1, h => exact absurd rfl h
      | j + 2, _ => rfl
def rm_i6 : Room := { frames := 3, cells := 46, slots := 3336, locals := 68 }
theorem ci_X6 {l : Launch} {B : Nat} {D : va_G} {Y : Nat → ClassId} (F : List va_E) : CI l yX6_init cX6_init 2 rm_i6 46 3336 B D Y F.length (F ++ [(.inr (5, [.null, .null, .null, .null, .null, .null]) : va_E)]) (F ++ g6 B Y F.length) := by
  generalize hF : F.length = q0
  refine ofE (by decide) (by decide) rfl fun p e s m args below meth c C X hi hr hk => ?_
  refine X_aload_n C 0 rfl dX6_init_0 ?_
  refine X_objInit C ob_X6 (by decide) (by decide) (by decide) dX6_init_1 ?_
  refine X_aload_n C 0 rfl dX6_init_4 ?_
  refine X_iconst C (v := 4) rfl dX6_init_5 ?_
  refine Y_anew (n := 1) (G' := (.inr (5, [.null, .null, .null, .null, .null, .null]) : va_E) :: ((.inl (Y 2, 4, .inr (.inr (.inr (.inr (fun _ => none))))) : va_E) :: (([] : List va_E)))) C X hF rfl (Tz_mem (tz1 (List.mem_of_getElem? (i := 25) rfl)) rfl) rfl (by decide) (by decide) (by decide) (by decide) dX6_init_6 ?_
  refine Y_putF (q0 := q0) (fs := [.null, .null, .null, .null, .null, .null]) (G' := (.inr (5, [.ref (B + (q0 + 1)), .null, .null, .null, .null, .null]) : va_E) :: ((.inl (Y 2, 4, .inr (.inr (.inr (.inr (fun _ => none))))) : va_E) :: (([] : List va_E)))) C hF hi 0 rfl rfl inX6 tyX6 tyX6_ok nmX6 0 (by decide) rfl (Tz_mem (tz1 (List.mem_of_getElem? (i := 130) rfl)) rfl) rfl (tyX6_ok 0 (by decide)) rfl rfl (show 0 < 6 by decide) rfl dX6_init_9 ?_
  refine X_iconst C (v := 0) rfl dX6_init_12 ?_
  refine X_istore_n C [(0, .ref (B + q0)), (1, .int 0)] rfl (by decide) [1, 0] rfl dX6_init_13 ?_
  refine X_iload_n C 1 rfl dX6_init_14 ?_
  refine X_iconst C (v := 4) rfl dX6_init_15 ?_
  refine X_icmp_ge_f C 38 (by decide) dX6_init_16 (by decide) ?_
  refine X_aload_n C 0 rfl dX6_init_19 ?_
  refine Y_get (q0 := q0) C hF 0 rfl rfl inX6 0 (by decide) rfl (Tz_mem (tz1 (List.mem_of_getElem? (i := 130) rfl)) rfl) rfl dX6_init_20 ?_
  refine X_iload_n C 1 rfl dX6_init_23 ?_
  refine Y_new (n := 2) (G' := (.inr (5, [.ref (B + (q0 + 1)), .null, .null, .null, .null, .null]) : va_E) :: ((.inl (Y 2, 4, .inr (.inr (.inr (.inr (fun _ => none))))) : va_E) :: ([(.inr (2, [.int 0, .null, .null]) : va_E)]))) C hF rfl rfl rfl inX3 tyX3 tyX3_ok (Tz_mem (tz1 (List.mem_of_getElem? (i := 25) rfl)) rfl) is_X3 it_X3 df_X3 (by decide) dX6_init_24 ?_
  refine X_dup C dX6_init_27 ?_
  refine Y_init (G0 := (.inr (5, [.ref (B + (q0 + 1)), .null, .null, .null, .null, .null]) : va_E) :: ((.inl (Y 2, 4, .inr (.inr (.inr (.inr (fun _ => none))))) : va_E) :: (([] : List va_E)))) (n := 2) (g := g3 B Y) (G' := (.inr (5, [.ref (B + (q0 + 1)), .null, .null, .null, .null, .null]) : va_E) :: ((.inl (Y 2, 4, .inr (.inr (.inr (.inr (fun _ => none))))) : va_E) :: (g3 B Y (q0 + 2)))) C X hF rfl rfl rfl (Or.inr ⟨"Belowhouse", Tz_mem (tz1 (List.mem_of_getElem? (i := 28) rfl)) rfl⟩ : LK RX6 15 yX3_init) cy_X3 rfl im_X3 (fun F' => ci_X3 F') (show 3 ≤ 8 by decide) ⟨rfl, rfl, by decide, by decide⟩ (by decide) dX6_init_28 ?_
  refine Y_aast (qa := 1) (qv := 2) (i0 := 0) (G' := (.inr (5, [.ref (B + (q0 + 1)), .null, .null, .null, .null, .null]) : va_E) :: ((.inl (Y 2, 4, .inr (.inr (.inr (.inr (va_up (fun _ => none) 0 (some (B + (q0 + 2)))))))) : va_E) :: (g3 B Y (q0 + 2)))) C X hF rfl rfl (inb_in (by decide)) (by decide) rfl dX6_init_31 ?_
  refine X_iinc C (k0 := 1) (w := 1) [(0, .ref (B + q0)), (1, .int (0 + 1))] rfl rfl (by decide) [1, 0] rfl dX6_init_32 ?_
  refine X_goto C 14 (by decide) dX6_init_35 ?_
  refine X_iload_n C 1 rfl dX6_init_14 ?_
  refine X_iconst C (v := 4) rfl dX6_init_15 ?_
  refine X_icmp_ge_f C 38 (by decide) dX6_init_16 (by decide) ?_
  refine X_aload_n C 0 rfl dX6_init_19 ?_
  refine Y_get (q0 := q0) C hF 0 rfl rfl inX6 0 (by decide) rfl (Tz_mem (tz1 (List.mem_of_getElem? (i := 130) rfl)) rfl) rfl dX6_init_20 ?_
  refine X_iload_n C 1 rfl dX6_init_23 ?_
  refine Y_new (n := 5) (G' := (.inr (5, [.ref (B + (q0 + 1)), .null, .null, .null, .null, .null]) : va_E) :: ((.inl (Y 2, 4, .inr (.inr (.inr (.inr (va_up (fun _ => none) 0 (some (B + (q0 + 2)))))))) : va_E) :: (g3 B Y (q0 + 2) ++ [(.inr (2, [.int 0, .null, .null]) : va_E)]))) C hF rfl rfl rfl inX3 tyX3 tyX3_ok (Tz_mem (tz1 (List.mem_of_getElem? (i := 25) rfl)) rfl) is_X3 it_X3 df_X3 (by decide) dX6_init_24 ?_
  refine X_dup C dX6_init_27 ?_
  refine Y_init (G0 := (.inr (5, [.ref (B + (q0 + 1)), .null, .null, .null, .null, .null]) : va_E) :: ((.inl (Y 2, 4, .inr (.inr (.inr (.inr (va_up (fun _ => none) 0 (some (B + (q0 + 2)))))))) : va_E) :: (g3 B Y (q0 + 2)))) (n := 5) (g := g3 B Y) (G' := (.inr (5, [.ref (B + (q0 + 1)), .null, .null, .null, .null, .null]) : va_E) :: ((.inl (Y 2, 4, .inr (.inr (.inr (.inr (va_up (fun _ => none) 0 (some (B + (q0 + 2)))))))) : va_E) :: (g3 B Y (q0 + 2) ++ g3 B Y (q0 + 5)))) C X hF rfl rfl rfl (Or.inr ⟨"Belowhouse", Tz_mem (tz1 (List.mem_of_getElem? (i := 28) rfl)) rfl⟩ : LK RX6 15 yX3_init) cy_X3 rfl im_X3 (fun F' => ci_X3 F') (show 3 ≤ 8 by decide) ⟨rfl, rfl, by decide, by decide⟩ (by decide) dX6_init_28 ?_
  refine Y_aast (qa := 1) (qv := 5) (i0 := 1) (G' := (.inr (5, [.ref (B + (q0 + 1)), .null, .null, .null, .null, .null]) : va_E) :: ((.inl (Y 2, 4, .inr (.inr (.inr (.inr (va_up (va_up (fun _ => none) 0 (some (B + (q0 + 2)))) 1 (some (B + (q0 + 5)))))))) : va_E) :: (g3 B Y (q0 + 2) ++ g3 B Y (q0 + 5)))) C X hF rfl rfl (inb_in (by decide)) (by decide) rfl dX6_init_31 ?_
  refine X_iinc C (k0 := 1) (w := 1) [(0, .ref (B + q0)), (1, .int ((0 + 1) + 1))] rfl rfl (by decide) [1, 0] rfl dX6_init_32 ?_
  refine X_goto C 14 (by decide) dX6_init_35 ?_
  refine X_iload_n C 1 rfl dX6_init_14 ?_
  refine X_iconst C (v := 4) rfl dX6_init_15 ?_
  refine X_icmp_ge_f C 38 (by decide) dX6_init_16 (by decide) ?_
  refine X_aload_n C 0 rfl dX6_init_19 ?_
  refine Y_get (q0 := q0) C hF 0 rfl rfl inX6 0 (by decide) rfl (Tz_mem (tz1 (List.mem_of_getElem? (i := 130) rfl)) rfl) rfl dX6_init_20 ?_
  refine X_iload_n C 1 rfl dX6_init_23 ?_
  refine Y_new (n := 8) (G' := (.inr (5, [.ref (B + (q0 + 1)), .null, .null, .null, .null, .null]) : va_E) :: ((.inl (Y 2, 4, .inr (.inr (.inr (.inr (va_up (va_up (fun _ => none) 0 (some (B + (q0 + 2)))) 1 (some (B + (q0 + 5)))))))) : va_E) :: (g3 B Y (q0 + 2) ++ g3 B Y (q0 + 5) ++ [(.inr (2, [.int 0, .null, .null]) : va_E)]))) C hF rfl rfl rfl inX3 tyX3 tyX3_ok (Tz_mem (tz1 (List.mem_of_getElem? (i := 25) rfl)) rfl) is_X3 it_X3 df_X3 (by decide) dX6_init_24 ?_
  refine X_dup C dX6_init_27 ?_
  refine Y_init (G0 := (.inr (5, [.ref (B + (q0 + 1)), .null, .null, .null, .null, .null]) : va_E) :: ((.inl (Y 2, 4, .inr (.inr (.inr (.inr (va_up (va_up (fun _ => none) 0 (some (B + (q0 + 2)))) 1 (some (B + (q0 + 5)))))))) : va_E) :: (g3 B Y (q0 + 2) ++ g3 B Y (q0 + 5)))) (n := 8) (g := g3 B Y) (G' := (.inr (5, [.ref (B + (q0 + 1)), .null, .null, .null, .null, .null]) : va_E) :: ((.inl (Y 2, 4, .inr (.inr (.inr (.inr (va_up (va_up (fun _ => none) 0 (some (B + (q0 + 2)))) 1 (some (B + (q0 + 5)))))))) : va_E) :: (g3 B Y (q0 + 2) ++ g3 B Y (q0 + 5) ++ g3 B Y (q0 + 8)))) C X hF rfl rfl rfl (Or.inr ⟨"Belowhouse", Tz_mem (tz1 (List.mem_of_getElem? (i := 28) rfl)) rfl⟩ : LK RX6 15 yX3_init) cy_X3 rfl im_X3 (fun F' => ci_X3 F') (show 3 ≤ 8 by decide) ⟨rfl, rfl, by decide, by decide⟩ (by decide) dX6_init_28 ?_
  refine Y_aast (qa := 1) (qv := 8) (i0 := 2) (G' := (.inr (5, [.ref (B + (q0 + 1)), .null, .null, .null, .null, .null]) : va_E) :: ((.inl (Y 2, 4, .inr (.inr (.inr (.inr (va_up (va_up (va_up (fun _ => none) 0 (some (B + (q0 + 2)))) 1 (some (B + (q0 + 5)))) 2 (some (B + (q0 + 8)))))))) : va_E) :: (g3 B Y (q0 + 2) ++ g3 B Y (q0 + 5) ++ g3 B Y (q0 + 8)))) C X hF rfl rfl (inb_in (by decide)) (by decide) rfl dX6_init_31 ?_
  refine X_iinc C (k0 := 1) (w := 1) [(0, .ref (B + q0)), (1, .int (((0 + 1) + 1) + 1))] rfl rfl (by decide) [1, 0] rfl dX6_init_32 ?_
  refine X_goto C 14 (by decide) dX6_init_35 ?_
  refine X_iload_n C 1 rfl dX6_init_14 ?_
  refine X_iconst C (v := 4) rfl dX6_init_15 ?_
  refine X_icmp_ge_f C 38 (by decide) dX6_init_16 (by decide) ?_
  refine X_aload_n C 0 rfl dX6_init_19 ?_
  refine Y_get (q0 := q0) C hF 0 rfl rfl inX6 0 (by decide) rfl (Tz_mem (tz1 (List.mem_of_getElem? (i := 130) rfl)) rfl) rfl dX6_init_20 ?_
  refine X_iload_n C 1 rfl dX6_init_23 ?_
  refine Y_new (n := 11) (G' := (.inr (5, [.ref (B + (q0 + 1)), .null, .null, .null, .null, .null]) : va_E) :: ((.inl (Y 2, 4, .inr (.inr (.inr (.inr (va_up (va_up (va_up (fun _ => none) 0 (some (B + (q0 + 2)))) 1 (some (B + (q0 + 5)))) 2 (some (B + (q0 + 8)))))))) : va_E) :: (g3 B Y (q0 + 2) ++ g3 B Y (q0 + 5) ++ g3 B Y (q0 + 8) ++ [(.inr (2, [.int 0, .null, .null]) : va_E)]))) C hF rfl rfl rfl inX3 tyX3 tyX3_ok (Tz_mem (tz1 (List.mem_of_getElem? (i := 25) rfl)) rfl) is_X3 it_X3 df_X3 (by decide) dX6_init_24 ?_
  refine X_dup C dX6_init_27 ?_
  refine Y_init (G0 := (.inr (5, [.ref (B + (q0 + 1)), .null, .null, .null, .null, .null]) : va_E) :: ((.inl (Y 2, 4, .inr (.inr (.inr (.inr (va_up (va_up (va_up (fun _ => none) 0 (some (B + (q0 + 2)))) 1 (some (B + (q0 + 5)))) 2 (some (B + (q0 + 8)))))))) : va_E) :: (g3 B Y (q0 + 2) ++ g3 B Y (q0 + 5) ++ g3 B Y (q0 + 8)))) (n := 11) (g := g3 B Y) (G' := (.inr (5, [.ref (B + (q0 + 1)), .null, .null, .null, .null, .null]) : va_E) :: ((.inl (Y 2, 4, .inr (.inr (.inr (.inr (va_up (va_up (va_up (fun _ => none) 0 (some (B + (q0 + 2)))) 1 (some (B + (q0 + 5)))) 2 (some (B + (q0 + 8)))))))) : va_E) :: (g3 B Y (q0 + 2) ++ g3 B Y (q0 + 5) ++ g3 B Y (q0 + 8) ++ g3 B Y (q0 + 11)))) C X hF rfl rfl rfl (Or.inr ⟨"Belowhouse", Tz_mem (tz1 (List.mem_of_getElem? (i := 28) rfl)) rfl⟩ : LK RX6 15 yX3_init) cy_X3 rfl im_X3 (fun F' => ci_X3 F') (show 3 ≤ 8 by decide) ⟨rfl, rfl, by decide, by decide⟩ (by decide) dX6_init_28 ?_
  refine Y_aast (qa := 1) (qv := 11) (i0 := 3) (G' := (.inr (5, [.ref (B + (q0 + 1)), .null, .null, .null, .null, .null]) : va_E) :: ((.inl (Y 2, 4, .inr (.inr (.inr (.inr (va_up (va_up (va_up (va_up (fun _ => none) 0 (some (B + (q0 + 2)))) 1 (some (B + (q0 + 5)))) 2 (some (B + (q0 + 8)))) 3 (some (B + (q0 + 11)))))))) : va_E) :: (g3 B Y (q0 + 2) ++ g3 B Y (q0 + 5) ++ g3 B Y (q0 + 8) ++ g3 B Y (q0 + 11)))) C X hF rfl rfl (inb_in (by decide)) (by decide) rfl dX6_init_31 ?_
  refine X_iinc C (k0 := 1) (w := 1) [(0, .ref (B + q0)), (1, .int ((((0 + 1) + 1) + 1) + 1))] rfl rfl (by decide) [1, 0] rfl dX6_init_32 ?_
  refine X_goto C 14 (by decide) dX6_init_35 ?_
  refine X_iload_n C 1 rfl dX6_init_14 ?_
  refine X_iconst C (v := 4) rfl dX6_init_15 ?_
  refine X_icmp_ge_t C 38 (by decide) dX6_init_16 (by decide) ?_
  refine X_aload_n C 0 rfl dX6_init_38 ?_
  refine Y_new (n := 14) (G' := (.inr (5, [.ref (B + (q0 + 1)), .null, .null, .null, .null, .null]) : va_E) :: ((.inl (Y 2, 4, .inr (.inr (.inr (.inr (va_up (va_up (va_up (va_up (fun _ => none) 0 (some (B + (q0 + 2)))) 1 (some (B + (q0 + 5)))) 2 (some (B + (q0 + 8)))) 3 (some (B + (q0 + 11)))))))) : va_E) :: (g3 B Y (q0 + 2) ++ g3 B Y (q0 + 5) ++ g3 B Y (q0 + 8) ++ g3 B Y (q0 + 11) ++ [(.inr (2, [.int 0, .null, .null]) : va_E)]))) C hF rfl rfl rfl inX3 tyX3 tyX3_ok (Tz_mem (tz1 (List.mem_of_getElem? (i := 25) rfl)) rfl) is_X3 it_X3 df_X3 (by decide) dX6_init_39 ?_
  refine X_dup C dX6_init_42 ?_
  refine Y_init (G0 := (.inr (5, [.ref (B + (q0 + 1)), .null, .null, .null, .null, .null]) : va_E) :: ((.inl (Y 2, 4, .inr (.inr (.inr (.inr (va_up (va_up (va_up (va_up (fun _ => none) 0 (some (B + (q0 + 2)))) 1 (some (B + (q0 + 5)))) 2 (some (B + (q0 + 8)))) 3 (some (B + (q0 + 11)))))))) : va_E) :: (g3 B Y (q0 + 2) ++ g3 B Y (q0 + 5) ++ g3 B Y (q0 + 8) ++ g3 B Y (q0 + 11)))) (n := 14) (g := g3 B Y) (G' := (.inr (5, [.ref (B + (q0 + 1)), .null, .null, .null, .null, .null]) : va_E) :: ((.inl (Y 2, 4, .inr (.inr (.inr (.inr (va_up (va_up (va_up (va_up (fun _ => none) 0 (some (B + (q0 + 2)))) 1 (some (B + (q0 + 5)))) 2 (some (B + (q0 + 8)))) 3 (some (B + (q0 + 11)))))))) : va_E) :: (g3 B Y (q0 + 2) ++ g3 B Y (q0 + 5) ++ g3 B Y (q0 + 8) ++ g3 B Y (q0 + 11) ++ g3 B Y (q0 + 14)))) C X hF rfl rfl rfl (Or.inr ⟨"Belowhouse", Tz_mem (tz1 (List.mem_of_getElem? (i := 28) rfl)) rfl⟩ : LK RX6 15 yX3_init) cy_X3 rfl im_X3 (fun F' => ci_X3 F') (show 2 ≤ 8 by decide) ⟨rfl, rfl, by decide, by decide⟩ (by decide) dX6_init_43 ?_
  refine Y_putF (q0 := q0) (fs := [.ref (B + (q0 + 1)), .null, .null, .null, .null, .null]) (G' := (.inr (5, [.ref (B + (q0 + 1)), .ref (B + (q0 + 14)), .null, .null, .null, .null]) : va_E) :: ((.inl (Y 2, 4, .inr (.inr (.inr (.inr (va_up (va_up (va_up (va_up (fun _ => none) 0 (some (B + (q0 + 2)))) 1 (some (B + (q0 + 5)))) 2 (some (B + (q0 + 8)))) 3 (some (B + (q0 + 11)))))))) : va_E) :: (g3 B Y (q0 + 2) ++ g3 B Y (q0 + 5) ++ g3 B Y (q0 + 8) ++ g3 B Y (q0 + 11) ++ g3 B Y (q0 + 14)))) C hF hi 0 rfl rfl inX6 tyX6 tyX6_ok nmX6 1 (by decide) rfl (Tz_mem (tz1 (List.mem_of_getElem? (i := 131) rfl)) rfl) rfl (tyX6_ok 1 (by decide)) rfl rfl (show 1 < 6 by decide) rfl dX6_init_46 ?_
  refine X_aload_n C 0 rfl dX6_init_49 ?_
  refine Y_new (n := 17) (G' := (.inr (5, [.ref (B + (q0 + 1)), .ref (B + (q0 + 14)), .null, .null, .null, .null]) : va_E) :: ((.inl (Y 2, 4, .inr (.inr (.inr (.inr (va_up (va_up (va_up (va_up (fun _ => none) 0 (some (B + (q0 + 2)))) 1 (some (B + (q0 + 5)))) 2 (some (B + (q0 + 8)))) 3 (some (B + (q0 + 11)))))))) : va_E) :: (g3 B Y (q0 + 2) ++ g3 B Y (q0 + 5) ++ g3 B Y (q0 + 8) ++ g3 B Y (q0 + 11) ++ g3 B Y (q0 + 14) ++ [(.inr (0, [.null, .null]) : va_E)]))) C hF rfl rfl rfl inX0 tyX0 tyX0_ok (Tz_mem (tz1 (List.mem_of_getElem? (i := 54) rfl)) rfl) is_X0 it_X0 df_X0 (by decide) dX6_init_50 ?_
  refine X_dup C dX6_init_53 ?_
  refine Y_init (G0 := (.inr (5, [.ref (B + (q0 + 1)), .ref (B + (q0 + 14)), .null, .null, .null, .null]) : va_E) :: ((.inl (Y 2, 4, .inr (.inr (.inr (.inr (va_up (va_up (va_up (va_up (fun _ => none) 0 (some (B + (q0 + 2)))) 1 (some (B + (q0 + 5)))) 2 (some (B + (q0 + 8)))) 3 (some (B + (q0 + 11)))))))) : va_E) :: (g3 B Y (q0 + 2) ++ g3 B Y (q0 + 5) ++ g3 B Y (q0 + 8) ++ g3 B Y (q0 + 11) ++ g3 B Y (q0 + 14)))) (n := 17) (g := g0 B Y) (G' := (.inr (5, [.ref (B + (q0 + 1)), .ref (B + (q0 + 14)), .null, .null, .null, .null]) : va_E) :: ((.inl (Y 2, 4, .inr (.inr (.inr (.inr (va_up (va_up (va_up (va_up (fun _ => none) 0 (some (B + (q0 + 2)))) 1 (some (B + (q0 + 5)))) 2 (some (B + (q0 + 8)))) 3 (some (B + (q0 + 11)))))))) : va_E) :: (g3 B Y (q0 + 2) ++ g3 B Y (q0 + 5) ++ g3 B Y (q0 + 8) ++ g3 B Y (q0 + 11) ++ g3 B Y (q0 + 14) ++ g0 B Y (q0 + 17)))) C X hF rfl rfl rfl (Or.inr ⟨"Belowhouse", Tz_mem (tz1 (List.mem_of_getElem? (i := 56) rfl)) rfl⟩ : LK RX6 22 yX0_init) cy_X0 rfl im_X0 (fun F' => ci_X0 F') (show 2 ≤ 8 by decide) ⟨rfl, rfl, by decide, by decide⟩ (by decide) dX6_init_54 ?_
  refine Y_putF (q0 := q0) (fs := [.ref (B + (q0 + 1)), .ref (B + (q0 + 14)), .null, .null, .null, .null]) (G' := (.inr (5, [.ref (B + (q0 + 1)), .ref (B + (q0 + 14)), .ref (B + (q0 + 17)), .null, .null, .null]) : va_E) :: ((.inl (Y 2, 4, .inr (.inr (.inr (.inr (va_up (va_up (va_up (va_up (fun _ => none) 0 (some (B + (q0 + 2)))) 1 (some (B + (q0 + 5)))) 2 (some (B + (q0 + 8)))) 3 (some (B + (q0 + 11)))))))) : va_E) :: (g3 B Y (q0 + 2) ++ g3 B Y (q0 + 5) ++ g3 B Y (q0 + 8) ++ g3 B Y (q0 + 11) ++ g3 B Y (q0 + 14) ++ g0 B Y (q0 + 17)))) C hF hi 0 rfl rfl inX6 tyX6 tyX6_ok nmX6 2 (by decide) rfl (Tz_mem (tz1 (List.mem_of_getElem? (i := 132) rfl)) rfl) rfl (tyX6_ok 2 (by decide)) rfl rfl (show 2 < 6 by decide) rfl dX6_init_57 ?_
  refine X_aload_n C 0 rfl dX6_init_60 ?_
  refine Y_new (n := 20) (G' := (.inr (5, [.ref (B + (q0 + 1)), .ref (B + (q0 + 14)), .ref (B + (q0 + 17)), .null, .null, .null]) : va_E) :: ((.inl (Y 2, 4, .inr (.inr (.inr (.inr (va_up (va_up (va_up (va_up (fun _ => none) 0 (some (B + (q0 + 2)))) 1 (some (B + (q0 + 5)))) 2 (some (B + (q0 + 8)))) 3 (some (B + (q0 + 11)))))))) : va_E) :: (g3 B Y (q0 + 2) ++ g3 B Y (q0 + 5) ++ g3 B Y (q0 + 8) ++ g3 B Y (q0 + 11) ++ g3 B Y (q0 + 14) ++ g0 B Y (q0 + 17) ++ [(.inr (3, [.null, .null, .null]) : va_E)]))) C hF rfl rfl rfl inX4 tyX4 tyX4_ok (Tz_mem (tz1 (List.mem_of_getElem? (i := 67) rfl)) rfl) is_X4 it_X4 df_X4 (by decide) dX6_init_61 ?_
  refine X_dup C dX6_init_64 ?_
  refine Y_init (G0 := (.inr (5, [.ref (B + (q0 + 1)), .ref (B + (q0 + 14)), .ref (B + (q0 + 17)), .null, .null, .null]) : va_E) :: ((.inl (Y 2, 4, .inr (.inr (.inr (.inr (va_up (va_up (va_up (va_up (fun _ => none) 0 (some (B + (q0 + 2)))) 1 (some (B + (q0 + 5)))) 2 (some (B + (q0 + 8)))) 3 (some (B + (q0 + 11)))))))) : va_E) :: (g3 B Y (q0 + 2) ++ g3 B Y (q0 + 5) ++ g3 B Y (q0 + 8) ++ g3 B Y (q0 + 11) ++ g3 B Y (q0 + 14) ++ g0 B Y (q0 + 17)))) (n := 20) (g := g4 B Y) (G' := (.inr (5, [.ref (B + (q0 + 1)), .ref (B + (q0 + 14)), .ref (B + (q0 + 17)), .null, .null, .null]) : va_E) :: ((.inl (Y 2, 4, .inr (.inr (.inr (.inr (va_up (va_up (va_up (va_up (fun _ => none) 0 (some (B + (q0 + 2)))) 1 (some (B + (q0 + 5)))) 2 (some (B + (q0 + 8)))) 3 (some (B + (q0 + 11)))))))) : va_E) :: (g3 B Y (q0 + 2) ++ g3 B Y (q0 + 5) ++ g3 B Y (q0 + 8) ++ g3 B Y (q0 + 11) ++ g3 B Y (q0 + 14) ++ g0 B Y (q0 + 17) ++ g4 B Y (q0 + 20)))) C X hF rfl rfl rfl (Or.inr ⟨"Belowhouse", Tz_mem (tz1 (List.mem_of_getElem? (i := 69) rfl)) rfl⟩ : LK RX6 29 yX4_init) cy_X4 rfl im_X4 (fun F' => ci_X4 F') (show 2 ≤ 8 by decide) ⟨rfl, rfl, by decide, by decide⟩ (by decide) dX6_init_65 ?_
  refine Y_putF (q0 := q0) (fs := [.ref (B + (q0 + 1)), .ref (B + (q0 + 14)), .ref (B + (q0 + 17)), .null, .null, .null]) (G' := (.inr (5, [.ref (B + (q0 + 1)), .ref (B + (q0 + 14)), .ref (B + (q0 + 17)), .ref (B + (q0 + 20)), .null, .null]) : va_E) :: ((.inl (Y 2, 4, .inr (.inr (.inr (.inr (va_up (va_up (va_up (va_up (fun _ => none) 0 (some (B + (q0 + 2)))) 1 (some (B + (q0 + 5)))) 2 (some (B + (q0 + 8)))) 3 (some (B + (q0 + 11)))))))) : va_E) :: (g3 B Y (q0 + 2) ++ g3 B Y (q0 + 5) ++ g3 B Y (q0 + 8) ++ g3 B Y (q0 + 11) ++ g3 B Y (q0 + 14) ++ g0 B Y (q0 + 17) ++ g4 B Y (q0 + 20)))) C hF hi 0 rfl rfl inX6 tyX6 tyX6_ok nmX6 3 (by decide) rfl (Tz_mem (tz1 (List.mem_of_getElem? (i := 133) rfl)) rfl) rfl (tyX6_ok 3 (by decide)) rfl rfl (show 3 < 6 by decide) rfl dX6_init_68 ?_
  refine X_aload_n C 0 rfl dX6_init_71 ?_
  refine Y_new (n := 24) (G' := (.inr (5, [.ref (B + (q0 + 1)), .ref (B + (q0 + 14)), .ref (B + (q0 + 17)), .ref (B + (q0 + 20)), .null, .null]) : va_E) :: ((.inl (Y 2, 4, .inr (.inr (.inr (.inr (va_up (va_up (va_up (va_up (fun _ => none) 0 (some (B + (q0 + 2)))) 1 (some (B + (q0 + 5)))) 2 (some (B + (q0 + 8)))) 3 (some (B + (q0 + 11)))))))) : va_E) :: (g3 B Y (q0 + 2) ++ g3 B Y (q0 + 5) ++ g3 B Y (q0 + 8) ++ g3 B Y (q0 + 11) ++ g3 B Y (q0 + 14) ++ g0 B Y (q0 + 17) ++ g4 B Y (q0 + 20) ++ [(.inr (1, [.null]) : va_E)]))) C hF rfl rfl rfl inX2 tyX2 tyX2_ok (Tz_mem (tz1 (List.mem_of_getElem? (i := 84) rfl)) rfl) is_X2 it_X2 df_X2 (by decide) dX6_init_72 ?_
  refine X_dup C dX6_init_75 ?_
  refine Y_init (G0 := (.inr (5, [.ref (B + (q0 + 1)), .ref (B + (q0 + 14)), .ref (B + (q0 + 17)), .ref (B + (q0 + 20)), .null, .null]) : va_E) :: ((.inl (Y 2, 4, .inr (.inr (.inr (.inr (va_up (va_up (va_up (va_up (fun _ => none) 0 (some (B + (q0 + 2)))) 1 (some (B + (q0 + 5)))) 2 (some (B + (q0 + 8)))) 3 (some (B + (q0 + 11)))))))) : va_E) :: (g3 B Y (q0 + 2) ++ g3 B Y (q0 + 5) ++ g3 B Y (q0 + 8) ++ g3 B Y (q0 + 11) ++ g3 B Y (q0 + 14) ++ g0 B Y (q0 + 17) ++ g4 B Y (q0 + 20)))) (n := 24) (g := g2 B Y) (G' := (.inr (5, [.ref (B + (q0 + 1)), .ref (B + (q0 + 14)), .ref (B + (q0 + 17)), .ref (B + (q0 + 20)), .null, .null]) : va_E) :: ((.inl (Y 2, 4, .inr (.inr (.inr (.inr (va_up (va_up (va_up (va_up (fun _ => none) 0 (some (B + (q0 + 2)))) 1 (some (B + (q0 + 5)))) 2 (some (B + (q0 + 8)))) 3 (some (B + (q0 + 11)))))))) : va_E) :: (g3 B Y (q0 + 2) ++ g3 B Y (q0 + 5) ++ g3 B Y (q0 + 8) ++ g3 B Y (q0 + 11) ++ g3 B Y (q0 + 14) ++ g0 B Y (q0 + 17) ++ g4 B Y (q0 + 20) ++ g2 B Y (q0 + 24)))) C X hF rfl rfl rfl (Or.inr ⟨"Belowhouse", Tz_mem (tz1 (List.mem_of_getElem? (i := 86) rfl)) rfl⟩ : LK RX6 36 yX2_init) cy_X2 rfl im_X2 (fun F' => ci_X2 F') (show 2 ≤ 8 by decide) ⟨rfl, rfl, by decide, by decide⟩ (by decide) dX6_init_76 ?_
  refine Y_putF (q0 := q0) (fs := [.ref (B + (q0 + 1)), .ref (B + (q0 + 14)), .ref (B + (q0 + 17)), .ref (B + (q0 + 20)), .null, .null]) (G' := (.inr (5, [.ref (B + (q0 + 1)), .ref (B + (q0 + 14)), .ref (B + (q0 + 17)), .ref (B + (q0 + 20)), .ref (B + (q0 + 24)), .null]) : va_E) :: ((.inl (Y 2, 4, .inr (.inr (.inr (.inr (va_up (va_up (va_up (va_up (fun _ => none) 0 (some (B + (q0 + 2)))) 1 (some (B + (q0 + 5)))) 2 (some (B + (q0 + 8)))) 3 (some (B + (q0 + 11)))))))) : va_E) :: (g3 B Y (q0 + 2) ++ g3 B Y (q0 + 5) ++ g3 B Y (q0 + 8) ++ g3 B Y (q0 + 11) ++ g3 B Y (q0 + 14) ++ g0 B Y (q0 + 17) ++ g4 B Y (q0 + 20) ++ g2 B Y (q0 + 24)))) C hF hi 0 rfl rfl inX6 tyX6 tyX6_ok nmX6 4 (by decide) rfl (Tz_mem (tz1 (List.mem_of_getElem? (i := 134) rfl)) rfl) rfl (tyX6_ok 4 (by decide)) rfl rfl (show 4 < 6 by decide) rfl dX6_init_79 ?_
  refine X_aload_n C 0 rfl dX6_init_82 ?_
  refine Y_new (n := 26) (G' := (.inr (5, [.ref (B + (q0 + 1)), .ref (B + (q0 + 14)), .ref (B + (q0 + 17)), .ref (B + (q0 + 20)), .ref (B + (q0 + 24)), .null]) : va_E) :: ((.inl (Y 2, 4, .inr (.inr (.inr (.inr (va_up (va_up (va_up (va_up (fun _ => none) 0 (some (B + (q0 + 2)))) 1 (some (B + (q0 + 5)))) 2 (some (B + (q0 + 8)))) 3 (some (B + (q0 + 11)))))))) : va_E) :: (g3 B Y (q0 + 2) ++ g3 B Y (q0 + 5) ++ g3 B Y (q0 + 8) ++ g3 B Y (q0 + 11) ++ g3 B Y (q0 + 14) ++ g0 B Y (q0 + 17) ++ g4 B Y (q0 + 20) ++ g2 B Y (q0 + 24) ++ [(.inr (4, [.null, .null, .null, .null, .null, .null, .null]) : va_E)]))) C hF rfl rfl rfl inX5 tyX5 tyX5_ok (Tz_mem (tz1 (List.mem_of_getElem? (i := 94) rfl)) rfl) is_X5 it_X5 df_X5 (by decide) dX6_init_83 ?_
  refine X_dup C dX6_init_86 ?_
  refine Y_init (G0 := (.inr (5, [.ref (B + (q0 + 1)), .ref (B + (q0 + 14)), .ref (B + (q0 + 17)), .ref (B + (q0 + 20)), .ref (B + (q0 + 24)), .null]) : va_E) :: ((.inl (Y 2, 4, .inr (.inr (.inr (.inr (va_up (va_up (va_up (va_up (fun _ => none) 0 (some (B + (q0 + 2)))) 1 (some (B + (q0 + 5)))) 2 (some (B + (q0 + 8)))) 3 (some (B + (q0 + 11)))))))) : va_E) :: (g3 B Y (q0 + 2) ++ g3 B Y (q0 + 5) ++ g3 B Y (q0 + 8) ++ g3 B Y (q0 + 11) ++ g3 B Y (q0 + 14) ++ g0 B Y (q0 + 17) ++ g4 B Y (q0 + 20) ++ g2 B Y (q0 + 24)))) (n := 26) (g := g5 B Y) (G' := (.inr (5, [.ref (B + (q0 + 1)), .ref (B + (q0 + 14)), .ref (B + (q0 + 17)), .ref (B + (q0 + 20)), .ref (B + (q0 + 24)), .null]) : va_E) :: ((.inl (Y 2, 4, .inr (.inr (.inr (.inr (va_up (va_up (va_up (va_up (fun _ => none) 0 (some (B + (q0 + 2)))) 1 (some (B + (q0 + 5)))) 2 (some (B + (q0 + 8)))) 3 (some (B + (q0 + 11)))))))) : va_E) :: (g3 B Y (q0 + 2) ++ g3 B Y (q0 + 5) ++ g3 B Y (q0 + 8) ++ g3 B Y (q0 + 11) ++ g3 B Y (q0 + 14) ++ g0 B Y (q0 + 17) ++ g4 B Y (q0 + 20) ++ g2 B Y (q0 + 24) ++ g5 B Y (q0 + 26)))) C X hF rfl rfl rfl (Or.inr ⟨"Belowhouse", Tz_mem (tz1 (List.mem_of_getElem? (i := 96) rfl)) rfl⟩ : LK RX6 43 yX5_init) cy_X5 rfl im_X5 (fun F' => ci_X5 F') (show 2 ≤ 8 by decide) ⟨rfl, rfl, by decide, by decide⟩ (by decide) dX6_init_87 ?_
  refine Y_putF (q0 := q0) (fs := [.ref (B + (q0 + 1)), .ref (B + (q0 + 14)), .ref (B + (q0 + 17)), .ref (B + (q0 + 20)), .ref (B + (q0 + 24)), .null]) (G' := (.inr (5, [.ref (B + (q0 + 1)), .ref (B + (q0 + 14)), .ref (B + (q0 + 17)), .ref (B + (q0 + 20)), .ref (B + (q0 + 24)), .ref (B + (q0 + 26))]) : va_E) :: ((.inl (Y 2, 4, .inr (.inr (.inr (.inr (va_up (va_up (va_up (va_up (fun _ => none) 0 (some (B + (q0 + 2)))) 1 (some (B + (q0 + 5)))) 2 (some (B + (q0 + 8)))) 3 (some (B + (q0 + 11)))))))) : va_E) :: (g3 B Y (q0 + 2) ++ g3 B Y (q0 + 5) ++ g3 B Y (q0 + 8) ++ g3 B Y (q0 + 11) ++ g3 B Y (q0 + 14) ++ g0 B Y (q0 + 17) ++ g4 B Y (q0 + 20) ++ g2 B Y (q0 + 24) ++ g5 B Y (q0 + 26)))) C hF hi 0 rfl rfl inX6 tyX6 tyX6_ok nmX6 5 (by decide) rfl (Tz_mem (tz1 (List.mem_of_getElem? (i := 135) rfl)) rfl) rfl (tyX6_ok 5 (by decide)) rfl rfl (show 5 < 6 by decide) rfl dX6_init_90 ?_
  refine X_conv (E' := F ++ g6 B Y q0) (by simp only [List.length_append]; rfl) (fun H hP => g6_conv hF hP) ?_
  exact X_ret C hr hk (by decide) dX6_init_93
def g7 (B : Nat) (Y : Nat → ClassId) (q : Nat) : List va_E := (.inr (6, [.ref (B + (q + 1)), .ref (B + (q + 2)), .ref (B + (q + 8)), .int 0, .ref (B + (q + 59)), .ref (B + (q + 60)), .ref (B + (q + 61)), .ref (B + (q + 62))]) : va_E) :: ([iA Y 5] ++ entsOf (a2 B Y q) ++ entsOf (a3 B Y q) ++ [iA Y 512] ++ [iA Y 512] ++ [iA Y 9] ++ [iA Y 9])
theorem a2_ok {B : Nat} {Y : Nat → ClassId} {q : Nat} : cellsOf (a2 B Y q) = lvC (Y 3) 5 1 (fun _ => [arrV (Y 0) 9 (fun _ => defaultValue .int)]) (B + (q + 2)) := by
  have h1 : vp_cell (Y 3) (5, .inr (.inr (.inr (.inr (fun j => some (B + (q + 3 + j))))))) = arrV (Y 3) 5 (fun j => .ref (B + (q + 2) + 1 + j * 1)) := by
    rw [vp_cell_q]
    exact arrV_congr fun j _ => congrArg Value.ref (show (B + (q + 3 + j) : Nat) = B + (q + 2) + 1 + j * 1 by omega)
  show vp_cell (Y 3) (5, .inr (.inr (.inr (.inr (fun j => some (B + (q + 3 + j))))))) :: _ = _
  rw [h1]
  rfl
theorem a3_row {B : Nat} {Y : Nat → ClassId} {q z h : Nat} (e : B + (q + z) = h + 1) : cellsOf [(Y 5, 9, .inr (.inr (.inr (.inr (fun j => some (B + (q + z + j))))))), (Y 1, 9, .inl (fun _ => 0)), (Y 1, 9, .inl (fun _ => 0)), (Y 1, 9, .inl (fun _ => 0)), (Y 1, 9, .inl (fun _ => 0)), (Y 1, 9, .inl (fun _ => 0)), (Y 1, 9, .inl (fun _ => 0)), (Y 1, 9, .inl (fun _ => 0)), (Y 1, 9, .inl (fun _ => 0)), (Y 1, 9, .inl (fun _ => 0))] = lvC (Y 5) 9 1 (fun _ => [arrV (Y 1) 9 (fun _ => defaultValue .boolean)]) h := by
  have h1 : vp_cell (Y 5) (9, .inr (.inr (.inr (.inr (fun j => some (B + (q + z + j))))))) = arrV (Y 5) 9 (fun j => .ref (h + 1 + j * 1)) := by
    rw [vp_cell_q]
    exact arrV_congr fun j _ => congrArg Value.ref (show (B + (q + z + j) : Nat) = h + 1 + j * 1 by omega)
  have h2 : ∀ cA : ClassId, vp_cell cA (9, .inl (fun _ => 0)) = arrV cA 9 (fun _ => defaultValue .boolean) := fun cA => rfl
  show vp_cell (Y 5) (9, .inr (.inr (.inr (.inr (fun j => some (B + (q + z + j))))))) :: _ = _
  rw [h1]
  rfl
theorem a3_ok {B : Nat} {Y : Nat → ClassId} {q : Nat} : cellsOf (a3 B Y q) = lvC (Y 4) 5 10 (lvC (Y 5) 9 1 (fun _ => [arrV (Y 1) 9 (fun _ => defaultValue .boolean)])) (B + (q + 8)) := by
  have h1 : vp_cell (Y 4) (5, .inr (.inr (.inr (.inr (fun j => some (B + (q + 9 + 10 * j))))))) = arrV (Y 4) 5 (fun j => .ref (B + (q + 8) + 1 + j * 10)) := by
    rw [vp_cell_q]
    exact arrV_congr fun j _ => congrArg Value.ref (show (B + (q + 9 + 10 * j) : Nat) = B + (q + 8) + 1 + j * 10 by omega)
  unfold a3
  simp only [cellsOf_app]
  rw [a3_row (z := 10 + 10 * 0) (h := B + (q + 8) + 1 + 0 * 10) (by omega), a3_row (z := 10 + 10 * 1) (h := B + (q + 8) + 1 + 1 * 10) (by omega), a3_row (z := 10 + 10 * 2) (h := B + (q + 8) + 1 + 2 * 10) (by omega), a3_row (z := 10 + 10 * 3) (h := B + (q + 8) + 1 + 3 * 10) (by omega), a3_row (z := 10 + 10 * 4) (h := B + (q + 8) + 1 + 4 * 10) (by omega)]
  show (vp_cell (Y 4) (5, .inr (.inr (.inr (.inr (fun j => some (B + (q + 9 + 10 * j))))))) :: []) ++ _ ++ _ ++ _ ++ _ ++ _ = _
  rw [h1]
  simp only [List.append_assoc]
  rfl
def rm_i7 : Room := { frames := 1, cells := 62, slots := 1552, locals := 28 }
theorem ci_X7 {l : Launch} {B : Nat} {D : va_G} {Y : Nat → ClassId} (F : List va_E) : CI l yX7_init cX7_init 1 rm_i7 62 1552 B D Y F.length (F ++ [(.inr (6, [.null, .null, .null, .int 0, .null, .null, .null, .null]) : va_E)]) (F ++ g7 B Y F.length) := by
  generalize hF : F.length = q0
  refine ofE (by decide) (by decide) rfl fun p e s m args below meth c C X hi hr hk => ?_
  refine X_aload_n C 0 rfl dX7_init_0 ?_
  refine X_objInit C ob_X7 (by decide) (by decide) (by decide) dX7_init_1 ?_
  refine X_aload_n C 0 rfl dX7_init_4 ?_
  refine X_iconst C (v := 5) rfl dX7_init_5 ?_
  refine Y_newa (n := 1) (G' := (.inr (6, [.null, .null, .null, .int 0, .null, .null, .null, .null]) : va_E) :: ([iA Y 5])) (atype := .int) C X hF rfl rfl 0 rfl (5, .inl (fun _ => 0)) rfl (fun cA => iA_cell cA 5) (by decide) (by decide) (by decide) (by decide) dX7_init_6 ?_
  refine Y_putF (q0 := q0) (fs := [.null, .null, .null, .int 0, .null, .null, .null, .null]) (G' := (.inr (6, [.ref (B + (q0 + 1)), .null, .null, .int 0, .null, .null, .null, .null]) : va_E) :: ([iA Y 5])) C hF hi 0 rfl rfl inX7 tyX7 tyX7_ok nmX7 0 (by decide) rfl (Tz_mem (tz5 (List.mem_of_getElem? (i := 131) rfl)) rfl) rfl (tyX7_ok 0 (by decide)) rfl rfl (show 0 < 8 by decide) rfl dX7_init_8 ?_
  refine X_aload_n C 0 rfl dX7_init_11 ?_
  refine X_iconst C (v := 5) rfl dX7_init_12 ?_
  refine X_bipush C (v := 9) (by decide) dX7_init_13 ?_
  refine X_multi2 C X (Tz_mem (tz5 (List.mem_of_getElem? (i := 126) rfl)) rfl : Cond.classLink RX7 13 "[[I" ∈ Tz) (a2 B Y q0) (by rw [fe_len (n := 2) hF rfl]; exact a2_ok) (by decide) dX7_init_15 ?_
  rw [fe_len (n := 2) hF rfl, fe_app (G' := (.inr (6, [.ref (B + (q0 + 1)), .null, .null, .int 0, .null, .null, .null, .null]) : va_E) :: ([iA Y 5] ++ entsOf (a2 B Y q0))) _ rfl]
  refine Y_putF (q0 := q0) (fs := [.ref (B + (q0 + 1)), .null, .null, .int 0, .null, .null, .null, .null]) (G' := (.inr (6, [.ref (B + (q0 + 1)), .ref (B + (q0 + 2)), .null, .int 0, .null, .null, .null, .null]) : va_E) :: ([iA Y 5] ++ entsOf (a2 B Y q0))) C hF hi 0 rfl rfl inX7 tyX7 tyX7_ok nmX7 1 (by decide) rfl (Tz_mem (tz5 (List.mem_of_getElem? (i := 132) rfl)) rfl) rfl (tyX7_ok 1 (by decide)) rfl rfl (show 1 < 8 by decide) rfl dX7_init_19 ?_
  refine X_aload_n C 0 rfl dX7_init_22 ?_
  refine X_iconst C (v := 5) rfl dX7_init_23 ?_
  refine X_bipush C (v := 9) (by decide) dX7_init_24 ?_
  refine X_bipush C (v := 9) (by decide) dX7_init_26 ?_
  refine X_multi3 C X (Tz_mem (tz5 (List.mem_of_getElem? (i := 128) rfl)) rfl : Cond.classLink RX7 18 "[[[Z" ∈ Tz) (a3 B Y q0) (by rw [fe_len (n := 8) hF rfl]; exact a3_ok) (by decide) dX7_init_28 ?_
  rw [fe_len (n := 8) hF rfl, fe_app (G' := (.inr (6, [.ref (B + (q0 + 1)), .ref (B + (q0 + 2)), .null, .int 0, .null, .null, .null, .null]) : va_E) :: ([iA Y 5] ++ entsOf (a2 B Y q0) ++ entsOf (a3 B Y q0))) _ rfl]
  refine Y_putF (q0 := q0) (fs := [.ref (B + (q0 + 1)), .ref (B + (q0 + 2)), .null, .int 0, .null, .null, .null, .null]) (G' := (.inr (6, [.ref (B + (q0 + 1)), .ref (B + (q0 + 2)), .ref (B + (q0 + 8)), .int 0, .null, .null, .null, .null]) : va_E) :: ([iA Y 5] ++ entsOf (a2 B Y q0) ++ entsOf (a3 B Y q0))) C hF hi 0 rfl rfl inX7 tyX7 tyX7_ok nmX7 2 (by decide) rfl (Tz_mem (tz5 (List.mem_of_getElem? (i := 133) rfl)) rfl) rfl (tyX7_ok 2 (by decide)) rfl rfl (show 2 < 8 by decide) rfl dX7_init_32 ?_
  refine X_aload_n C 0 rfl dX7_init_35 ?_
  refine X_sipush C (v := 512) (by decide) dX7_init_36 ?_
  refine Y_newa (n := 59) (G' := (.inr (6, [.ref (B + (q0 + 1)), .ref (B + (q0 + 2)), .ref (B + (q0 + 8)), .int 0, .null, .null, .null, .null]) : va_E) :: ([iA Y 5] ++ entsOf (a2 B Y q0) ++ entsOf (a3 B Y q0) ++ [iA Y 512])) (atype := .int) C X hF rfl rfl 0 rfl (512, .inl (fun _ => 0)) rfl (fun cA => iA_cell cA 512) (by decide) (by decide) (by decide) (by decide) dX7_init_39 ?_
  refine Y_putF (q0 := q0) (fs := [.ref (B + (q0 + 1)), .ref (B + (q0 + 2)), .ref (B + (q0 + 8)), .int 0, .null, .null, .null, .null]) (G' := (.inr (6, [.ref (B + (q0 + 1)), .ref (B + (q0 + 2)), .ref (B + (q0 + 8)), .int 0, .ref (B + (q0 + 59)), .null, .null, .null]) : va_E) :: ([iA Y 5] ++ entsOf (a2 B Y q0) ++ entsOf (a3 B Y q0) ++ [iA Y 512])) C hF hi 0 rfl rfl inX7 tyX7 tyX7_ok nmX7 4 (by decide) rfl (Tz_mem (tz5 (List.mem_of_getElem? (i := 135) rfl)) rfl) rfl (tyX7_ok 4 (by decide)) rfl rfl (show 4 < 8 by decide) rfl dX7_init_41 ?_
  refine X_aload_n C 0 rfl dX7_init_44 ?_
  refine X_sipush C (v := 512) (by decide) dX7_init_45 ?_
  refine Y_newa (n := 60) (G' := (.inr (6, [.ref (B + (q0 + 1)), .ref (B + (q0 + 2)), .ref (B + (q0 + 8)), .int 0, .ref (B + (q0 + 59)), .null, .null, .null]) : va_E) :: ([iA Y 5] ++ entsOf (a2 B Y q0) ++ entsOf (a3 B Y q0) ++ [iA Y 512] ++ [iA Y 512])) (atype := .int) C X hF rfl rfl 0 rfl (512, .inl (fun _ => 0)) rfl (fun cA => iA_cell cA 512) (by decide) (by decide) (by decide) (by decide) dX7_init_48 ?_
  refine Y_putF (q0 := q0) (fs := [.ref (B + (q0 + 1)), .ref (B + (q0 + 2)), .ref (B + (q0 + 8)), .int 0, .ref (B + (q0 + 59)), .null, .null, .null]) (G' := (.inr (6, [.ref (B + (q0 + 1)), .ref (B + (q0 + 2)), .ref (B + (q0 + 8)), .int 0, .ref (B + (q0 + 59)), .ref (B + (q0 + 60)), .null, .null]) : va_E) :: ([iA Y 5] ++ entsOf (a2 B Y q0) ++ entsOf (a3 B Y q0) ++ [iA Y 512] ++ [iA Y 512])) C hF hi 0 rfl rfl inX7 tyX7 tyX7_ok nmX7 5 (by decide) rfl (Tz_mem (tz5 (List.mem_of_getElem? (i := 136) rfl)) rfl) rfl (tyX7_ok 5 (by decide)) rfl rfl (show 5 < 8 by decide) rfl dX7_init_50 ?_
  refine X_aload_n C 0 rfl dX7_init_53 ?_
  refine X_bipush C (v := 9) (by decide) dX7_init_54 ?_
  refine Y_newa (n := 61) (G' := (.inr (6, [.ref (B + (q0 + 1)), .ref (B + (q0 + 2)), .ref (B + (q0 + 8)), .int 0, .ref (B + (q0 + 59)), .ref (B + (q0 + 60)), .null, .null]) : va_E) :: ([iA Y 5] ++ entsOf (a2 B Y q0) ++ entsOf (a3 B Y q0) ++ [iA Y 512] ++ [iA Y 512] ++ [iA Y 9])) (atype := .int) C X hF rfl rfl 0 rfl (9, .inl (fun _ => 0)) rfl (fun cA => iA_cell cA 9) (by decide) (by decide) (by decide) (by decide) dX7_init_56 ?_
  refine Y_putF (q0 := q0) (fs := [.ref (B + (q0 + 1)), .ref (B + (q0 + 2)), .ref (B + (q0 + 8)), .int 0, .ref (B + (q0 + 59)), .ref (B + (q0 + 60)), .null, .null]) (G' := (.inr (6, [.ref (B + (q0 + 1)), .ref (B + (q0 + 2)), .ref (B + (q0 + 8)), .int 0, .ref (B + (q0 + 59)), .ref (B + (q0 + 60)), .ref (B + (q0 + 61)), .null]) : va_E) :: ([iA Y 5] ++ entsOf (a2 B Y q0) ++ entsOf (a3 B Y q0) ++ [iA Y 512] ++ [iA Y 512] ++ [iA Y 9])) C hF hi 0 rfl rfl inX7 tyX7 tyX7_ok nmX7 6 (by decide) rfl (Tz_mem (tz5 (List.mem_of_getElem? (i := 137) rfl)) rfl) rfl (tyX7_ok 6 (by decide)) rfl rfl (show 6 < 8 by decide) rfl dX7_init_58 ?_
  refine X_aload_n C 0 rfl dX7_init_61 ?_
  refine X_bipush C (v := 9) (by decide) dX7_init_62 ?_
  refine Y_newa (n := 62) (G' := (.inr (6, [.ref (B + (q0 + 1)), .ref (B + (q0 + 2)), .ref (B + (q0 + 8)), .int 0, .ref (B + (q0 + 59)), .ref (B + (q0 + 60)), .ref (B + (q0 + 61)), .null]) : va_E) :: ([iA Y 5] ++ entsOf (a2 B Y q0) ++ entsOf (a3 B Y q0) ++ [iA Y 512] ++ [iA Y 512] ++ [iA Y 9] ++ [iA Y 9])) (atype := .int) C X hF rfl rfl 0 rfl (9, .inl (fun _ => 0)) rfl (fun cA => iA_cell cA 9) (by decide) (by decide) (by decide) (by decide) dX7_init_64 ?_
  refine Y_putF (q0 := q0) (fs := [.ref (B + (q0 + 1)), .ref (B + (q0 + 2)), .ref (B + (q0 + 8)), .int 0, .ref (B + (q0 + 59)), .ref (B + (q0 + 60)), .ref (B + (q0 + 61)), .null]) (G' := (.inr (6, [.ref (B + (q0 + 1)), .ref (B + (q0 + 2)), .ref (B + (q0 + 8)), .int 0, .ref (B + (q0 + 59)), .ref (B + (q0 + 60)), .ref (B + (q0 + 61)), .ref (B + (q0 + 62))]) : va_E) :: ([iA Y 5] ++ entsOf (a2 B Y q0) ++ entsOf (a3 B Y q0) ++ [iA Y 512] ++ [iA Y 512] ++ [iA Y 9] ++ [iA Y 9])) C hF hi 0 rfl rfl inX7 tyX7 tyX7_ok nmX7 7 (by decide) rfl (Tz_mem (tz5 (List.mem_of_getElem? (i := 138) rfl)) rfl) rfl (tyX7_ok 7 (by decide)) rfl rfl (show 7 < 8 by decide) rfl dX7_init_66 ?_
  refine X_eq (E' := F ++ g7 B Y q0) rfl ?_
  exact X_ret C hr hk (by decide) dX7_init_69
