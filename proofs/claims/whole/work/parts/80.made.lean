/-! ===== the world while it is made: the cells stand at B, B + 1, .. in the order of their making ===== -/
def mkW (B : Nat) (E : List va_E) : va_W := E.mapIdx (fun k e => (B + k, e))
theorem mkW_get {B k : Nat} {E : List va_E} : (mkW B E)[k]? = (E[k]?).map (fun e => (B + k, e)) := by simp [mkW, List.getElem?_mapIdx]
theorem mkW_len {B : Nat} {E : List va_E} : (mkW B E).length = E.length := by simp [mkW]
theorem mkW_at {B k : Nat} {E : List va_E} {e : va_E} (h : E[k]? = some e) : (mkW B E)[k]? = some (B + k, e) := by rw [mkW_get, h]; rfl
theorem mkW_inv {B k : Nat} {E : List va_E} {q : Nat × va_E} (h : (mkW B E)[k]? = some q) : ∃ e, E[k]? = some e ∧ q = (B + k, e) := by
  rw [mkW_get] at h
  cases he : E[k]? with
  | none => rw [he] at h; cases h
  | some e => rw [he] at h; exact ⟨e, rfl, (Option.some.inj h).symm⟩
theorem mkW_set {B k : Nat} {E : List va_E} {e : va_E} : (mkW B E).set k (B + k, e) = mkW B (E.set k e) := by
  apply List.ext_getElem?
  intro j
  rw [List.getElem?_set, mkW_get, mkW_get, List.getElem?_set, mkW_len]
  by_cases h : k = j
  · subst h
    simp only [if_true]
    split <;> rfl
  · rw [if_neg h, if_neg h]
theorem mkW_app {B : Nat} {E : List va_E} {e : va_E} : mkW B (E ++ [e]) = mkW B E ++ [(B + E.length, e)] := by
  apply List.ext_getElem?
  intro j
  rw [mkW_get, List.getElem?_append, List.getElem?_append, mkW_len, mkW_get]
  by_cases h : j < E.length
  · rw [if_pos h, if_pos h]
  · rw [if_neg h, if_neg h]
    by_cases h2 : j - E.length = 0
    · rw [h2, show j = E.length by omega]; rfl
    · obtain ⟨d, hd⟩ := Nat.exists_eq_succ_of_ne_zero h2
      rw [hd]; rfl
theorem mkW_D (B : Nat) (E : List va_E) : va_D (fun q => B ≤ q) (mkW B E) := by
  refine ⟨fun i j p q hi hj h => ?_, fun k q h => ?_⟩
  · obtain ⟨_, -, rfl⟩ := mkW_inv hi
    obtain ⟨_, -, rfl⟩ := mkW_inv hj
    dsimp only at h
    omega
  · obtain ⟨_, -, rfl⟩ := mkW_inv h
    exact Nat.le_add_right _ _
/-- the array classes by their names, and what they are arrays of -/
def KF (Y : Nat → ClassId) (U : State) : Prop := ∀ (k : Nat) (ty : FieldType), tyY[k]? = some ty → U.vm.findClass ("[" ++ ty.toString) = some (Y k)
def KC (Y : Nat → ClassId) (U : State) : Prop := ∀ (k : Nat) (ty : FieldType), tyY[k]? = some ty → ∃ (kA : Class) (comp : ClassId), U.vm.classes[Y k]? = some kA ∧ kA.kind = .array comp ty ∧ (k = 3 → comp = Y 0) ∧ (k = 4 → comp = Y 5) ∧ (k = 5 → comp = Y 1)
def XE (Y : Nat → ClassId) (U : State) : Prop := KF Y U ∧ KC Y U ∧ va_AO "Belowhouse$Order" U
theorem KF.moved {Y : Nat → ClassId} {u U : State} (hvm : u.vm.Alike U.vm) (h : KF Y u) : KF Y U := fun k ty hk => by rw [hvm.findClass]; exact h k ty hk
theorem KC.moved {Y : Nat → ClassId} {u U : State} (hvm : u.vm.Alike U.vm) (h : KC Y u) : KC Y U := fun k ty hk => by
  obtain ⟨kA, comp, h1, h2, h3⟩ := h k ty hk
  obtain ⟨k', hk', he⟩ := hvm.2.2 _ _ h1
  exact ⟨k', comp, hk', by rw [he]; exact h2, h3⟩
theorem XE.moved {Y : Nat → ClassId} {u U : State} (hvm : u.vm.Alike U.vm) (h : XE Y u) : XE Y U := ⟨h.1.moved hvm, h.2.1.moved hvm, h.2.2.moved hvm⟩
theorem ac_of {Y : Nat → ClassId} {U : State} {A : Array Value} (h1 : KF Y U) (h2 : KC Y U) {k : Nat} {ty : FieldType} (hk : tyY[k]? = some ty) : (Cond.arrayClass ty).before A U = true := by
  obtain ⟨kA, comp, g1, g2, -⟩ := h2 k ty hk
  unfold Cond.before Cond.holds
  simp only [Cond.value, h1 k ty hk, Option.bind_some, g1, Option.map_some, g2, decide_true]
  rfl
/-- from every heap that holds the entries E and ends behind them: a run from pc comes to Q -/
def AtE (p : Program) (l : Launch) (e : Env) (R : Room) (s : State) (m : MethodId) (args : Array Value) (below : List Frame) (meth : Method) (c : Code) (nL cells slots : Nat) (Q : State → Prop) (B : Nat) (D : va_G) (E : List va_E) (pc : Nat) (L : List (Nat × Value)) (st : List Value) : Prop :=
  ∀ (H : Heap) (locs : List Loc) (ls : Array Slot), va_P D vwCl (mkW B E) H → H.size = B + E.length → va_S (fun q => B ≤ q) s.heap H locs → lv_has ls nL L → W p l e R s m args below meth c H locs cells slots Q (F0 m pc ls st)
def InvE (B : Nat) (D : va_G) (Y : Nat → ClassId) (E : List va_E) (U : State) : Prop := TB U ∧ va_K D vwCl [] U ∧ KY Y U ∧ XE Y U ∧ va_P D vwCl (mkW B E) U.heap ∧ U.heap.size = B + E.length
def PE (B : Nat) (D : va_G) (E : List va_E) : Array Value → State → Outcome → State → Prop := fun _ st oc t => oc = .returned none ∧ va_P D vwCl (mkW B E) t.heap ∧ t.heap.size = B + E.length ∧ va_F (fun q => B ≤ q) st t
abbrev CI (l : Launch) (y : MethodName) (cc : ByteArray) (nL : Nat) (rm : Room) (mc ms : Nat) (B : Nat) (D : va_G) (Y : Nat → ClassId) (q : Nat) (E E' : List va_E) : Prop :=
  Met l y [Cond.code y cc nL none] rm (va_Pc [.ref (B + q)] (InvE B D Y E)) (PE B D E') mc ms (fun q => B ≤ q)
section ATE
variable {p : Program} {l : Launch} {e : Env} {R : Room} {s : State} {m : MethodId} {args : Array Value} {below : List Frame} {meth : Method} {c : Code} {nL cells slots : Nat} {Q : State → Prop} {B : Nat} {D : va_G} {Y : Nat → ClassId} {pc : Nat} {E : List va_E} {L L' : List (Nat × Value)} {rest : List Value} {cc : ByteArray} {own : String}
theorem ofE {y : MethodName} {rm : Room} {mc ms q : Nat} {E' : List va_E} (hy : plainName y.cls = true) (hB : 1 ≤ nL) (hi : y.name = "<init>")
    (body : ∀ (p : Program) (e : Env) (s : State) (m : MethodId) (args : Array Value) (below : List Frame) (meth : Method) (c : Code), Cx p s m args c cc nL y.cls B D Y → XE Y s → meth.name = "<init>" → meth.sig.returnType = none → meth.locks = false → AtE p l e rm s m args below meth c nL 0 0 (MQ below (PE B D E') args s mc ms (fun q => B ≤ q)) B D E 0 [(0, .ref (B + q))] []) :
    CI l y cc nL rm mc ms B D Y q E E' := by
  refine Met.ofW (cc := cc) (maxL := nL) (ret := none) hy rfl ?_
  intro p e s m args below meth c s₁ B0 hml hv
  obtain ⟨rfl, hT, hK, hY, hX, hP, hz⟩ := hv
  have hown : s.vm.findClass y.cls = some m.cls := findClass_of_methodNamed B0.named
  have hin : meth.name = "<init>" := by rw [← hi]; exact (name_of_methodNamed B0.named B0.method).1
  have hl := lv_entry [Value.ref (B + q)] (n := nL) (show 1 ≤ nL from hB)
  rw [lg_entry_eq]
  exact body p e s m _ below meth c ⟨B0.exec, B0.bytes, hml, hown, hT, hK, hY, by omega⟩ hX hin B0.returns B0.notSynchronized s.heap [] _ hP hz va_S.rf hl
theorem X_iconst (C : Cx p s m args c cc nL own B D Y) {z : Int} {v : Int32} (hv : Int32.ofInt z = v) (hd : decode cc pc = .ok (.iconst z, 1)) (k : AtE p l e R s m args below meth c nL cells slots Q B D E (pc + 1) L (.int v :: rest)) : AtE p l e R s m args below meth c nL cells slots Q B D E pc L rest := fun H locs ls hP hz hS hl => lv_iconst C.1 C.2.1 hd hv (k H locs ls hP hz hS hl)
theorem X_bipush (C : Cx p s m args c cc nL own B D Y) {z : Int} {v : Int32} (hv : (Int8.ofInt z).toInt32 = v) (hd : decode cc pc = .ok (.bipush z, 2)) (k : AtE p l e R s m args below meth c nL cells slots Q B D E (pc + 2) L (.int v :: rest)) : AtE p l e R s m args below meth c nL cells slots Q B D E pc L rest := fun H locs ls hP hz hS hl => lv_bipush C.1 C.2.1 hd hv (k H locs ls hP hz hS hl)
theorem X_sipush (C : Cx p s m args c cc nL own B D Y) {z : Int} {v : Int32} (hv : (Int16.ofInt z).toInt32 = v) (hd : decode cc pc = .ok (.sipush z, 3)) (k : AtE p l e R s m args below meth c nL cells slots Q B D E (pc + 3) L (.int v :: rest)) : AtE p l e R s m args below meth c nL cells slots Q B D E pc L rest := fun H locs ls hP hz hS hl => lv_sipush C.1 C.2.1 hd hv (k H locs ls hP hz hS hl)
theorem X_aload_n (C : Cx p s m args c cc nL own B D Y) {j : Fin 4} {x : Nat} (k0 : Nat) (hk : L[k0]? = some ((j : Nat), .ref x)) (hd : decode cc pc = .ok (.aload_n j, 1)) (k : AtE p l e R s m args below meth c nL cells slots Q B D E (pc + 1) L (.ref x :: rest)) : AtE p l e R s m args below meth c nL cells slots Q B D E pc L rest := fun H locs ls hP hz hS hl => lv_aload_n C.1 C.2.1 hd rfl (lv_at hl k0 hk) (k H locs ls hP hz hS hl)
theorem X_iload_n (C : Cx p s m args c cc nL own B D Y) {j : Fin 4} {x : Int32} (k0 : Nat) (hk : L[k0]? = some ((j : Nat), .int x)) (hd : decode cc pc = .ok (.iload_n j, 1)) (k : AtE p l e R s m args below meth c nL cells slots Q B D E (pc + 1) L (.int x :: rest)) : AtE p l e R s m args below meth c nL cells slots Q B D E pc L rest := fun H locs ls hP hz hS hl => lv_iload_n C.1 C.2.1 hd rfl (lv_at hl k0 hk) (k H locs ls hP hz hS hl)
theorem X_istore_n (C : Cx p s m args c cc nL own B D Y) {j : Fin 4} {i : Nat} {x : Int32} (L' : List (Nat × Value)) (hi : (j : Nat) = i) (hn : i < nL) (ks : List Nat) (hl2 : lv_pick ((i, Value.int x) :: L.filter (fun q => !(q.1 == i) && !(q.1 + 1 == i && q.2.category == 2))) ks = L') (hd : decode cc pc = .ok (.istore_n j, 1)) (k : AtE p l e R s m args below meth c nL cells slots Q B D E (pc + 1) L' rest) : AtE p l e R s m args below meth c nL cells slots Q B D E pc L (.int x :: rest) := fun H locs ls hP hz hS hl => lv_istore_n C.1 C.2.1 hd hi hl hn rfl (fun ls hl => k H locs ls hP hz hS (lv_sub hl ks hl2))
theorem X_astore_n (C : Cx p s m args c cc nL own B D Y) {j : Fin 4} {i : Nat} {x : Nat} (L' : List (Nat × Value)) (hi : (j : Nat) = i) (hn : i < nL) (ks : List Nat) (hl2 : lv_pick ((i, Value.ref x) :: L.filter (fun q => !(q.1 == i) && !(q.1 + 1 == i && q.2.category == 2))) ks = L') (hd : decode cc pc = .ok (.astore_n j, 1)) (k : AtE p l e R s m args below meth c nL cells slots Q B D E (pc + 1) L' rest) : AtE p l e R s m args below meth c nL cells slots Q B D E pc L (.ref x :: rest) := fun H locs ls hP hz hS hl => lv_astore_n C.1 C.2.1 hd hi hl hn rfl (fun ls hl => k H locs ls hP hz hS (lv_sub hl ks hl2))
theorem X_astore (C : Cx p s m args c cc nL own B D Y) {i : Nat} {x : Nat} (L' : List (Nat × Value)) (hn : i < nL) (ks : List Nat) (hl2 : lv_pick ((i, Value.ref x) :: L.filter (fun q => !(q.1 == i) && !(q.1 + 1 == i && q.2.category == 2))) ks = L') (hd : decode cc pc = .ok (.astore i, 2)) (k : AtE p l e R s m args below meth c nL cells slots Q B D E (pc + 2) L' rest) : AtE p l e R s m args below meth c nL cells slots Q B D E pc L (.ref x :: rest) := fun H locs ls hP hz hS hl => lv_astore C.1 C.2.1 hd hl hn rfl (fun ls hl => k H locs ls hP hz hS (lv_sub hl ks hl2))
theorem X_istore (C : Cx p s m args c cc nL own B D Y) {i : Nat} {x : Int32} (L' : List (Nat × Value)) (hn : i < nL) (ks : List Nat) (hl2 : lv_pick ((i, Value.int x) :: L.filter (fun q => !(q.1 == i) && !(q.1 + 1 == i && q.2.category == 2))) ks = L') (hd : decode cc pc = .ok (.istore i, 2)) (k : AtE p l e R s m args below meth c nL cells slots Q B D E (pc + 2) L' rest) : AtE p l e R s m args below meth c nL cells slots Q B D E pc L (.int x :: rest) := fun H locs ls hP hz hS hl => lv_istore C.1 C.2.1 hd hl hn rfl (fun ls hl => k H locs ls hP hz hS (lv_sub hl ks hl2))
theorem X_dup (C : Cx p s m args c cc nL own B D Y) {x : Nat} (hd : decode cc pc = .ok (.dup, 1)) (k : AtE p l e R s m args below meth c nL cells slots Q B D E (pc + 1) L (.ref x :: .ref x :: rest)) : AtE p l e R s m args below meth c nL cells slots Q B D E pc L (.ref x :: rest) := fun H locs ls hP hz hS hl => lv_dup C.1 C.2.1 hd rfl (k H locs ls hP hz hS hl)
theorem X_goto (C : Cx p s m args c cc nL own B D Y) {off : Int} (tgt : Nat) (ht : (pc : Int) + off = (tgt : Int)) (hd : decode cc pc = .ok (.goto off, 3)) (k : AtE p l e R s m args below meth c nL cells slots Q B D E tgt L rest) : AtE p l e R s m args below meth c nL cells slots Q B D E pc L rest := fun H locs ls hP hz hS hl => lv_goto C.1 C.2.1 hd ht (k H locs ls hP hz hS hl)
theorem X_iinc (C : Cx p s m args c cc nL own B D Y) {i k0 : Nat} {z : Int} {x w : Int32} (L' : List (Nat × Value)) (hk : L[k0]? = some (i, .int x)) (hz : Int32.ofInt z = w) (hn : i < nL) (ks : List Nat) (hl2 : lv_pick ((i, Value.int (x + w)) :: L.filter (fun q => !(q.1 == i) && !(q.1 + 1 == i && q.2.category == 2))) ks = L') (hd : decode cc pc = .ok (.iinc i z, 3)) (k : AtE p l e R s m args below meth c nL cells slots Q B D E (pc + 3) L' rest) : AtE p l e R s m args below meth c nL cells slots Q B D E pc L rest := fun H locs ls hP hz2 hS hl => lv_iinc C.1 C.2.1 hd hl hk (by rw [hz]) hn rfl (fun ls hl => k H locs ls hP hz2 hS (lv_sub hl ks hl2))
theorem X_icmp_ge_t (C : Cx p s m args c cc nL own B D Y) {x y : Int32} {off : Int} (tgt : Nat) (ht : (pc : Int) + off = (tgt : Int)) (hd : decode cc pc = .ok (.if_icmp .ge off, 3)) (hx : y ≤ x) (k : AtE p l e R s m args below meth c nL cells slots Q B D E tgt L rest) : AtE p l e R s m args below meth c nL cells slots Q B D E pc L (.int y :: .int x :: rest) := fun H locs ls hP hz hS hl => lv_icmp_ge C.1 C.2.1 hd ht (fun _ => k H locs ls hP hz hS hl) (fun z => absurd hx z)
theorem X_icmp_ge_f (C : Cx p s m args c cc nL own B D Y) {x y : Int32} {off : Int} (tgt : Nat) (ht : (pc : Int) + off = (tgt : Int)) (hd : decode cc pc = .ok (.if_icmp .ge off, 3)) (hx : ¬ y ≤ x) (k : AtE p l e R s m args below meth c nL cells slots Q B D E (pc + 3) L rest) : AtE p l e R s m args below meth c nL cells slots Q B D E pc L (.int y :: .int x :: rest) := fun H locs ls hP hz hS hl => lv_icmp_ge C.1 C.2.1 hd ht (fun z => absurd z hx) (fun _ => k H locs ls hP hz hS hl)
theorem X_objInit (C : Cx p s m args c cc nL own B D Y) {idx a : Nat} (hli : Cond.methodLink own idx Lib.objectInit ∈ Tz) (h1 : 1 ≤ R.frames) (h2 : (rest.map fun v => v.category).sum + 20 ≤ R.locals) (hr : (rest.map fun v => v.category).sum ≤ 8) (hd : decode cc pc = .ok (.invokespecial idx, 3)) (k : AtE p l e R s m args below meth c nL cells slots Q B D E (pc + 3) L rest) : AtE p l e R s m args below meth c nL cells slots Q B D E pc L (.ref a :: rest) := fun H locs ls hP hz hS hl =>
  W.objInit C.1 C.2.1 C.2.2.2.1 (C.2.2.2.2.1.use hli) (C.2.2.2.2.1.use (Tz_mem (tz1 (List.mem_of_getElem? (i := 23) rfl)) rfl)) (C.2.2.2.2.1.use (Tz_mem (tz1 (List.mem_of_getElem? (i := 24) rfl)) rfl)) rfl (by rw [C.2.2.1]; exact hl.1) rfl hd h1 (by have := lv_room (m := m) (pc := pc) (ls := ls) (rest := .ref a :: rest) hr; omega) (k H locs ls hP hz hS hl)
theorem X_new (C : Cx p s m args c cc nL own B D Y) {K : String} {T : u_T} {N ci idx : Nat} {fs : List Value} (hc : vwCl[ci]? = some (K, T, N)) (hin : ∀ w ∈ u_ws K T N, w ∈ Tz) (ty : Nat → FieldType) (hty : ∀ k, k < N → parseFieldDescriptor (T k).2.2.1 = some (ty k)) (hcl : Cond.classLink own idx K ∈ Tz) (hinst : Cond.instantiable K N ∈ Tz) (hini : Cond.initialized K ∈ Tz) (hfs : ∀ j, j < N → defaultValue (ty j) = vp_V fs j) (hcs : cells + 1 ≤ R.cells ∧ slots + N ≤ R.slots) (hd : decode cc pc = .ok (.new idx, 3)) (k : AtE p l e R s m args below meth c nL (cells + 1) (slots + N) Q B D (E ++ [.inr (ci, fs)]) (pc + 3) L (.ref (B + E.length) :: rest)) : AtE p l e R s m args below meth c nL cells slots Q B D E pc L rest := fun H locs ls hP hz hS hl => by
  have hKn := C.2.2.2.2.2.1.1 ci _ hc
  refine W.newcK C.1 C.2.1 C.2.2.2.1 (C.2.2.2.2.1.use hcl) (C.2.2.2.2.1.use hinst) (C.2.2.2.2.1.use hini) rfl hd hcs.1 hcs.2 hKn.2.1 hz fun H1 kC hkC e1 z1 o1 => ?_
  have hlt : ∀ q, q < H.size → H1[q]? = H[q]? := fun q hq => o1 q (by omega)
  refine k H1 locs ls ?_ (by rw [z1, List.length_append]; rfl) ⟨Nat.le_trans hS.1 (by omega), fun x h1 h2 => (hlt x (Nat.lt_of_lt_of_le h1 hS.1)).trans (hS.2.1 x h1 h2), hS.2.2⟩ hl
  rw [mkW_app]
  refine (hP.kept (fun k x hx => hlt _ ((hP k x hx).lt))).app (fun k x hx => ?_)
  have hz : k < 1 := (List.getElem?_eq_some_iff.mp hx).1
  rw [show k = 0 by omega] at hx
  cases hx
  exact ⟨_, hc, (u_born ty (hTz C) hin hKn hkC e1 hty).to hfs⟩
theorem X_newa (C : Cx p s m args c cc nL own B D Y) (F : XE Y s) {atype : ArrayType} {ty : FieldType} (hty : newarray.typeOf atype = ty) (ky : Nat) (hky : tyY[ky]? = some ty) {n : Int32} {N : Nat} (a0 : vp_A) (ha : ∀ cA : ClassId, vp_cell cA a0 = arrV cA N (fun _ => defaultValue ty)) (hn : ¬ n < 0) (hN : n.toNatClampNeg = N) (hby : N * componentBytes ty ≤ 536870912) (hcs : cells + 1 ≤ R.cells ∧ slots + N ≤ R.slots) (hd : decode cc pc = .ok (.newarray atype, 2)) (k : AtE p l e R s m args below meth c nL (cells + 1) (slots + N) Q B D (E ++ [.inl (Y ky, a0)]) (pc + 2) L (.ref (B + E.length) :: rest)) : AtE p l e R s m args below meth c nL cells slots Q B D E pc L (.int n :: rest) := fun H locs ls hP hz hS hl => by
  subst hty
  refine va_newaK C.1 C.2.1 (ac_of F.1 F.2.1 hky) rfl hd rfl hn hN hby hcs.1 hcs.2 hz fun H1 cA e1 z1 o1 hAr hNm => ?_
  have hcA : cA = Y ky := Option.some.inj (hNm.symm.trans (F.1 ky _ hky))
  subst hcA
  have hlt : ∀ q, q < H.size → H1[q]? = H[q]? := fun q hq => o1 q (by omega)
  refine k H1 locs ls ?_ (by rw [z1, List.length_append]; rfl) ⟨Nat.le_trans hS.1 (by omega), fun x h1 h2 => (hlt x (Nat.lt_of_lt_of_le h1 hS.1)).trans (hS.2.1 x h1 h2), hS.2.2⟩ hl
  rw [mkW_app]
  refine (hP.kept (fun k x hx => hlt _ ((hP k x hx).lt))).app (fun k x hx => ?_)
  have hz : k < 1 := (List.getElem?_eq_some_iff.mp hx).1
  rw [show k = 0 by omega] at hx
  cases hx
  show H1[B + E.length]? = some (vp_cell _ _)
  rw [ha]
  exact e1
theorem X_anew (C : Cx p s m args c cc nL own B D Y) (F : XE Y s) {idx : Nat} (hcl : Cond.classLink own idx "Belowhouse$Order" ∈ Tz) {n : Int32} {N : Nat} (hn : ¬ n < 0) (hN : n.toNatClampNeg = N) (hby : N * 4 ≤ 536870912) (hcs : cells + 1 ≤ R.cells ∧ slots + N ≤ R.slots) (hd : decode cc pc = .ok (.anewarray idx, 3)) (k : AtE p l e R s m args below meth c nL (cells + 1) (slots + N) Q B D (E ++ [.inl (Y 2, N, .inr (.inr (.inr (.inr (fun _ => none)))))]) (pc + 3) L (.ref (B + E.length) :: rest)) : AtE p l e R s m args below meth c nL cells slots Q B D E pc L (.int n :: rest) := fun H locs ls hP hz hS hl => by
  subst hN
  refine W.anew C.1 C.2.1 C.2.2.2.1 (C.2.2.2.2.1.use hcl) (va_AO.use F.2.2) rfl hd rfl hn hby hcs.1 hcs.2 fun cA kA comp f1 f2 f3 f4 => ?_
  have hcA : cA = Y 2 := Option.some.inj (f1.symm.trans (F.1 2 _ rfl))
  subst hcA
  rw [hz]
  generalize hH1 : H.push ({ cls := Y 2, slots := Array.replicate n.toNatClampNeg .null, vm := .none } : Cell) = H1
  have z1 : H1.size = H.size + 1 := by rw [← hH1, Array.size_push]
  have e1 : H1[H.size]? = some (arrV (Y 2) n.toNatClampNeg (fun _ => .null)) := by rw [← hH1, Array.getElem?_push_size, ← arrV_new]
  have hlt : ∀ q : Nat, q < H.size → H1[q]? = H[q]? := fun q hq => by rw [← hH1, Array.getElem?_push, if_neg (Nat.ne_of_lt hq)]
  refine k H1 locs ls ?_ (by rw [z1, List.length_append, hz]; rfl) ⟨Nat.le_trans hS.1 (by omega), fun x h1 h2 => (hlt x (Nat.lt_of_lt_of_le h1 hS.1)).trans (hS.2.1 x h1 h2), hS.2.2⟩ hl
  rw [mkW_app]
  refine (hP.kept (fun k x hx => hlt _ ((hP k x hx).lt))).app (fun k x hx => ?_)
  have hz2 : k < 1 := (List.getElem?_eq_some_iff.mp hx).1
  rw [show k = 0 by omega] at hx
  cases hx
  show H1[B + E.length]? = some (vp_cell _ _)
  rw [vp_cell_q, ← hz]
  exact e1
theorem X_putF (C : Cx p s m args c cc nL own B D Y) (hi : meth.name = "<init>") {T : u_T} {N ci idx : Nat} {fs : List Value} (q : Nat) (he : E[q]? = some (.inr (ci, fs))) (hc : vwCl[ci]? = some (own, T, N)) (hin : ∀ w ∈ u_ws own T N, w ∈ Tz) (ty0 : Nat → FieldType) (hty : ∀ k, k < N → parseFieldDescriptor (T k).2.2.1 = some (ty0 k)) (hnm : ∀ a, a < N → ∀ b, b < N → a ≠ b → (T a).2.1 ≠ (T b).2.1) (j : Nat) (hj : j < N) (hT : (T j).1 = own) (hw : Cond.fieldLink own idx own (T j).2.1 (T j).2.2.1 ∈ Tz) (hfin : (T j).2.2.2 = true) {ty : FieldType} {v : Value} (hpd : parseFieldDescriptor (T j).2.2.1 = some ty) (hn : narrow ty v = v) (hfit : fits ty v = true) (hl0 : j < fs.length) (hd : decode cc pc = .ok (.putfield idx, 3)) (k : AtE p l e R s m args below meth c nL cells slots Q B D (E.set q (.inr (ci, fs.set j v))) (pc + 3) L rest) : AtE p l e R s m args below meth c nL cells slots Q B D E pc L (v :: .ref (B + q) :: rest) := fun H locs ls hP hz hS0 hl => by
  have hK := C.2.2.2.2.2.1
  have hts := hTz C
  have hap := va_apart (own := own) hts hin ty0 hty hnm hK hc
  obtain ⟨r, h1, cell, q1, q2, q3, q4⟩ := hP q _ (mkW_at he)
  have hr : r = (own, T, N) := Option.some.inj (h1.symm.trans hc)
  subst hr
  obtain ⟨hS, hfc, kC, hkC, hkind⟩ := hK.1 ci _ hc
  obtain ⟨cf, kf, fi, f, hi2, hsl⟩ := hS j hj
  have hlay := hts _ (hin _ (u_in_lay hj))
  unfold u_lay at hlay
  rw [if_pos hfin] at hlay
  have hst := (u_facts hfc hkC (u_lays hts hin hj) hi2).1
  have hcf : m.cls = cf := by
    obtain ⟨_, _, c', _, _, _, -, -, hf', -, -, -, hown2, -⟩ := Cond.laysFinal_spec hlay
    have e1 : c' = cf := by have := hi2.symm.trans hf'; simp at this; exact this.1.symm
    rw [hT] at hown2
    rw [← e1]; exact Option.some.inj (C.2.2.2.1.symm.trans hown2)
  have h6 := u_fits hfc hkC hkind (Or.inr hlay) hi2 hpd hn hfit
  refine W.putFinK C.1 C.2.1 C.2.2.2.1 (C.2.2.2.2.1.use hw) (by rw [← hT]; exact hi2) hst hcf hi (by rw [q2]; exact h6) q1 q3 (by rw [hsl]; exact k2_hasslot (q4 j hj)) rfl rfl hd fun H1 e1 e2 e3 => ?_
  rw [hsl] at e1 ⊢
  refine k H1 _ ls ?_ (by rw [e2, hz, List.length_set]) (hS0.put e2 e3 (Nat.le_add_right B q)) hl
  rw [← mkW_set]
  exact hP.set (mkW_D B E) (mkW_at he) ⟨_, hc, t_OB.to (V := updV (vp_V fs) j v) ⟨_, e1, q2, q3, t_set q4 hap hj v⟩ (fun i _ => vp_updV_set hl0 v i)⟩ e3
theorem X_get (C : Cx p s m args c cc nL own B D Y) {K : String} {T : u_T} {N ci idx : Nat} {fs : List Value} {v : Value} (q : Nat) (he : E[q]? = some (.inr (ci, fs))) (hcl : vwCl[ci]? = some (K, T, N)) (hin : ∀ w ∈ u_ws K T N, w ∈ Tz) (j : Nat) (hj : j < N) (hT : (T j).1 = K) (hw : Cond.fieldLink own idx K (T j).2.1 (T j).2.2.1 ∈ Tz) (hv : fs[j]? = some v) (hd : decode cc pc = .ok (.getfield idx, 3)) (k : AtE p l e R s m args below meth c nL cells slots Q B D E (pc + 3) L (v :: rest)) : AtE p l e R s m args below meth c nL cells slots Q B D E pc L (.ref (B + q) :: rest) := fun H locs ls hP hz hS hl =>
  va_get C.1 C.2.1 (hTz C) hin C.2.2.2.1 C.2.2.2.2.2.1 hP q (mkW_at he) hcl j hj (C.2.2.2.2.1.use hw) (fun x hx => by rw [hT] at hx; exact hx) hv hd (k H locs ls hP hz hS hl)
theorem X_aast (C : Cx p s m args c cc nL own B D Y) (F : XE Y s) {n qa qv : Nat} {vs : List Value} {f : Nat → Option Nat} (ha : E[qa]? = some (.inl (Y 2, n, .inr (.inr (.inr (.inr f)))))) (hv : E[qv]? = some (.inr (2, vs))) {i : Int32} (hin : vp_in i n) (hd : decode cc pc = .ok (.aastore, 1)) (k : AtE p l e R s m args below meth c nL cells slots Q B D (E.set qa (.inl (Y 2, n, .inr (.inr (.inr (.inr (va_up f i.toNatClampNeg (some (B + qv)))))))))  (pc + 1) L rest) : AtE p l e R s m args below meth c nL cells slots Q B D E pc L (.ref (B + qv) :: .int i :: .ref (B + qa) :: rest) := fun H locs ls hP hz hS hl => by
  have hlt : i.toNatClampNeg < n := Nat.not_le.mp fun q => hin (Or.inr q)
  have h0 : ¬ i < 0 := fun q => hin (Or.inl q)
  have hK := C.2.2.2.2.2.1
  obtain ⟨r', hr', cellV, g1, g2, g3, -⟩ := hP qv _ (mkW_at hv)
  have hcls := (hK.1 2 (RX3, TX3, 3) rfl).2
  obtain ⟨comp, cA, kA, k1, k2, k3, k4, k5⟩ := Cond.arrayOver_spec (va_AO.use (A := args) F.2.2)
  have hcA : cA = Y 2 := Option.some.inj (k5.symm.trans (F.1 2 _ rfl))
  subst hcA
  have hcomp : comp = D.1 2 := Option.some.inj (k1.symm.trans hcls.1)
  subst hcomp
  obtain ⟨kC, hkC, -⟩ := hcls.2
  refine W.aast C.1 C.2.1 (hP qa _ (mkW_at ha)) (fun q h => by cases h) (fun h => by cases h) k3 k4 rfl hkC ⟨h0, by show _ < (arrV _ _ _).slots.size; rw [arrV_size]; exact hlt⟩ g1 (fun q h => by rw [g3] at h; cases h) (by rw [g2]; exact hkC) (by rw [g2]; exact va_assign hcls) rfl rfl hd fun H1 e1 z1 oq => ?_
  refine k H1 _ ls ?_ (by rw [z1, hz, List.length_set]) (hS.put z1 oq (Nat.le_add_right B qa)) hl
  rw [← mkW_set]
  refine hP.set (mkW_D B E) (mkW_at ha) ?_ oq
  show H1[B + qa]? = some (vp_cell _ _)
  rw [e1]
  rw [vp_cell_q, vp_cell_q, arrV_store]
  congr 2
  funext q
  by_cases hq : q = i.toNatClampNeg
  · subst hq
    simp [updV, va_up, va_rf]
  · simp [updV, va_up, hq]
theorem preE {A : List Value} {H : Heap} (C : Cx p s m args c cc nL own B D Y) (F : XE Y s) (hP : va_P D vwCl (mkW B E) H) (hz : H.size = B + E.length) : PreS s H (va_Pc A (InvE B D Y E)) A := ⟨fun a U g mk q => ⟨q.1, TB.same (u := U) (U := U.calling g mk a) rfl q.2.1, va_K.moved (u := U) (U := U.calling g mk a) (Vm.Alike.refl U.vm) q.2.2.1, q.2.2.2.1.moved (u := U) (U := U.calling g mk a) (Vm.Alike.refl U.vm), q.2.2.2.2.1.moved (u := U) (U := U.calling g mk a) (Vm.Alike.refl U.vm), q.2.2.2.2.2⟩, fun U hU hW => ⟨rfl, C.2.2.2.2.1.moved hW, va_K.moved hW.alike C.2.2.2.2.2.1, C.2.2.2.2.2.2.1.moved hW.alike, F.moved hW.alike, by rw [hU]; exact hP, by rw [hU]; exact hz⟩⟩
theorem runE {E' : List va_E} {mc ms : Nat} {a : Array Value} {st st0 : List Value} {H : Heap} {locs : List Loc} {ls : Array Slot} (hr : va_Run p l e R s m args below meth c H locs cells slots mc ms (F0 m pc ls st0) st (PE B D E' a) (fun q => B ≤ q)) (hS : va_S (fun q => B ≤ q) s.heap H locs) (hl : lv_has ls nL L) (k : AtE p l e R s m args below meth c nL (cells + mc) (slots + ms) Q B D E' (pc + 3) L st) : W p l e R s m args below meth c H locs cells slots Q (F0 m pc ls st0) := by
  intro T hT X
  obtain ⟨v2, st₀, t, T', L2, h0, X', hL, e1, e2, ⟨hv, hp, hz', hz, hk⟩, go⟩ := hr T hT X
  cases hv
  rw [h0] at hz hk
  obtain ⟨t2, a1, b1⟩ := k T'.heap (locs ++ L2) ls (by rw [e1]; exact hp) (by rw [e1]; exact hz') ⟨Nat.le_trans hS.1 (by rw [e1]; exact hz), fun q h1 h2 => by rw [e1, hk q (Nat.lt_of_lt_of_le h1 hS.1) h2]; exact hS.2.1 q h1 h2, fun q hq => by
      rcases List.mem_append.mp hq with hh | hh
      · exact hS.2.2 q hh
      · exact hL q hh⟩ hl T' rfl X'
  exact ⟨t2, go t2 a1, b1⟩
/-- a constructor is called -/
theorem X_init (C : Cx p s m args c cc nL own B D Y) (F : XE Y s) {y : MethodName} {cy : ByteArray} {nl idx q mc ms : Nat} {rm : Room} {E' : List va_E} (hli : LK own idx y) (hcy : CY y cy nl none 0) (hni : y.name = "<init>") (hins : Cond.instanceMethod y ∈ Tz) (hM : CI l y cy nl rm mc ms B D Y q E E') (hc : (rest.map fun v => v.category).sum ≤ 8) (hrm : rm.cells = mc ∧ rm.slots = ms ∧ rm.frames + 1 ≤ R.frames ∧ 8 + (nl + 11) + rm.locals ≤ R.locals) (hcs : cells + mc ≤ R.cells ∧ slots + ms ≤ R.slots) (hd : decode cc pc = .ok (.invokespecial idx, 3)) (k : AtE p l e R s m args below meth c nL (cells + mc) (slots + ms) Q B D E' (pc + 3) L rest) : AtE p l e R s m args below meth c nL cells slots Q B D E pc L (.ref (B + q) :: rest) := fun H locs ls hP hz hS hl => by
  have C0 := C
  obtain ⟨hco, hin, hy, hds⟩ := hcy
  have hlen : ∀ sig, parseMethodDescriptor y.desc = some sig → 0 = sig.parameters.length := fun sig hs => by rw [hs] at hds; exact (Option.some.inj hds).symm
  have hws : ∀ w ∈ [Cond.code y cy nl none], ∀ (a' : Array Value) (U : State), s.WarmedH U.vm → w.before a' U = true := fun w hw a' U hW => by
    rw [List.mem_singleton.mp hw]
    exact word_at hW (Or.inl code_ok) (C.2.2.2.2.1.use hco (A := args))
  have hpr := preE (A := [.ref (B + q)]) C F hP hz
  obtain ⟨c1, c2, c3, c4, c5, -⟩ := C0
  rcases hli with hli | ⟨z, hli⟩
  · exact runE (va_runI (As := []) (rest := rest) (Ts := Tz) (nL := nL) (n := 0) ⟨c1, c2, c3, c4, fun w hw => c5.use hw⟩ hM ⟨⟨hrm.1, hrm.2.1, hrm.2.2.1, hrm.2.2.2, hws, List.mem_cons_self, c5.use hco, c5.use hin, hy, hlen, c5.use hli⟩, hni, c5.use hins⟩ hpr rfl rfl hl.1 rfl (lv_room hc) hd hcs) hS hl k
  · exact runE (va_runIN (As := []) (rest := rest) (Ts := Tz) (nL := nL) (n := 0) ⟨c1, c2, c3, c4, fun w hw => c5.use hw⟩ hM ⟨⟨⟨hrm.1, hrm.2.1, hrm.2.2.1, hrm.2.2.2, hws, List.mem_cons_self⟩, c5.use hco, c5.use hin, hy, hlen, c5.use hli⟩, hni, c5.use hins⟩ hpr rfl rfl hl.1 rfl (lv_room hc) hd hcs) hS hl k
theorem X_ret {mc ms : Nat} (C : Cx p s m args c cc nL own B D Y) (hr : meth.sig.returnType = none) (hk : meth.locks = false) (hcs : cells ≤ mc ∧ slots ≤ ms) (hd : decode cc pc = .ok (.return_, 1)) : AtE p l e R s m args below meth c nL cells slots (MQ below (PE B D E) args s mc ms (fun q => B ≤ q)) B D E pc L [] := fun H locs ls hP hz hS hl => by
  refine W.widen hcs.1 hcs.2 ?_
  exact W.vret C.1 C.2.1 hr (fun t ht _ => ⟨rfl, by rw [ht]; exact hP, by rw [ht]; exact hz, hS.F ht⟩) hS.2.2 hd hk
theorem X_widen {k n : Nat} (h1 : cells ≤ k) (h2 : slots ≤ n) (g : AtE p l e R s m args below meth c nL k n Q B D E pc L rest) : AtE p l e R s m args below meth c nL cells slots Q B D E pc L rest := fun H locs ls hP hz hS hl => W.widen h1 h2 (g H locs ls hP hz hS hl)
theorem X_eq {E' : List va_E} (h : E = E') (g : AtE p l e R s m args below meth c nL cells slots Q B D E' pc L rest) : AtE p l e R s m args below meth c nL cells slots Q B D E pc L rest := h ▸ g
end ATE
