/-! ===== methods that throw ===== -/
abbrev eI : String := "java/lang/IndexOutOfBoundsException"
abbrev eA : String := "java/lang/IllegalArgumentException"
abbrev eS : String := "java/lang/IllegalStateException"
def strL : List (Nat × String) := [(279, "no such order"), (291, "many is out of range"), (293, "value is out of range"), (75, "there are 9 things"), (284, "no such thing"), (289, "no set of its things"), (295, "no such row"), (300, "more than 9 things"), (201, "no such place"), (218, "no such way"), (238, "no row of the order")]
def SR (U : State) : Prop := ∀ q ∈ strL, ∃ a, vk_R RX6 q.1 q.2 a U
def ncL : List (String × String) := [(eA, eI), (eS, eI), (eI, eA), (eS, eA), (eI, eS), (eA, eS)]
def NC (U : State) : Prop := ∀ q ∈ ncL, va_Nc q.1 q.2 U
/-- what a throw wants of a state beside the tables -/
def XI (B : Nat) (U : State) : Prop := SR U ∧ NC U ∧ vx_Zq Bundle.tN "UNASSIGNED_STACK" Bundle.steD (fun q => B ≤ q) U U.heap ∧ vx_Zq Bundle.tN "SUPPRESSED_SENTINEL" Bundle.listD (fun q => B ≤ q) U U.heap
def InvX (B : Nat) (D : va_G) (Y : Nat → ClassId) (M : Mem) (o : Ou) (U : State) : Prop := Inv B D Y M o U ∧ XI B U
theorem XI.go {B : Nat} {s U : State} {H : Heap} {locs : List Loc} (h : XI B s) (hS : va_S (fun q => B ≤ q) s.heap H locs) (hU : U.heap = H) (hW : s.WarmedH U.vm) : XI B U := by
  obtain ⟨h1, h2, h3, h4⟩ := h
  refine ⟨fun q hq => ?_, fun q hq => (h2 q hq).moved hW.alike, ?_, ?_⟩
  · obtain ⟨a, ha⟩ := h1 q hq
    exact ⟨a, ha.warm hW⟩
  · rw [hU]
    exact vx_Zq.moved hW.alike (h3.kept hS.2.1)
  · rw [hU]
    exact vx_Zq.moved hW.alike (h4.kept hS.2.1)
theorem XI.calling {B : Nat} {U : State} {g : JFrame} {mk : MethodId} {a : Array Value} (h : XI B U) : XI B (U.calling g mk a) := by
  obtain ⟨h1, h2, h3, h4⟩ := h
  refine ⟨fun q hq => ?_, fun q hq => (h2 q hq).moved (u := U) (U := U.calling g mk a) (Vm.Alike.refl U.vm), ?_, ?_⟩
  · obtain ⟨b, hb⟩ := h1 q hq
    exact ⟨b, vk_R.same (u := U) (U := U.calling g mk a) rfl hb⟩
  · exact vx_Zq.moved (u := U) (U := U.calling g mk a) (Vm.Alike.refl U.vm) h3
  · exact vx_Zq.moved (u := U) (U := U.calling g mk a) (Vm.Alike.refl U.vm) h4
def QX {T : Type} (B : Nat) (D : va_G) (Y : Nat → ClassId) (o : Ou) (tv : T → Option Value) (r : (String ⊕ T) × Mem) : Array Value → State → Outcome → State → Prop := fun a st oc t => ∃ v, r.1 = .inr v ∧ PQ B D Y r.2 o (tv v) a st oc t
def XX {T : Type} (B : Nat) (D : va_G) (Y : Nat → ClassId) (o : Ou) (r : (String ⊕ T) × Mem) : String → State → State → Prop := fun E st t => r.1 = .inl E ∧ va_P D vwCl (WL B Y r.2 o) t.heap ∧ va_F (fun q => B ≤ q) st t
abbrev XW {T : Type} (l : Launch) (y : MethodName) (cc : ByteArray) (nL : Nat) (ret : Option FieldType) (rm : Room) (mc ms : Nat) (B : Nat) (D : va_G) (Y : Nat → ClassId) (o : Ou) (A : List Value) (M : Mem) (tv : T → Option Value) (r : (String ⊕ T) × Mem) : Prop :=
  vx_Met l y [Cond.code y cc nL ret] rm (va_Pc A (InvX B D Y M o)) (QX B D Y o tv r) (XX B D Y o r) mc ms (fun q => B ≤ q)
abbrev XQ {T : Type} (below : List Frame) (args : Array Value) (s : State) (B : Nat) (D : va_G) (Y : Nat → ClassId) (o : Ou) (mc ms : Nat) (tv : T → Option Value) (r : (String ⊕ T) × Mem) : State → Prop := vx_MQ below (QX B D Y o tv r) (XX B D Y o r) args s mc ms (fun q => B ≤ q)
def cx {α β : Type} (z : (String ⊕ α) × Mem) (g : α → Mem → Option ((String ⊕ β) × Mem)) : Option ((String ⊕ β) × Mem) := match z.1 with
  | .inl E => some (.inl E, z.2)
  | .inr a => g a z.2
abbrev tvI : Int32 → Option Value := fun x => some (.int x)
abbrev tvD : UInt64 → Option Value := fun x => some (.double x)
abbrev tvF : UInt32 → Option Value := fun x => some (.float x)
abbrev tvU : Unit → Option Value := fun _ => none
abbrev tvR (B : Nat) : Nat → Option Value := fun q => some (.ref (B + q))
section ATX
variable {p : Program} {l : Launch} {e : Env} {R : Room} {s : State} {m : MethodId} {args : Array Value} {below : List Frame} {meth : Method} {c : Code} {nL cells slots : Nat} {Q : State → Prop} {B : Nat} {D : va_G} {Y : Nat → ClassId} {o : Ou} {pc : Nat} {M : Mem} {L L' : List (Nat × Value)} {rest : List Value} {cc : ByteArray} {own : String} {mc ms : Nat}
theorem ofAtX {y : MethodName} {ret : Option FieldType} {rm : Room} {A : List Value} {Qc : Array Value → State → Outcome → State → Prop} {XC : String → State → State → Prop} {L0 : List (Nat × Value)} (hy : plainName y.cls = true) (hA : (lg_sl A).length ≤ nL) (hL : lv_args 0 A = L0)
    (body : ∀ (p : Program) (e : Env) (s : State) (m : MethodId) (args : Array Value) (below : List Frame) (meth : Method) (c : Code), Cx p s m args c cc nL y.cls B D Y → XI B s → meth.sig.returnType = ret → meth.locks = false → (∀ x ∈ c.exceptionTable.toList, False) → At p l e rm s m args below meth c nL 0 0 (vx_MQ below Qc XC args s mc ms (fun q => B ≤ q)) B D Y o 0 M L0 []) :
    vx_Met l y [Cond.code y cc nL ret] rm (va_Pc A (InvX B D Y M o)) Qc XC mc ms (fun q => B ≤ q) := by
  refine vx_ofW (cc := cc) (maxL := nL) (ret := ret) hy rfl ?_
  intro p e s m args below meth c s₁ B0 hml ht hv
  obtain ⟨rfl, ⟨hT, hK, hY, hP⟩, hX⟩ := hv
  have hown : s.vm.findClass y.cls = some m.cls := findClass_of_methodNamed B0.named
  have hB := hP.hi
  have hl := lv_entry A (n := nL) hA
  rw [lg_entry_eq]
  exact body p e s m _ below meth c ⟨B0.exec, B0.bytes, hml, hown, hT, hK, hY, by omega⟩ hX B0.returns B0.notSynchronized ht s.heap [] _ hP va_S.rf (hL ▸ hl)
theorem preX {M0 : Mem} {A : List Value} {H : Heap} {locs : List Loc} (C : Cx p s m args c cc nL own B D Y) (hX : XI B s) (hS : va_S (fun q => B ≤ q) s.heap H locs) (hP : va_P D vwCl (WL B Y M0 o) H) : PreS s H (va_Pc A (InvX B D Y M0 o)) A := ⟨fun a U g mk q => ⟨q.1, ⟨TB.same (u := U) (U := U.calling g mk a) rfl q.2.1.1, va_K.moved (u := U) (U := U.calling g mk a) (Vm.Alike.refl U.vm) q.2.1.2.1, q.2.1.2.2.1.moved (u := U) (U := U.calling g mk a) (Vm.Alike.refl U.vm), q.2.1.2.2.2⟩, q.2.2.calling⟩, fun U hU hW => ⟨rfl, ⟨C.2.2.2.2.1.moved hW, va_K.moved hW.alike C.2.2.2.2.2.1, C.2.2.2.2.2.2.1.moved hW.alike, by rw [hU]; exact hP⟩, hX.go hS hU hW⟩⟩
/-- behind a call of a method that may throw, in a method that has no handler -/
theorem runX {α β : Type} {mcc msc : Nat} {tv : α → Option Value} {tv2 : β → Option Value} {z : (String ⊕ α) × Mem} {r : (String ⊕ β) × Mem} {g : α → Mem → Option ((String ⊕ β) × Mem)} {a : Array Value} {st st0 : List Value} {H : Heap} {locs : List Loc} {ls : Array Slot} (hk : meth.locks = false) (hout : ∀ x ∈ c.exceptionTable.toList, False) (hr : vx_Run p l e R s m args below meth c H locs cells slots mcc msc (F0 m pc ls st0) st (QX B D Y o tv z a) (XX B D Y o z) (fun q => B ≤ q)) (hS : va_S (fun q => B ≤ q) s.heap H locs) (hl : lv_has ls nL L) (hwi : cells + mcc ≤ mc ∧ slots + msc ≤ ms) (hf : cx z g = some r)
    (k : ∀ v, z.1 = .inr v → g v z.2 = some r → At p l e R s m args below meth c nL (cells + mcc) (slots + msc) (XQ below args s B D Y o mc ms tv2 r) B D Y o (pc + 3) z.2 L ((tv v).toList ++ st)) : W p l e R s m args below meth c H locs cells slots (XQ below args s B D Y o mc ms tv2 r) (F0 m pc ls st0) := by
  intro T hT X
  rcases hr T hT X with ⟨v, st₀, t, T', L2, h0, X', hL, e1, e2, ⟨w, hw, hv, hp, hz, hk2⟩, go⟩ | ⟨q, st₀, t, T', L2, E, ce, h0, X', hL, e1, e2, ⟨hw, hp, hz, hk2⟩, hce, hcv, hcl, go⟩
  · cases hv
    rw [h0] at hz hk2
    have hf2 : g w z.2 = some r := by
      have h := hf
      unfold cx at h
      rw [hw] at h
      exact h
    obtain ⟨t2, a1, b1⟩ := k w hw hf2 T'.heap (locs ++ L2) ls (by rw [e1]; exact hp) ⟨Nat.le_trans hS.1 (by rw [e1]; exact hz), fun q h1 h2 => by rw [e1, hk2 q (Nat.lt_of_lt_of_le h1 hS.1) h2]; exact hS.2.1 q h1 h2, fun q hq => by
        rcases List.mem_append.mp hq with hh | hh
        · exact hS.2.2 q hh
        · exact hL q hh⟩ hl T' rfl X'
    exact ⟨t2, go t2 a1, b1⟩
  · rw [h0] at hz hk2
    have hr2 : r = (.inl E, z.2) := by
      have h := hf
      unfold cx at h
      rw [hw] at h
      exact (Option.some.inj h).symm
    have hS2 : va_S (fun q => B ≤ q) s.heap T'.heap (locs ++ L2) := ⟨Nat.le_trans hS.1 (by rw [e1]; exact hz), fun q h1 h2 => by rw [e1, hk2 q (Nat.lt_of_lt_of_le h1 hS.1) h2]; exact hS.2.1 q h1 h2, fun q hq => by
        rcases List.mem_append.mp hq with hh | hh
        · exact hS.2.2 q hh
        · exact hL q hh⟩
    obtain ⟨t2, a1, b1⟩ := vx_out (p := p) (l := l) (e := e) (R := R) (s := s) (m := m) (args := args) (below := below) (meth := meth) (c := c) (H := T'.heap) (locs := locs ++ L2) (cells := cells + mcc) (slots := slots + msc) (free := fun q => B ≤ q) (ls := ls) (rest := st) (Qc := QX B D Y o tv2 r) (XC := XX B D Y o r) (pc := pc) (E := E) (ce := ce) (q := q) (mc := mc) (ms := ms) (fun x hx => (hout x hx).elim) hk (by rw [e1]; exact hce) hcv hcl (fun t3 ht3 _ => ⟨by rw [hr2], by rw [hr2, ht3, e1]; exact hp, hS2.F ht3⟩) hS2.2.2 hwi.1 hwi.2 T' rfl X'
    exact ⟨t2, go.trans a1, b1⟩
theorem X_callS {α β : Type} (C : Cx p s m args c cc nL own B D Y) (hX : XI B s) (hk : meth.locks = false) (hout : ∀ x ∈ c.exceptionTable.toList, False) {y : MethodName} {cy : ByteArray} {nl idx n mcc msc : Nat} {ret : Option FieldType} {rm : Room} {tv : α → Option Value} {tv2 : β → Option Value} {z : (String ⊕ α) × Mem} {r : (String ⊕ β) × Mem} {g : α → Mem → Option ((String ⊕ β) × Mem)} {A st0 : List Value} (hli : Cond.methodLink own idx y ∈ Tz) (hcy : CY y cy nl ret n) (hsta : Cond.static y ∈ Tz) (hM : XW l y cy nl ret rm mcc msc B D Y o A M tv z) (hn : A.length = n) (hst : st0 = A.reverse ++ rest) (hc : (rest.map fun v => v.category).sum ≤ 8) (hrm : rm.cells = mcc ∧ rm.slots = msc ∧ rm.frames + 1 ≤ R.frames ∧ 8 + (nl + 11) + rm.locals ≤ R.locals) (hcs : cells + mcc ≤ R.cells ∧ slots + msc ≤ R.slots) (hwi : cells + mcc ≤ mc ∧ slots + msc ≤ ms) (hd : decode cc pc = .ok (.invokestatic idx, 3)) (hf : cx z g = some r)
    (k : ∀ v, z.1 = .inr v → g v z.2 = some r → At p l e R s m args below meth c nL (cells + mcc) (slots + msc) (XQ below args s B D Y o mc ms tv2 r) B D Y o (pc + 3) z.2 L ((tv v).toList ++ rest)) : At p l e R s m args below meth c nL cells slots (XQ below args s B D Y o mc ms tv2 r) B D Y o pc M L st0 := fun H locs ls hP hS hl => by
  have C0 := C
  obtain ⟨hco, hin, hy, hds⟩ := hcy
  have hlen : ∀ sig, parseMethodDescriptor y.desc = some sig → n = sig.parameters.length := fun sig hs => by rw [hs] at hds; exact (Option.some.inj hds).symm
  have hws : ∀ w ∈ [Cond.code y cy nl ret], ∀ (a' : Array Value) (U : State), s.WarmedH U.vm → w.before a' U = true := fun w hw a' U hW => by
    rw [List.mem_singleton.mp hw]
    exact word_at hW (Or.inl code_ok) (C.2.2.2.2.1.use hco (A := args))
  obtain ⟨c1, c2, c3, c4, c5, -⟩ := C0
  exact runX (tv2 := tv2) hk hout (vx_runS (As := A) (rest := rest) (Ts := Tz) (nL := nL) (n := n) ⟨c1, c2, c3, c4, fun w hw => c5.use hw⟩ hM ⟨⟨hrm.1, hrm.2.1, hrm.2.2.1, hrm.2.2.2, hws, List.mem_cons_self, c5.use hco, c5.use hin, hy, hlen, c5.use hli⟩, c5.use hsta⟩ (preX C hX hS hP) rfl hn hl.1 hst (lv_room hc) hd hcs) hS hl hwi hf k
theorem X_callV {α β : Type} (C : Cx p s m args c cc nL own B D Y) (hX : XI B s) (hk : meth.locks = false) (hout : ∀ x ∈ c.exceptionTable.toList, False) {y : MethodName} {cy : ByteArray} {nl idx n mcc msc q ci N : Nat} {fs : List Value} {T0 : u_T} {ret : Option FieldType} {rm : Room} {tv : α → Option Value} {tv2 : β → Option Value} {z : (String ⊕ α) × Mem} {r : (String ⊕ β) × Mem} {g : α → Mem → Option ((String ⊕ β) × Mem)} {A st0 : List Value} (hli : Cond.methodLink own idx y ∈ Tz) (hcy : CY y cy nl ret n) (hcv : CYv y) (hM : XW l y cy nl ret rm mcc msc B D Y o (.ref (B + q) :: A) M tv z) (hq : q < 112) (he : ent B Y M o q = .inr (ci, fs)) (hcl : vwCl[ci]? = some (y.cls, T0, N)) (hn : A.length = n) (hst : st0 = A.reverse ++ .ref (B + q) :: rest) (hc : (rest.map fun v => v.category).sum ≤ 8) (hrm : rm.cells = mcc ∧ rm.slots = msc ∧ rm.frames + 1 ≤ R.frames ∧ 8 + (nl + 11) + rm.locals ≤ R.locals) (hcs : cells + mcc ≤ R.cells ∧ slots + msc ≤ R.slots) (hwi : cells + mcc ≤ mc ∧ slots + msc ≤ ms) (hd : decode cc pc = .ok (.invokevirtual idx, 3)) (hf : cx z g = some r)
    (k : ∀ v, z.1 = .inr v → g v z.2 = some r → At p l e R s m args below meth c nL (cells + mcc) (slots + msc) (XQ below args s B D Y o mc ms tv2 r) B D Y o (pc + 3) z.2 L ((tv v).toList ++ rest)) : At p l e R s m args below meth c nL cells slots (XQ below args s B D Y o mc ms tv2 r) B D Y o pc M L st0 := fun H locs ls hP hS hl => by
  have C0 := C
  obtain ⟨hco, hin, hy, hds⟩ := hcy
  obtain ⟨hins, hsel⟩ := hcv
  have hlen : ∀ sig, parseMethodDescriptor y.desc = some sig → n = sig.parameters.length := fun sig hs => by rw [hs] at hds; exact (Option.some.inj hds).symm
  have hws : ∀ w ∈ [Cond.code y cy nl ret], ∀ (a' : Array Value) (U : State), s.WarmedH U.vm → w.before a' U = true := fun w hw a' U hW => by
    rw [List.mem_singleton.mp hw]
    exact word_at hW (Or.inl code_ok) (C.2.2.2.2.1.use hco (A := args))
  have hre := recvOK C hP hq he hcl
  have hpr := preX (A := .ref (B + q) :: A) C hX hS hP
  obtain ⟨c1, c2, c3, c4, c5, -⟩ := C0
  exact runX (tv2 := tv2) hk hout (vx_runV (As := A) (rest := rest) (Ts := Tz) (nL := nL) (n := n) (C := y.cls) ⟨c1, c2, c3, c4, fun w hw => c5.use hw⟩ hM ⟨⟨hrm.1, hrm.2.1, hrm.2.2.1, hrm.2.2.2, hws, List.mem_cons_self, c5.use hco, c5.use hin, hy, hlen, c5.use hli⟩, c5.use hins, c5.use hsel⟩ ⟨hpr.1, hre, hpr.2⟩ rfl hn hl.1 hst (lv_room hc) hd hcs) hS hl hwi hf k
/-! ends -/
theorem X_ri (C : Cx p s m args c cc nL own B D Y) {v : Int32} {r : (String ⊕ Int32) × Mem} {ty : FieldType} (hr : meth.sig.returnType = some ty) (hk : meth.locks = false) (hn : narrow ty (.int v) = .int v) (hwi : cells ≤ mc ∧ slots ≤ ms) (hd : decode cc pc = .ok (.ireturn, 1)) (hf : some (.inr v, M) = some r) : At p l e R s m args below meth c nL cells slots (XQ below args s B D Y o mc ms tvI r) B D Y o pc M L [.int v] := fun H locs ls hP hS hl => by
  cases hf
  exact W.widen hwi.1 hwi.2 (vx_ret (W.zret C.1 C.2.1 hr hn (fun t ht _ => ⟨v, rfl, rfl, by rw [ht]; exact hP, hS.F ht⟩) hS.2.2 hd hk))
theorem X_rv (C : Cx p s m args c cc nL own B D Y) {r : (String ⊕ Unit) × Mem} (hr : meth.sig.returnType = none) (hk : meth.locks = false) (hwi : cells ≤ mc ∧ slots ≤ ms) (hd : decode cc pc = .ok (.return_, 1)) (hf : some (.inr (), M) = some r) : At p l e R s m args below meth c nL cells slots (XQ below args s B D Y o mc ms tvU r) B D Y o pc M L [] := fun H locs ls hP hS hl => by
  cases hf
  exact W.widen hwi.1 hwi.2 (vx_ret (W.vret C.1 C.2.1 hr (fun t ht _ => ⟨(), rfl, rfl, by rw [ht]; exact hP, hS.F ht⟩) hS.2.2 hd hk))
theorem X_rd (C : Cx p s m args c cc nL own B D Y) {v : UInt64} {r : (String ⊕ UInt64) × Mem} (hr : meth.sig.returnType = some .double) (hk : meth.locks = false) (hwi : cells ≤ mc ∧ slots ≤ ms) (hd : decode cc pc = .ok (.dreturn, 1)) (hf : some (.inr v, M) = some r) : At p l e R s m args below meth c nL cells slots (XQ below args s B D Y o mc ms tvD r) B D Y o pc M L [.double v] := fun H locs ls hP hS hl => by
  cases hf
  exact W.widen hwi.1 hwi.2 (vx_ret (W.dret C.1 C.2.1 hr (fun t ht _ => ⟨v, rfl, rfl, by rw [ht]; exact hP, hS.F ht⟩) hS.2.2 hd hk))
theorem X_rf (C : Cx p s m args c cc nL own B D Y) {v : UInt32} {r : (String ⊕ UInt32) × Mem} (hr : meth.sig.returnType = some .float) (hk : meth.locks = false) (hwi : cells ≤ mc ∧ slots ≤ ms) (hd : decode cc pc = .ok (.freturn, 1)) (hf : some (.inr v, M) = some r) : At p l e R s m args below meth c nL cells slots (XQ below args s B D Y o mc ms tvF r) B D Y o pc M L [.float v] := fun H locs ls hP hS hl => by
  cases hf
  exact W.widen hwi.1 hwi.2 (vx_ret (W.fret C.1 C.2.1 hr (fun t ht _ => ⟨v, rfl, rfl, by rw [ht]; exact hP, hS.F ht⟩) hS.2.2 hd hk))
theorem X_ra (C : Cx p s m args c cc nL own B D Y) {v : Nat} {r : (String ⊕ Nat) × Mem} {rt : FieldType} (hr : meth.sig.returnType = some rt) (hrt : (∃ n, rt = .object n) ∨ ∃ t, rt = .array t) (hk : meth.locks = false) (hwi : cells ≤ mc ∧ slots ≤ ms) (hd : decode cc pc = .ok (.areturn, 1)) (hf : some (.inr v, M) = some r) : At p l e R s m args below meth c nL cells slots (XQ below args s B D Y o mc ms (tvR B) r) B D Y o pc M L [.ref (B + v)] := fun H locs ls hP hS hl => by
  cases hf
  exact W.widen hwi.1 hwi.2 (vx_ret (W.aret C.1 C.2.1 hr hrt (Or.inr ⟨_, rfl⟩) (fun t ht _ => ⟨v, rfl, rfl, by rw [ht]; exact hP, hS.F ht⟩) hS.2.2 hd hk))
/-- the words of a throw of class E -/
def TH (own : String) (ik ic : Nat) (E : String) : Prop := Bundle.fit E = true ∧ Cond.classLink own ik E ∈ Tz ∧ Cond.initialized E ∈ Tz ∧ (∀ w ∈ vx_atS own ic E ["java/lang/RuntimeException", "java/lang/Exception"], w ∈ Tz) ∧ (∀ w ∈ Cond.classLink own ik E :: Cond.initialized E :: vx_atS own ic E ["java/lang/RuntimeException", "java/lang/Exception"], vx_ot w = true)
theorem fitL : ∀ n ∈ ["java/lang/RuntimeException", "java/lang/Exception"], Bundle.fit n = true := by decide +kernel
theorem X_thr {α : Type} {tv : α → Option Value} (C : Cx p s m args c cc nL RX6 B D Y) (hX : XI B s) (hl9 : l.stackTraces = false) (hk : meth.locks = false) (hout : ∀ x ∈ c.exceptionTable.toList, False) {r : (String ⊕ α) × Mem} {E text : String} {ik is ic : Nat} (ht : TH RX6 ik ic E) (hs : (is, text) ∈ strL) (d0 : decode cc pc = .ok (.new ik, 3)) (d3 : decode cc (pc + 3) = .ok (.dup, 1)) (d4 : decode cc (pc + 4) = .ok (.ldc is, 2)) (d6 : decode cc (pc + 6) = .ok (.invokespecial ic, 3)) (d9 : decode cc (pc + 9) = .ok (.athrow, 1)) (hfr : 5 < R.frames) (hlo : (rest.map fun v => v.category).sum + 82 ≤ R.locals) (hcs : cells + 1 ≤ R.cells ∧ slots + 6 ≤ R.slots) (hwi : cells + 1 ≤ mc ∧ slots + 6 ≤ ms) (hf : some (.inl E, M) = some r) : At p l e R s m args below meth c nL cells slots (XQ below args s B D Y o mc ms tv r) B D Y o pc M L rest := fun H locs ls hP hS hl => by
  cases hf
  obtain ⟨t1, t2, t3, t4, t5⟩ := ht
  obtain ⟨sa, hsa⟩ := hX.1 _ hs
  exact vx_throwS C.1 C.2.1 hl9 C.2.2.2.1 t1 fitL (C.2.2.2.2.1.use t2) (C.2.2.2.2.1.use t3) hsa (fun w hw => C.2.2.2.2.1.use (t4 w hw)) t5 hX.2.2.1 hX.2.2.2 hS (hl.1.trans C.2.2.1.symm) d0 d3 d4 d6 d9 (fun x hx => (hout x hx).elim) hfr hlo hcs.1 hcs.2 hk (fun t ha hz hq => ⟨rfl, hP.kept (fun k q hq2 => hq q.1 ((hP k q hq2).lt)), ⟨Nat.le_trans hS.1 hz, fun q h1 h2 => by rw [hq q (Nat.lt_of_lt_of_le h1 hS.1)]; exact hS.2.1 q h1 h2⟩⟩) hS.2.2 hwi.1 hwi.2
theorem X_thrW {α : Type} {tv : α → Option Value} (C : Cx p s m args c cc nL RX6 B D Y) (hX : XI B s) (hl9 : l.stackTraces = false) (hk : meth.locks = false) (hout : ∀ x ∈ c.exceptionTable.toList, False) {r : (String ⊕ α) × Mem} {E text : String} {ik is ic : Nat} (ht : TH RX6 ik ic E) (hs : (is, text) ∈ strL) (d0 : decode cc pc = .ok (.new ik, 3)) (d3 : decode cc (pc + 3) = .ok (.dup, 1)) (d4 : decode cc (pc + 4) = .ok (.ldc_w is, 3)) (d7 : decode cc (pc + 7) = .ok (.invokespecial ic, 3)) (d10 : decode cc (pc + 10) = .ok (.athrow, 1)) (hfr : 5 < R.frames) (hlo : (rest.map fun v => v.category).sum + 82 ≤ R.locals) (hcs : cells + 1 ≤ R.cells ∧ slots + 6 ≤ R.slots) (hwi : cells + 1 ≤ mc ∧ slots + 6 ≤ ms) (hf : some (.inl E, M) = some r) : At p l e R s m args below meth c nL cells slots (XQ below args s B D Y o mc ms tv r) B D Y o pc M L rest := fun H locs ls hP hS hl => by
  cases hf
  obtain ⟨t1, t2, t3, t4, t5⟩ := ht
  obtain ⟨sa, hsa⟩ := hX.1 _ hs
  exact vx_throwSW C.1 C.2.1 hl9 C.2.2.2.1 t1 fitL (C.2.2.2.2.1.use t2) (C.2.2.2.2.1.use t3) hsa (fun w hw => C.2.2.2.2.1.use (t4 w hw)) t5 hX.2.2.1 hX.2.2.2 hS (hl.1.trans C.2.2.1.symm) d0 d3 d4 d7 d10 (fun x hx => (hout x hx).elim) hfr hlo hcs.1 hcs.2 hk (fun t ha hz hq => ⟨rfl, hP.kept (fun k q hq2 => hq q.1 ((hP k q hq2).lt)), ⟨Nat.le_trans hS.1 hz, fun q h1 h2 => by rw [hq q (Nat.lt_of_lt_of_le h1 hS.1)]; exact hS.2.1 q h1 h2⟩⟩) hS.2.2 hwi.1 hwi.2
theorem A_tsI (C : Cx p s m args c cc nL own B D Y) {dflt lo hi : Int} {offs : Array Int} {len : Nat} {x : Int32} {off : Int} (tgt : Nat) (hd : decode cc pc = .ok (.tableswitch dflt lo hi offs, len)) (h1 : ¬ x.toInt < lo) (h2 : ¬ hi < x.toInt) (ho : offs[(x.toInt - lo).toNat]? = some off) (ht : (pc : Int) + off = (tgt : Int)) (k : At p l e R s m args below meth c nL cells slots Q B D Y o tgt M L rest) : At p l e R s m args below meth c nL cells slots Q B D Y o pc M L (.int x :: rest) := fun H locs ls hP hS hl => lv_tableIn C.1 C.2.1 hd h1 h2 ho ht (k H locs ls hP hS hl)
theorem A_tsO (C : Cx p s m args c cc nL own B D Y) {dflt lo hi : Int} {offs : Array Int} {len : Nat} {x : Int32} (tgt : Nat) (hd : decode cc pc = .ok (.tableswitch dflt lo hi offs, len)) (h : x.toInt < lo ∨ hi < x.toInt) (ht : (pc : Int) + dflt = (tgt : Int)) (k : At p l e R s m args below meth c nL cells slots Q B D Y o tgt M L rest) : At p l e R s m args below meth c nL cells slots Q B D Y o pc M L (.int x :: rest) := fun H locs ls hP hS hl => lv_tableOut C.1 C.2.1 hd h ht (k H locs ls hP hS hl)
theorem A_tsN (C : Cx p s m args c cc nL own B D Y) {dflt lo hi : Int} {offs : Array Int} {len : Nat} {x : Int32} (tgt : Nat) (hd : decode cc pc = .ok (.tableswitch dflt lo hi offs, len)) (h : (x.toInt < lo ∨ hi < x.toInt) ∨ (¬ x.toInt < lo ∧ ¬ hi < x.toInt ∧ offs[(x.toInt - lo).toNat]? = some dflt)) (ht : (pc : Int) + dflt = (tgt : Int)) (k : At p l e R s m args below meth c nL cells slots Q B D Y o tgt M L rest) : At p l e R s m args below meth c nL cells slots Q B D Y o pc M L (.int x :: rest) := by
  rcases h with h | ⟨h1, h2, h3⟩
  · exact A_tsO C tgt hd h ht k
  · exact A_tsI C tgt hd h1 h2 h3 ht k
end ATX
theorem ts_near {x : Int32} (h99 : ¬ x = 99) (h102 : ¬ x = 102) (h104 : ¬ x = 104) (h108 : ¬ x = 108) : (x.toInt < 99 ∨ 108 < x.toInt) ∨ (¬ x.toInt < 99 ∧ ¬ 108 < x.toInt ∧ (#[82, 109, 109, 62, 109, 102, 109, 109, 109, 55] : Array Int)[(x.toInt - 99).toNat]? = some 109) := by
  have n99 : x.toInt ≠ 99 := fun h => h99 (Int32.toInt_inj.mp h)
  have n102 : x.toInt ≠ 102 := fun h => h102 (Int32.toInt_inj.mp h)
  have n104 : x.toInt ≠ 104 := fun h => h104 (Int32.toInt_inj.mp h)
  have n108 : x.toInt ≠ 108 := fun h => h108 (Int32.toInt_inj.mp h)
  by_cases h1 : x.toInt < 99
  · exact Or.inl (Or.inl h1)
  · by_cases h2 : 108 < x.toInt
    · exact Or.inl (Or.inr h2)
    · refine Or.inr ⟨h1, h2, ?_⟩
      have : (x.toInt - 99).toNat = 1 ∨ (x.toInt - 99).toNat = 2 ∨ (x.toInt - 99).toNat = 4 ∨ (x.toInt - 99).toNat = 6 ∨ (x.toInt - 99).toNat = 7 ∨ (x.toInt - 99).toNat = 8 := by omega
      rcases this with e | e | e | e | e | e <;> rw [e] <;> rfl
