/-! ===== the law's own methods: a call in a try ===== -/
def lx {α R : Type} (z : (String ⊕ α) × Mem) (K : String → Option R) (g : α → Option R) : Option R := match z.1 with
  | .inl E => K E
  | .inr a => g a
def oo (o : Ou) : Option Int64 → Ou
  | none => o
  | some v => (vp_updL o.1 0 v, o.2)
def updDd (f : Nat → UInt64) (k : Nat) (x : UInt64) : Nat → UInt64 := fun j => if j = k then x else f j
def od (o : Ou) : Option UInt64 → Ou
  | none => o
  | some v => (o.1, updDd o.2 0 v)
theorem kE_I : Cond.castable eI eI ∈ Tz := Tz_mem (tz1 (List.mem_of_getElem? (i := 235) rfl)) rfl
theorem kE_A : Cond.castable eA eA ∈ Tz := Tz_mem (tz2 (List.mem_of_getElem? (i := 66) rfl)) rfl
theorem kE_S : Cond.castable eS eS ∈ Tz := Tz_mem (tz2 (List.mem_of_getElem? (i := 113) rfl)) rfl
theorem kL_I : Cond.classLink RL 13 eI ∈ Tz := Tz_mem (tz1 (List.mem_of_getElem? (i := 223) rfl)) rfl
theorem kL_A : Cond.classLink RL 15 eA ∈ Tz := Tz_mem (tz1 (List.mem_of_getElem? (i := 224) rfl)) rfl
theorem kL_S : Cond.classLink RL 23 eS ∈ Tz := Tz_mem (tz2 (List.mem_of_getElem? (i := 102) rfl)) rfl
section ATL
variable {p : Program} {l : Launch} {e : Env} {R : Room} {s : State} {m : MethodId} {args : Array Value} {below : List Frame} {meth : Method} {c : Code} {nL cells slots : Nat} {Q : State → Prop} {B : Nat} {D : va_G} {Y : Nat → ClassId} {o : Ou} {pc : Nat} {M : Mem} {L L' : List (Nat × Value)} {rest : List Value} {cc : ByteArray} {own : String} {mc ms : Nat} {hh : List (Nat × Nat × Nat × Nat)}
theorem ofAtL {y : MethodName} {ret : Option FieldType} {rm : Room} {A : List Value} {Qc : Array Value → State → Outcome → State → Prop} {L0 : List (Nat × Value)} (hy : plainName y.cls = true) (hA : (lg_sl A).length ≤ nL) (hL : lv_args 0 A = L0)
    (body : ∀ (p : Program) (e : Env) (s : State) (m : MethodId) (args : Array Value) (below : List Frame) (meth : Method) (c : Code), Cx p s m args c cc nL y.cls B D Y → XI B s → meth.sig.returnType = ret → meth.locks = false → c.exceptionTable.toList = tableOf hh → At p l e rm s m args below meth c nL 0 0 (MQ below Qc args s mc ms (fun q => B ≤ q)) B D Y o 0 M L0 []) :
    Met l y [Cond.codeWith y cc nL ret hh] rm (va_Pc A (InvX B D Y M o)) Qc mc ms (fun q => B ≤ q) := by
  refine MetFree.of_bodyS (code := cc) (maxLocals := nL) (ret := ret) hy ?_ ?_
  · intro args s m h hn
    obtain ⟨m9, meth, c, hn9, h1, h2, h3, h4, -, h5, h6, -⟩ := Cond.codeWith_spec (atoms_spec (ws := [Cond.codeWith y cc nL ret hh]) h _ List.mem_cons_self)
    cases hn.symm.trans hn9
    exact ⟨meth, c, h1, h2, h3, h4, h5, h6⟩
  · intro p e s m args below meth c s₁ B0 hml hv _
    obtain ⟨rfl, ⟨hT, hK, hY, hP⟩, hX⟩ := hv
    have hh0 : s₁.heap = s.heap := by rw [B0.state]; rfl
    have hown : s.vm.findClass y.cls = some m.cls := findClass_of_methodNamed B0.named
    have hB := hP.hi
    have htb := vx_table (x := y) B0 (atoms_spec (ws := [Cond.codeWith y cc nL ret hh]) B0.pre _ List.mem_cons_self)
    have hl := lv_entry A (n := nL) hA
    have K : W p l e rm s m A.toArray below meth c s.heap [] 0 0 (MQ below Qc A.toArray s mc ms (fun q => B ≤ q)) (entryFrame m A.toArray nL) := by
      rw [lg_entry_eq]
      exact body p e s m _ below meth c ⟨B0.exec, B0.bytes, hml, hown, hT, hK, hY, by omega⟩ hX B0.returns B0.notSynchronized htb s.heap [] _ hP va_S.rf (hL ▸ hl)
    obtain ⟨t, a1, o1, b1, b2, b3⟩ := K s₁ hh0 (Stand.of_body B0)
    exact ⟨t, o1, a1, b1, b2, ⟨b3.1, b3.2⟩⟩
/-- where an exception of class E goes -/
def Hd (c : Code) (args : Array Value) (s : State) (own : String) (pc : Nat) (E : String) (G : Nat → Prop) : Prop :=
  ∃ (pre : List ExceptionTableEntry) (x : ExceptionTableEntry) (suf : List ExceptionTableEntry) (nm : String), c.exceptionTable.toList = pre ++ x :: suf ∧ (∀ z ∈ pre, covers z pc = false ∨ (z.catchType ≠ 0 ∧ ∃ nm : String, Cond.classLink own z.catchType nm ∈ Tz ∧ va_Nc E nm s)) ∧ covers x pc = true ∧ x.catchType ≠ 0 ∧ Cond.classLink own x.catchType nm ∈ Tz ∧ Cond.castable E nm ∈ Tz ∧ G x.handlerPc
theorem L_callV {α R0 : Type} (C : Cx p s m args c cc nL own B D Y) (hX : XI B s) {y : MethodName} {cy : ByteArray} {nl idx n mcc msc q ci N : Nat} {fs : List Value} {T0 : u_T} {ret : Option FieldType} {rm : Room} {tv : α → Option Value} {z : (String ⊕ α) × Mem} {r : R0} {K : String → Option R0} {g : α → Option R0} {A st0 : List Value} (hli : Cond.methodLink own idx y ∈ Tz) (hcy : CY y cy nl ret n) (hcv : CYv y) (hM : XW l y cy nl ret rm mcc msc B D Y o (.ref (B + q) :: A) M tv z) (hq : q < 112) (he : ent B Y M o q = .inr (ci, fs)) (hcl : vwCl[ci]? = some (y.cls, T0, N)) (hn : A.length = n) (hst : st0 = A.reverse ++ .ref (B + q) :: rest) (hc : (rest.map fun v => v.category).sum ≤ 8) (hrm : rm.cells = mcc ∧ rm.slots = msc ∧ rm.frames + 1 ≤ R.frames ∧ 8 + (nl + 11) + rm.locals ≤ R.locals) (hcs : cells + mcc ≤ R.cells ∧ slots + msc ≤ R.slots) (hd : decode cc pc = .ok (.invokevirtual idx, 3)) (hf : lx z K g = some r)
    (kx : ∀ E, K E = some r → Hd c args s own pc E (fun hp => ∀ a, At p l e R s m args below meth c nL (cells + mcc) (slots + msc) Q B D Y o hp z.2 L [.ref a]))
    (k : ∀ v, g v = some r → At p l e R s m args below meth c nL (cells + mcc) (slots + msc) Q B D Y o (pc + 3) z.2 L ((tv v).toList ++ rest)) : At p l e R s m args below meth c nL cells slots Q B D Y o pc M L st0 := fun H locs ls hP hS hl => by
  have C0 := C
  obtain ⟨hco, hin, hy, hds⟩ := hcy
  obtain ⟨hins, hsel⟩ := hcv
  have hlen : ∀ sig, parseMethodDescriptor y.desc = some sig → n = sig.parameters.length := fun sig hs => by rw [hs] at hds; exact (Option.some.inj hds).symm
  have hws : ∀ w ∈ [Cond.code y cy nl ret], ∀ (a' : Array Value) (U : State), s.WarmedH U.vm → w.before a' U = true := fun w hw a' U hW => by
    rw [List.mem_singleton.mp hw]
    exact word_at hW (Or.inl code_ok) (C.2.2.2.2.1.use hco (A := args))
  have hre := recvOK C hP hq he hcl
  have hpr := preX (A := .ref (B + q) :: A) C hX hS hP
  obtain ⟨c1, c2, c3, c4, c5, -⟩ := C0
  have hr : vx_Run p l e R s m args below meth c H locs cells slots mcc msc (F0 m pc ls st0) rest (QX B D Y o tv z (Value.ref (B + q) :: A).toArray) (XX B D Y o z) (fun q => B ≤ q) := vx_runV (As := A) (rest := rest) (Ts := Tz) (nL := nL) (n := n) (C := y.cls) ⟨c1, c2, c3, c4, fun w hw => c5.use hw⟩ hM ⟨⟨hrm.1, hrm.2.1, hrm.2.2.1, hrm.2.2.2, hws, List.mem_cons_self, c5.use hco, c5.use hin, hy, hlen, c5.use hli⟩, c5.use hins, c5.use hsel⟩ ⟨hpr.1, hre, hpr.2⟩ rfl hn hl.1 hst (lv_room hc) hd hcs
  intro T hT X
  rcases hr T hT X with ⟨v, st₀, t, T', L2, h0, X', hL, e1, e2, ⟨w, hw, hv, hp, hz, hk2⟩, go⟩ | ⟨q1, st₀, t, T', L2, E, ce, h0, X', hL, e1, e2, ⟨hw, hp, hz, hk2⟩, hce, hcv, hcl, go⟩
  · cases hv
    rw [h0] at hz hk2
    have hf2 : g w = some r := by
      have h := hf
      unfold lx at h
      rw [hw] at h
      exact h
    obtain ⟨t2, a1, b1⟩ := k w hf2 T'.heap (locs ++ L2) ls (by rw [e1]; exact hp) ⟨Nat.le_trans hS.1 (by rw [e1]; exact hz), fun q h1 h2 => by rw [e1, hk2 q (Nat.lt_of_lt_of_le h1 hS.1) h2]; exact hS.2.1 q h1 h2, fun q hq => by
        rcases List.mem_append.mp hq with hh | hh
        · exact hS.2.2 q hh
        · exact hL q hh⟩ hl T' rfl X'
    exact ⟨t2, go t2 a1, b1⟩
  · rw [h0] at hz hk2
    have hf2 : K E = some r := by
      have h := hf
      unfold lx at h
      rw [hw] at h
      exact h
    have hS2 : va_S (fun q => B ≤ q) s.heap T'.heap (locs ++ L2) := ⟨Nat.le_trans hS.1 (by rw [e1]; exact hz), fun q h1 h2 => by rw [e1, hk2 q (Nat.lt_of_lt_of_le h1 hS.1) h2]; exact hS.2.1 q h1 h2, fun q hq => by
        rcases List.mem_append.mp hq with hh | hh
        · exact hS.2.2 q hh
        · exact hL q hh⟩
    obtain ⟨pre, x, suf, nm, hsp, hpa, hco2, hx0, hlk, hca, hG⟩ := kx E hf2
    obtain ⟨t2, a1, b1⟩ := vx_catch (p := p) (l := l) (e := e) (R := R) (below := below) (meth := meth) (H := T'.heap) (locs := locs ++ L2) (cells := cells + mcc) (slots := slots + msc) (Q := Q) (ls := ls) (rest := rest) (own := own) (name := nm) (E := E) (ce := ce) (q := q1) c4 pre x suf hsp (fun z hz => by
        rcases hpa z hz with h | ⟨h1, n1, h2, h3⟩
        · exact Or.inl h
        · exact Or.inr ⟨h1, n1, c5.use h2, h3⟩) hco2 hx0 (c5.use hlk) (c5.use hca) (by rw [e1]; exact hce) hcv hcl (hG q1 T'.heap (locs ++ L2) ls (by rw [e1]; exact hp) hS2 hl) T' rfl X'
    exact ⟨t2, go.trans a1, b1⟩
theorem A_last (C : Cx p s m args c cc nL own B D Y) {x : Int64} (hd : decode cc pc = .ok (.lastore, 1)) (k : At p l e R s m args below meth c nL cells slots Q B D Y (vp_updL o.1 0 x, o.2) (pc + 1) M L rest) : At p l e R s m args below meth c nL cells slots Q B D Y o pc M L (.long x :: .int 0 :: .ref (B + 110) :: rest) := fun H locs ls hP hS hl => by
  have h0 := hP 110 _ (WL_at (by decide))
  have hc : H[B + 110]? = some (arrV (Y 6) 1 (fun j => .long (o.1 j))) := h0
  refine W.last C.1 C.2.1 hc (C.2.2.2.2.2.2.1 6 .long rfl 1 _) (fun z => by cases z) (by rw [arrV_size]; decide) rfl rfl hd fun H1 e z oq => ?_
  refine k H1 _ ls ?_ (hS.put z oq (Nat.le_add_right _ _)) hl
  have hs := WL_set (B := B) (Y := Y) (M := M) (M' := M) (o := o) (o' := (vp_updL o.1 0 x, o.2)) (k := 110) (by decide) (e := .inl (Y 6, 1, .inr (.inl (vp_updL o.1 0 x)))) rfl (fun a ha => rfl) (Or.inr ⟨by decide, fun a ha hb hc => by
    have : a = 111 := by omega
    subst this
    rfl⟩)
  rw [← hs]
  refine hP.set (WL_D B Y M o) (WL_at (by decide)) ?_ oq
  show H1[B + 110]? = some (vp_cell _ _)
  rw [e, vp_cell_l, arrV_store]
  congr 2
  funext j
  by_cases hj : j = (0 : Int32).toNatClampNeg
  · subst hj; simp [updV, vp_updL]
  · have hj2 : j ≠ 0 := hj
    simp [updV, vp_updL, hj2]
theorem A_dast (C : Cx p s m args c cc nL own B D Y) {x : UInt64} (hd : decode cc pc = .ok (.dastore, 1)) (k : At p l e R s m args below meth c nL cells slots Q B D Y (o.1, updDd o.2 0 x) (pc + 1) M L rest) : At p l e R s m args below meth c nL cells slots Q B D Y o pc M L (.double x :: .int 0 :: .ref (B + 111) :: rest) := fun H locs ls hP hS hl => by
  have h0 := hP 111 _ (WL_at (by decide))
  have hc : H[B + 111]? = some (arrV (Y 7) 1 (fun j => .double (o.2 j))) := h0
  refine W.dast C.1 C.2.1 hc (C.2.2.2.2.2.2.1 7 .double rfl 1 _) (fun z => by cases z) (by rw [arrV_size]; decide) rfl rfl hd fun H1 e z oq => ?_
  refine k H1 _ ls ?_ (hS.put z oq (Nat.le_add_right _ _)) hl
  have hs := WL_set (B := B) (Y := Y) (M := M) (M' := M) (o := o) (o' := (o.1, updDd o.2 0 x)) (k := 111) (by decide) (e := .inl (Y 7, 1, .inr (.inr (.inr (.inl (updDd o.2 0 x)))))) rfl (fun a ha => rfl) (Or.inr ⟨by decide, fun a ha hb hc => by
    have : a = 110 := by omega
    subst this
    rfl⟩)
  rw [← hs]
  refine hP.set (WL_D B Y M o) (WL_at (by decide)) ?_ oq
  show H1[B + 111]? = some (vp_cell _ _)
  rw [e, vp_cell_d, arrV_store]
  congr 2
  funext j
  by_cases hj : j = (0 : Int32).toNatClampNeg
  · subst hj; simp [updV, updDd]
  · have hj2 : j ≠ 0 := hj
    simp [updV, updDd, hj2]
theorem A_lald (C : Cx p s m args c cc nL own B D Y) (hd : decode cc pc = .ok (.laload, 1)) (k : At p l e R s m args below meth c nL cells slots Q B D Y o (pc + 1) M L (.long (o.1 0) :: rest)) : At p l e R s m args below meth c nL cells slots Q B D Y o pc M L (.int 0 :: .ref (B + 110) :: rest) := fun H locs ls hP hS hl => by
  have hc : H[B + 110]? = some (arrV (Y 6) 1 (fun j => .long (o.1 j))) := hP 110 _ (WL_at (by decide))
  exact W.lald (v := .long (o.1 0)) C.1 C.2.1 hc (C.2.2.2.2.2.2.1 6 .long rfl 1 _) (fun z => by cases z) (by rw [arrV_size]; decide) (by rw [show (0 : Int32).toNatClampNeg = 0 from rfl, arrV_read _ _ (by decide)]) rfl rfl hd (k H locs ls hP hS hl)
theorem A_dald (C : Cx p s m args c cc nL own B D Y) (hd : decode cc pc = .ok (.daload, 1)) (k : At p l e R s m args below meth c nL cells slots Q B D Y o (pc + 1) M L (.double (o.2 0) :: rest)) : At p l e R s m args below meth c nL cells slots Q B D Y o pc M L (.int 0 :: .ref (B + 111) :: rest) := fun H locs ls hP hS hl => by
  have hc : H[B + 111]? = some (arrV (Y 7) 1 (fun j => .double (o.2 j))) := hP 111 _ (WL_at (by decide))
  exact W.dald (v := .double (o.2 0)) C.1 C.2.1 hc (C.2.2.2.2.2.2.1 7 .double rfl 1 _) (fun z => by cases z) (by rw [arrV_size]; decide) (by rw [show (0 : Int32).toNatClampNeg = 0 from rfl, arrV_read _ _ (by decide)]) rfl rfl hd (k H locs ls hP hS hl)
theorem L_ri {o0 : Ou} (C : Cx p s m args c cc nL own B D Y) {v : Int32} {ov : Option Int64} {r : Int32 × Mem × Option Int64} (hr : meth.sig.returnType = some .int) (hk : meth.locks = false) (ho : o = oo o0 ov) (hwi : cells ≤ mc ∧ slots ≤ ms) (hd : decode cc pc = .ok (.ireturn, 1)) (hf : some (v, M, ov) = some r) : At p l e R s m args below meth c nL cells slots (MQ below (PQ B D Y r.2.1 (oo o0 r.2.2) (some (.int r.1))) args s mc ms (fun q => B ≤ q)) B D Y o pc M L [.int v] := fun H locs ls hP hS hl => by
  cases hf
  subst ho
  exact W.widen hwi.1 hwi.2 (W.zret C.1 C.2.1 hr rfl (fun t ht _ => ⟨rfl, by rw [ht]; exact hP, hS.F ht⟩) hS.2.2 hd hk)
theorem L_riD {o0 : Ou} (C : Cx p s m args c cc nL own B D Y) {v : Int32} {ov : Option UInt64} {r : Int32 × Mem × Option UInt64} (hr : meth.sig.returnType = some .int) (hk : meth.locks = false) (ho : o = od o0 ov) (hwi : cells ≤ mc ∧ slots ≤ ms) (hd : decode cc pc = .ok (.ireturn, 1)) (hf : some (v, M, ov) = some r) : At p l e R s m args below meth c nL cells slots (MQ below (PQ B D Y r.2.1 (od o0 r.2.2) (some (.int r.1))) args s mc ms (fun q => B ≤ q)) B D Y o pc M L [.int v] := fun H locs ls hP hS hl => by
  cases hf
  subst ho
  exact W.widen hwi.1 hwi.2 (W.zret C.1 C.2.1 hr rfl (fun t ht _ => ⟨rfl, by rw [ht]; exact hP, hS.F ht⟩) hS.2.2 hd hk)
end ATL
