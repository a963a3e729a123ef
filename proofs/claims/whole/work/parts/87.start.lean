/-! THE CLAIM OUT OF ONE WALK OF THE LAW'S BODY. Your part is whole_start (and what it stands on); all else here is the same for every law, but numbers. -/
def R_law : String := "BelowhouseLaw"
def lw_P (b : Addr) (xs : List Int32) (args : Array Value) (s : State) : Prop := args = #[.ref b] ∧ s.IntsAt b xs ∧ xs.length ≤ 2048 ∧ (Jvm.Cond.and given_1 narrow_1).before args s = true
/-- what a walk over the start with the record d0 says of its end, said of the start itself -/
theorem lw_closed {s t : State} {o : Outcome} {d0 : Drawn} {L : List Loc} {k n : Nat} (hd0 : s.drawn.sameBut d0 lw_cs) (hv : ∃ v, o = .returned v) (hW : (s.setDrawn d0).WarmedH t.vm) (hs : (s.setDrawn d0).sameButNew ({ t with vm := s.vm } : State) L k n) : State.butDraws s t lw_cs (fun t1 => Framed s o t1 L k n) := by
  have h2 : t.drawn = d0 := congrArg State.drawn hs.1
  refine ⟨⟨hv, hW, State.sameButNew.setDrawn hs s.drawn⟩, ?_, by decide⟩
  rw [h2]
  exact hd0
def lw_Q (_ : Array Value) (s : State) (o : Outcome) (t : State) : Prop := o = .returned (some (.int 1)) ∧ State.butDraws s t lw_cs (fun t1 => Framed s o t1 [] 601024 7293034)
def lw_Z (below : List Frame) (a : Array Value) (s : State) : State → Prop := fun t => ∃ o, t.status = .running ∧ Ended t below o ∧ lw_Q a s o t
/-- the law's own end, with 1 on the stack, nothing written that was there before, its room as the claim has it; d0: the record of draws at this point (at the entry s.drawn: begin with 'refine W.base ?_' and 'have hd0 := Drawn.sameBut.refl s.drawn lw_cs') -/
theorem lw_ret {p : Program} {l : Launch} {e : Env} {s : State} {m : MethodId} {below : List Frame} {meth : Method} {c : Code} {b : Nat} {d0 : Drawn} (hd0 : s.drawn.sameBut d0 lw_cs) (hx : p.tables.exec = Jvm.exec) (hb : c.code = code) (hr : meth.sig.returnType = ret) (hlocks : meth.locks = false) {pc : Nat} {H : Heap} {ls : Array Slot} (hdg : decode code pc = .ok (.ireturn, 1)) : W p l e room_1 (s.setDrawn d0) m #[Value.ref b] below meth c H [] 601024 7293034 (lw_Z below #[Value.ref b] s) (F0 m pc ls [.int 1]) := by
  intro T hT X
  obtain ⟨fs, hret, hrun, hended, hW, hframe⟩ := X.leave (v := some (.int 1)) (hlocks := hlocks) (fun h => by rw [hr] at h; cases h)
  have hmeth' : T.vm.method? m = some meth := X.method'
  refine ⟨T.setFrames fs, ?_, .returned (some (.int 1)), hrun, hended, rfl, lw_closed hd0 ⟨_, rfl⟩ hW hframe⟩
  jvm_step X.here [X.here.top, hx, hb, hdg, hmeth', hr, ret, narrow_b1]
  (try refine ⟨rfl, ?_⟩); (try refine ⟨rfl, ?_⟩)
  first | (intro acts; rw [hret _ acts rfl rfl rfl]) | rw [hret _ _ rfl rfl rfl]
  exact Steps.refl _
/-- what holds at the law's entry: the machine, the code, the tables' words (any of lw_tbl by 'hts w (by decide +kernel)'), the script of L ints xs at the cell b, what the Statement gives of the start (any of its parts by flat_of_before) -/
def lw_At (p : Program) (s : State) (m : MethodId) (meth : Method) (c : Code) (b L : Nat) (xs : Nat → Int32) : Prop :=
  p.tables.exec = Jvm.exec ∧ c.code = code ∧ meth.sig.returnType = ret ∧ c.maxLocals = 9 ∧ s.vm.findClass R_law = some m.cls ∧ (∀ w ∈ lw_tbl, w.before #[Value.ref b] s = true) ∧ va_X b L xs s s.heap ∧ b < s.heap.size ∧ meth.locks = false ∧ (Jvm.Cond.and given_1 narrow_1).before #[Value.ref b] s = true
theorem start_run {p : Program} {l : Launch} {e : Env} {s : State} {m : MethodId} {args : Array Value} {below : List Frame} {meth : Method} {c : Code} {B : Nat} {D : va_G} {Y : Nat → ClassId} {Q : State → Prop} {b : Nat} (C : Cx p s m args c cL_law 9 RL B D Y) (X : XE Y s) (K : At p l e room_1 s m args below meth c 9 112 4904 Q B D Y (fun _ => 0, fun _ => 0) 28 M0 [(0, .ref b), (1, .ref (B + 0)), (2, .ref (B + 47)), (3, .ref (B + 110)), (4, .ref (B + 111)), (5, .int 0)] []) : AtE p l e room_1 s m args below meth c 9 0 0 Q B D [] 0 [(0, .ref b)] [] := by
  refine X_eq (E' := ([] : List va_E) ++ []) rfl ?_
  have hF : ([] : List va_E).length = 0 := rfl
  have h1 : ([] : List va_E).length = 0 := rfl
  refine Y_new (n := 0) (G' := [(.inr (5, [.null, .null, .null, .null, .null, .null]) : va_E)]) C hF rfl rfl rfl inX6 tyX6 tyX6_ok (Tz_mem (tz1 (List.mem_of_getElem? (i := 17) rfl)) rfl) is_X6 it_X6 df_X6 (by decide) dL_law_0 ?_
  refine X_dup C dL_law_3 ?_
  refine Y_init (G0 := []) (n := 0) (g := g6 B Y) (G' := g6 B Y (0 + 0)) C X hF rfl rfl rfl (Or.inl (Tz_mem (tz1 (List.mem_of_getElem? (i := 19) rfl)) rfl) : LK RL 188 yX6_init) cy_X6 rfl im_X6 (fun F' => ci_X6 F') (show 1 ≤ 8 by decide) ⟨rfl, rfl, by decide, by decide⟩ (by decide) dL_law_4 ?_
  refine X_astore_n C [(0, .ref b), (1, .ref (B + (0 + 0)))] rfl (by decide) [1, 0] rfl dL_law_7 ?_
  refine Y_new (n := 47) (G' := g6 B Y (0 + 0) ++ [(.inr (6, [.null, .null, .null, .int 0, .null, .null, .null, .null]) : va_E)]) C hF rfl rfl rfl inX7 tyX7 tyX7_ok (Tz_mem (tz5 (List.mem_of_getElem? (i := 120) rfl)) rfl) is_X7 it_X7 df_X7 (by decide) dL_law_8 ?_
  refine X_dup C dL_law_11 ?_
  refine Y_init (G0 := g6 B Y (0 + 0)) (n := 47) (g := g7 B Y) (G' := g6 B Y (0 + 0) ++ g7 B Y (0 + 47)) C X hF rfl rfl rfl (Or.inl (Tz_mem (tz5 (List.mem_of_getElem? (i := 122) rfl)) rfl) : LK RL 191 yX7_init) cy_X7 rfl im_X7 (fun F' => ci_X7 F') (show 1 ≤ 8 by decide) ⟨rfl, rfl, by decide, by decide⟩ (by decide) dL_law_12 ?_
  refine X_astore_n C [(0, .ref b), (1, .ref (B + (0 + 0))), (2, .ref (B + (0 + 47)))] rfl (by decide) [1, 2, 0] rfl dL_law_15 ?_
  refine X_iconst C (v := 1) rfl dL_law_16 ?_
  refine Y_newa (n := 110) (G' := g6 B Y (0 + 0) ++ g7 B Y (0 + 47) ++ [(.inl (Y 6, 1, .inr (.inl (fun _ => 0))) : va_E)]) (atype := .long) C X hF rfl rfl 6 rfl (1, .inr (.inl (fun _ => 0))) rfl (fun cA => rfl) (by decide) (N := 1) (by decide) (by decide) (by decide) dL_law_17 ?_
  refine X_astore_n C [(0, .ref b), (1, .ref (B + (0 + 0))), (2, .ref (B + (0 + 47))), (3, .ref (B + (0 + 110)))] rfl (by decide) [1, 2, 3, 0] rfl dL_law_19 ?_
  refine X_iconst C (v := 1) rfl dL_law_20 ?_
  refine Y_newa (n := 111) (G' := g6 B Y (0 + 0) ++ g7 B Y (0 + 47) ++ [(.inl (Y 6, 1, .inr (.inl (fun _ => 0))) : va_E)] ++ [(.inl (Y 7, 1, .inr (.inr (.inr (.inl (fun _ => 0))))) : va_E)]) (atype := .double) C X hF rfl rfl 7 rfl (1, .inr (.inr (.inr (.inl (fun _ => 0))))) rfl (fun cA => rfl) (by decide) (N := 1) (by decide) (by decide) (by decide) dL_law_21 ?_
  refine X_astore C [(0, .ref b), (1, .ref (B + (0 + 0))), (2, .ref (B + (0 + 47))), (3, .ref (B + (0 + 110))), (4, .ref (B + (0 + 111)))] (by decide) [1, 2, 3, 4, 0] rfl dL_law_23 ?_
  refine X_iconst C (v := 0) rfl dL_law_25 ?_
  refine X_istore C [(0, .ref b), (1, .ref (B + (0 + 0))), (2, .ref (B + (0 + 47))), (3, .ref (B + (0 + 110))), (4, .ref (B + (0 + 111))), (5, .int 0)] (by decide) [1, 2, 3, 4, 5, 0] rfl dL_law_26 ?_
  refine X_eq (E' := (List.range 112).map (ent B Y M0 (fun _ => 0, fun _ => 0))) (gL_all B Y) ?_
  intro H locs ls hP hz hS hl
  rw [mkW_WL] at hP
  exact K H locs ls hP hS hl
/-- YOUR PART: from the entry, for every script of at most 2048 ints, the law comes to its end with true ('hflags': the launch's flags, for a law that throws: no stack traces) -/
theorem whole_start {p : Program} {e : Env} {s : State} {m : MethodId} {below : List Frame} {meth : Method} {c : Code} (l : Launch) (hflags : l.flags = flags0) {b L : Nat} {xs : Nat → Int32} (hL : L ≤ 2048) (C0 : lw_At p s m meth c b L xs) : W p l e room_1 s m #[Value.ref b] below meth c s.heap [] 0 0 (lw_Z below #[Value.ref b] s) (entryFrame m ([Value.ref b] : List Value).toArray 9) := by
  obtain ⟨hx, hb, hr, hml, hown, hts, hX, hbl, hlocks, hgv⟩ := C0
  have hg := flat_of_before _ hgv
  have hT := en_TB hts
  obtain ⟨D, hK⟩ := en_K hT
  obtain ⟨Y, hY, hE⟩ := en_Y hts
  have hXI := en_XI hts hg
  have hl9 : l.stackTraces = false := by unfold Launch.stackTraces; rw [hflags]; decide
  have hC : Cx p s m #[Value.ref b] c cL_law 9 RL s.heap.size D Y := ⟨hx, hb, hml, hown, hT, hK, hY, Nat.le_refl _⟩
  have hend : ∀ k sl o M LV, k ≤ 601024 → sl ≤ 7293034 → At p l e room_1 s m #[Value.ref b] below meth c 9 k sl (lw_Z below #[Value.ref b] s) s.heap.size D Y o 4087 M LV [] := by
    intro k sl o M LV hk hs
    refine A_iconst hC (v := 1) rfl dL_law_4087 ?_
    intro H locs ls hP hS hl
    refine va_forget hS.2.2 (W.widen hk hs ?_)
    exact W.base (lw_ret (d0 := s.drawn) (Drawn.sameBut.refl s.drawn lw_cs) hx hb hr hlocks dL_law_4088)
  have hloop := law_loop (below := below) (e := e) (meth := meth) (Q := lw_Z below #[Value.ref b] s) hC hXI hl9 hX hbl (Nat.not_le.mpr hbl) hL (k0 := 112) (s0 := 4904) (Nat.le_refl _) (Nat.le_refl _) hend (L + 1) 0 112 4904 (fun _ => 0, fun _ => 0) M0 J_M0 (by omega) (by omega) (by omega) (by omega)
  have hrun := start_run (l := l) (e := e) (below := below) (meth := meth) (Q := lw_Z below #[Value.ref b] s) (b := b) hC hE hloop
  have hl := lv_entry [Value.ref b] (n := 9) (show 1 ≤ 9 by decide)
  rw [lg_entry_eq]
  exact hrun s.heap [] _ (fun k x hx => by cases hx) rfl va_S.rf hl
