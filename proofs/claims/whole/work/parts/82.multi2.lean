/-! ===== multianewarray ===== -/
section STM2
variable {p : Program} {l : Launch} {e : Env} {R : Room} {s : State} {m : MethodId} {args : Array Value} {below : List Frame} {meth : Method} {c : Code} {T : State} {locs : List Loc} {cells slots : Nat}
theorem stand_multi2 (X : Stand p l e R s m args below meth c T locs cells slots) (hexec : p.tables.exec = Jvm.exec) {own name : String} {index : Nat} (hown : s.vm.findClass own = some m.cls) (hclink : (Cond.classLink own index name).before args s = true) {cA : ClassId} (hfc : s.vm.findClass name = some cA)
    {g : JFrame} (hg : g.method = m) (hdg : decode c.code g.pc = .ok (.multianewarray index 2, 4)) {n1 n2 : Int32} {rest : List Value} (hstack : g.stack = .int n2 :: .int n1 :: rest) (cs : List Cell)
    (hcells : cells + cs.length ≤ R.cells) (hslots : slots + (cs.map fun c => c.slots.size).sum ≤ R.slots)
    (hmake : ∀ (vm₁ : Vm) (E : CtlPost) (d : Bool) (acts : List Action) (s' : State) (Q' : Addr → Pre), (∀ n, n ≤ 1000 → ¬ n > e.platform.arrayLengthLimit) → (∀ n, n ≤ 4000 → ¬ n > e.platform.maxHeapBytes) → s.vm.Alike vm₁ → s'.vm = vm₁ → s'.heap = T.heap → s'.heap.size + cs.length ≤ e.platform.maxCells → s'.slotsUsed + (cs.map fun c => c.slots.size).sum ≤ e.platform.maxSlots → (∀ d' acts', Q' s'.heap.size d' acts' (grow s' cs)) → wp (multianewarray.make cA [n1, n2]) Q' E e d acts s') :
    ∃ vm₁ : Vm, Stand p l e R s m args below meth c (grow (T.setVm vm₁) cs) locs (cells + cs.length) (slots + (cs.map fun c => c.slots.size).sum) ∧
      ∀ target, Steps p.tables e below ((grow (T.setVm vm₁) cs).setTop { g with pc := g.pc + 4, stack := .ref T.heap.size :: rest }) target → Steps p.tables e below (T.setTop g) target := by
  subst hg
  have hpl : e.platform.magicAccessors = ({} : Platform).magicAccessors := by rw [X.admits.platform]
  obtain ⟨c0, hfc0, hcl⟩ := Cond.classLink_spec hown hclink e.platform hpl
  cases hfc.symm.trans hfc0
  obtain ⟨hg₁, hwarm₁, hready₁⟩ := State.classEntry (e := e) X.warmed hcl
  generalize T.vm.noted g.method.cls index (.cls cA) = vm₁ at hg₁ hwarm₁ hready₁
  have X₁ := X.noted hwarm₁
  obtain ⟨hr1, hr2⟩ := X.roomAbove hcells hslots
  have XF := stand_grow cs X₁
  refine ⟨vm₁, XF, fun target hrest => ?_⟩
  jvm_step X.here [hexec, hdg]
  simp only [multianewarray.sem, wp_bind', W.resolveClassAt_links (State.method?_setTop g X.here.top) hg₁]
  rw [W.popN, if_neg (by decide)]
  refine ⟨g, State.topJava?_setTop' (s := T.setVm vm₁) g X.here.top, [.int n1, .int n2], rest, rfl, hstack, ?_⟩
  simp only [List.mapM_cons, List.mapM_nil, wp_bind', wp_pure']
  refine hmake vm₁ _ _ _ _ _ (fun n hn => by rw [Launch.admits_arrayLengthLimit X.admits]; omega) (fun n hn => by rw [Launch.admits_maxHeapBytes X.admits]; omega) hwarm₁.alike rfl rfl (by show T.heap.size + _ ≤ _; omega) (by show T.slotsUsed + _ ≤ _; omega) (fun d' acts' => ?_)
  have eS : ((T.setTop g).setVm vm₁).setTop { g with stack := rest } = (T.setVm vm₁).setTop { g with stack := rest } := by
    show ((T.setVm vm₁).setTop g).setTop _ = _
    rw [State.setTop_setTop]
  rw [eS, grow_setTop]
  simp only [wp_bind', W.mark, W.pushRef, State.topJava?_setTop' _ XF.here.top, Option.some.injEq, exists_eq_left', State.setTop_setTop, State.heap_setTop]
  intro acts
  simp [jvm, XF.here.top]
  exact hrest
theorem W_multi2 (hexec : p.tables.exec = Jvm.exec) {cc : ByteArray} (hb : c.code = cc) {own name : String} {index : Nat} (hown : s.vm.findClass own = some m.cls) (hclink : (Cond.classLink own index name).before args s = true) {cA : ClassId} (hfc : s.vm.findClass name = some cA)
    {g : JFrame} (hg : g.method = m) (hdg : decode cc g.pc = .ok (.multianewarray index 2, 4)) {n1 n2 : Int32} {rest : List Value} (hstack : g.stack = .int n2 :: .int n1 :: rest) {H : Heap} {Q : State → Prop} (cs : List Cell)
    (hcells : cells + cs.length ≤ R.cells) (hslots : slots + (cs.map fun c => c.slots.size).sum ≤ R.slots)
    (hmake : ∀ (vm₁ : Vm) (E : CtlPost) (d : Bool) (acts : List Action) (s' : State) (Q' : Addr → Pre), (∀ n, n ≤ 1000 → ¬ n > e.platform.arrayLengthLimit) → (∀ n, n ≤ 4000 → ¬ n > e.platform.maxHeapBytes) → s.vm.Alike vm₁ → s'.vm = vm₁ → s'.heap = H → s'.heap.size + cs.length ≤ e.platform.maxCells → s'.slotsUsed + (cs.map fun c => c.slots.size).sum ≤ e.platform.maxSlots → (∀ d' acts', Q' s'.heap.size d' acts' (grow s' cs)) → wp (multianewarray.make cA [n1, n2]) Q' E e d acts s')
    (kk : W p l e R s m args below meth c (H ++ cs.toArray) locs (cells + cs.length) (slots + (cs.map fun c => c.slots.size).sum) Q { g with pc := g.pc + 4, stack := .ref H.size :: rest }) : W p l e R s m args below meth c H locs cells slots Q g := by
  intro T hT X
  subst hT; subst hb
  obtain ⟨vm₁, X', st⟩ := stand_multi2 X hexec hown hclink hfc hg hdg hstack cs hcells hslots hmake
  obtain ⟨t, a1, b1⟩ := kk (grow (T.setVm vm₁) cs) rfl X'
  exact ⟨t, st t a1, b1⟩
theorem stand_multi3 (X : Stand p l e R s m args below meth c T locs cells slots) (hexec : p.tables.exec = Jvm.exec) {own name : String} {index : Nat} (hown : s.vm.findClass own = some m.cls) (hclink : (Cond.classLink own index name).before args s = true) {cA : ClassId} (hfc : s.vm.findClass name = some cA)
    {g : JFrame} (hg : g.method = m) (hdg : decode c.code g.pc = .ok (.multianewarray index 3, 4)) {n1 n2 n3 : Int32} {rest : List Value} (hstack : g.stack = .int n3 :: .int n2 :: .int n1 :: rest) (cs : List Cell)
    (hcells : cells + cs.length ≤ R.cells) (hslots : slots + (cs.map fun c => c.slots.size).sum ≤ R.slots)
    (hmake : ∀ (vm₁ : Vm) (E : CtlPost) (d : Bool) (acts : List Action) (s' : State) (Q' : Addr → Pre), (∀ n, n ≤ 1000 → ¬ n > e.platform.arrayLengthLimit) → (∀ n, n ≤ 4000 → ¬ n > e.platform.maxHeapBytes) → s.vm.Alike vm₁ → s'.vm = vm₁ → s'.heap = T.heap → s'.heap.size + cs.length ≤ e.platform.maxCells → s'.slotsUsed + (cs.map fun c => c.slots.size).sum ≤ e.platform.maxSlots → (∀ d' acts', Q' s'.heap.size d' acts' (grow s' cs)) → wp (multianewarray.make cA [n1, n2, n3]) Q' E e d acts s') :
    ∃ vm₁ : Vm, Stand p l e R s m args below meth c (grow (T.setVm vm₁) cs) locs (cells + cs.length) (slots + (cs.map fun c => c.slots.size).sum) ∧
      ∀ target, Steps p.tables e below ((grow (T.setVm vm₁) cs).setTop { g with pc := g.pc + 4, stack := .ref T.heap.size :: rest }) target → Steps p.tables e below (T.setTop g) target := by
  subst hg
  have hpl : e.platform.magicAccessors = ({} : Platform).magicAccessors := by rw [X.admits.platform]
  obtain ⟨c0, hfc0, hcl⟩ := Cond.classLink_spec hown hclink e.platform hpl
  cases hfc.symm.trans hfc0
  obtain ⟨hg₁, hwarm₁, hready₁⟩ := State.classEntry (e := e) X.warmed hcl
  generalize T.vm.noted g.method.cls index (.cls cA) = vm₁ at hg₁ hwarm₁ hready₁
  have X₁ := X.noted hwarm₁
  obtain ⟨hr1, hr2⟩ := X.roomAbove hcells hslots
  have XF := stand_grow cs X₁
  refine ⟨vm₁, XF, fun target hrest => ?_⟩
  jvm_step X.here [hexec, hdg]
  simp only [multianewarray.sem, wp_bind', W.resolveClassAt_links (State.method?_setTop g X.here.top) hg₁]
  rw [W.popN, if_neg (by decide)]
  refine ⟨g, State.topJava?_setTop' (s := T.setVm vm₁) g X.here.top, [.int n1, .int n2, .int n3], rest, rfl, hstack, ?_⟩
  simp only [List.mapM_cons, List.mapM_nil, wp_bind', wp_pure']
  refine hmake vm₁ _ _ _ _ _ (fun n hn => by rw [Launch.admits_arrayLengthLimit X.admits]; omega) (fun n hn => by rw [Launch.admits_maxHeapBytes X.admits]; omega) hwarm₁.alike rfl rfl (by show T.heap.size + _ ≤ _; omega) (by show T.slotsUsed + _ ≤ _; omega) (fun d' acts' => ?_)
  have eS : ((T.setTop g).setVm vm₁).setTop { g with stack := rest } = (T.setVm vm₁).setTop { g with stack := rest } := by
    show ((T.setVm vm₁).setTop g).setTop _ = _
    rw [State.setTop_setTop]
  rw [eS, grow_setTop]
  simp only [wp_bind', W.mark, W.pushRef, State.topJava?_setTop' _ XF.here.top, Option.some.injEq, exists_eq_left', State.setTop_setTop, State.heap_setTop]
  intro acts
  simp [jvm, XF.here.top]
  exact hrest
theorem W_multi3 (hexec : p.tables.exec = Jvm.exec) {cc : ByteArray} (hb : c.code = cc) {own name : String} {index : Nat} (hown : s.vm.findClass own = some m.cls) (hclink : (Cond.classLink own index name).before args s = true) {cA : ClassId} (hfc : s.vm.findClass name = some cA)
    {g : JFrame} (hg : g.method = m) (hdg : decode cc g.pc = .ok (.multianewarray index 3, 4)) {n1 n2 n3 : Int32} {rest : List Value} (hstack : g.stack = .int n3 :: .int n2 :: .int n1 :: rest) {H : Heap} {Q : State → Prop} (cs : List Cell)
    (hcells : cells + cs.length ≤ R.cells) (hslots : slots + (cs.map fun c => c.slots.size).sum ≤ R.slots)
    (hmake : ∀ (vm₁ : Vm) (E : CtlPost) (d : Bool) (acts : List Action) (s' : State) (Q' : Addr → Pre), (∀ n, n ≤ 1000 → ¬ n > e.platform.arrayLengthLimit) → (∀ n, n ≤ 4000 → ¬ n > e.platform.maxHeapBytes) → s.vm.Alike vm₁ → s'.vm = vm₁ → s'.heap = H → s'.heap.size + cs.length ≤ e.platform.maxCells → s'.slotsUsed + (cs.map fun c => c.slots.size).sum ≤ e.platform.maxSlots → (∀ d' acts', Q' s'.heap.size d' acts' (grow s' cs)) → wp (multianewarray.make cA [n1, n2, n3]) Q' E e d acts s')
    (kk : W p l e R s m args below meth c (H ++ cs.toArray) locs (cells + cs.length) (slots + (cs.map fun c => c.slots.size).sum) Q { g with pc := g.pc + 4, stack := .ref H.size :: rest }) : W p l e R s m args below meth c H locs cells slots Q g := by
  intro T hT X
  subst hT; subst hb
  obtain ⟨vm₁, X', st⟩ := stand_multi3 X hexec hown hclink hfc hg hdg hstack cs hcells hslots hmake
  obtain ⟨t, a1, b1⟩ := kk (grow (T.setVm vm₁) cs) rfl X'
  exact ⟨t, st t a1, b1⟩
end STM2
