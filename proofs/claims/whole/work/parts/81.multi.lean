/-! ===== arrays of arrays, made at once: the cells come one behind another ===== -/
def grow (T : State) (cs : List Cell) : State := { T with heap := T.heap ++ cs.toArray, slotsUsed := T.slotsUsed + (cs.map fun c => c.slots.size).sum }
theorem grow_nil {T : State} : grow T [] = T := by simp [grow]
theorem grow_cons {T : State} {c : Cell} {cs : List Cell} : grow T (c :: cs) = grow (T.pushCell c) cs := by
  have h : T.heap ++ (c :: cs).toArray = T.heap.push c ++ cs.toArray := by
    apply Array.ext'
    simp
  unfold grow State.pushCell
  simp only [h, List.map_cons, List.sum_cons, Nat.add_assoc]
theorem grow_app {T : State} {a b : List Cell} : grow T (a ++ b) = grow (grow T a) b := by
  induction a generalizing T with
  | nil => rw [grow_nil]; rfl
  | cons c a ih => rw [List.cons_append, grow_cons, grow_cons, ih]
theorem grow_size {T : State} {a : List Cell} : (grow T a).heap.size = T.heap.size + a.length := by simp [grow]
theorem grow_used {T : State} {a : List Cell} : (grow T a).slotsUsed = T.slotsUsed + (a.map fun c => c.slots.size).sum := rfl
theorem grow_vm {T : State} {a : List Cell} : (grow T a).vm = T.vm := rfl
theorem grow_old {T : State} {a : List Cell} {q : Nat} (h : q < T.heap.size) : (grow T a).heap[q]? = T.heap[q]? := by
  show (T.heap ++ a.toArray)[q]? = _
  rw [Array.getElem?_append_left h]
theorem grow_new {T : State} {a : List Cell} {q : Nat} : (grow T a).heap[T.heap.size + q]? = a[q]? := by
  show (T.heap ++ a.toArray)[T.heap.size + q]? = _
  rw [Array.getElem?_append_right (Nat.le_add_right _ _), Nat.add_sub_cancel_left, List.getElem?_toArray]
theorem grow_put {T : State} {c c' : Cell} {a : List Cell} (h : c.slots.size = c'.slots.size) : (grow T (c :: a)).setCell T.heap.size c' = grow T (c' :: a) := by
  have e : (T.heap ++ (c :: a).toArray).setIfInBounds T.heap.size c' = T.heap ++ (c' :: a).toArray := by
    apply Array.ext'
    rw [Array.toList_setIfInBounds, Array.toList_append, Array.toList_append]
    simp only [List.toList_toArray]
    rw [← Array.length_toList, List.set_append_right _ _ (Nat.le_refl _), Nat.sub_self]
    rfl
  unfold grow State.setCell
  simp only [e, List.map_cons, List.sum_cons, h]
theorem arrV_congr {cI : ClassId} {N : Nat} {f g : Nat → Value} (h : ∀ j < N, f j = g j) : arrV cI N f = arrV cI N g := by
  have : (fun j : Fin N => f j.val) = fun j : Fin N => g j.val := funext fun j => h j.val j.isLt
  unfold arrV
  rw [this]
/-- the cells of an array of n arrays, each of which takes sz cells -/
def lvC (c : ClassId) (n sz : Nat) (inner : Nat → List Cell) (h : Nat) : List Cell := arrV c n (fun j => .ref (h + 1 + j * sz)) :: (List.range n).flatMap (fun j => inner (h + 1 + j * sz))
def pcC (n sz : Nat) (inner : Nat → List Cell) (h i : Nat) : List Cell := (List.range i).flatMap (fun j => inner (h + 1 + j * sz))
theorem pcC_s {n sz : Nat} {inner : Nat → List Cell} {h i : Nat} : pcC n sz inner h (i + 1) = pcC n sz inner h i ++ inner (h + 1 + i * sz) := by
  simp [pcC, List.range_succ, List.flatMap_append]
theorem pcC_len {n sz : Nat} {inner : Nat → List Cell} (hsz : ∀ h, (inner h).length = sz) {h i : Nat} : (pcC n sz inner h i).length = i * sz := by
  induction i with
  | zero => simp [pcC]
  | succ i ih => rw [pcC_s, List.length_append, ih, hsz, Nat.succ_mul]
theorem pcC_used {n sz us : Nat} {inner : Nat → List Cell} (hus : ∀ h, ((inner h).map fun c => c.slots.size).sum = us) {h i : Nat} : ((pcC n sz inner h i).map fun c => c.slots.size).sum = i * us := by
  induction i with
  | zero => simp [pcC]
  | succ i ih => rw [pcC_s, List.map_append, List.sum_append, ih, hus, Nat.succ_mul]
section WPM
variable {E : CtlPost} {e : Env} {d : Bool} {acts : List Action} {s : State}
theorem wpm_new {c comp : ClassId} {k : Class} {type : FieldType} {len : Nat} {init : Value} (hk : s.vm.classes[c]? = some k) (hkind : k.kind = .array comp type)
    (hlimit : ¬ len > e.platform.arrayLengthLimit) (hheap : ¬ len * componentBytes type > e.platform.maxHeapBytes) (hfit : fits type init = true) (hdef : init.isDefault = true) {Q : Addr → Pre}
    (h1 : s.heap.size < e.platform.maxCells) (h2 : s.slotsUsed + len ≤ e.platform.maxSlots) (hq : Q s.heap.size d acts (grow s [arrV c len (fun _ => init)])) : wp (Jvm.newArray c len init) Q E e d acts s := by
  have hfits : ∀ i v, (Array.replicate len init)[i]? = some v → s.fitsSlot c .none i v = true := by
    intro i v hv
    rw [Array.getElem?_replicate] at hv
    split at hv
    · cases hv
      simp [State.fitsSlot, State.slotType?, hk, hkind, hfit]
    · cases hv
  have hda : allocActs (Array.replicate len init) s.heap.size acts = acts := by
    have hall : ((Array.replicate len init).all (·.isDefault)) = true := by
      rw [Array.all_replicate]
      split <;> simp [hdef]
    unfold allocActs
    rw [if_pos hall]
  rw [grow_cons, grow_nil, ← arrV_new] at hq
  simp only [Jvm.newArray, Jvm.arrayFits, wp_bind', W.ask, W.ite, hlimit, if_false, wp_pure', W.theClass, hk, hkind, hheap, W.alloc, W.stop, Option.some.injEq, exists_eq_left', Array.size_replicate, hda]
  rw [if_neg (by omega)]
  exact ⟨h1, h2, hfits, hq⟩
theorem rfit {t : FieldType} (h : t.isReference = true) (v : Value) (hv : v = .null ∨ ∃ a, v = .ref a) : fits t v = true := by
  rcases hv with rfl | ⟨a, rfl⟩ <;> cases t <;> simp [FieldType.isReference] at h <;> rfl
/-- one dimension -/
theorem wpm_1 {c comp : ClassId} {k : Class} {type : FieldType} {n : Int32} (hk : s.vm.classes[c]? = some k) (hkind : k.kind = .array comp type) (hn : ¬ n < 0)
    (hlimit : ¬ n.toNatClampNeg > e.platform.arrayLengthLimit) (hheap : ¬ n.toNatClampNeg * componentBytes type > e.platform.maxHeapBytes) (hfit : fits type (defaultValue type) = true) (hdef : (defaultValue type).isDefault = true) {Q : Addr → Pre}
    (h1 : s.heap.size + 1 ≤ e.platform.maxCells) (h2 : s.slotsUsed + n.toNatClampNeg ≤ e.platform.maxSlots) (hq : ∀ d' acts', Q s.heap.size d' acts' (grow s [arrV c n.toNatClampNeg (fun _ => defaultValue type)])) : wp (multianewarray.make c [n]) Q E e d acts s := by
  rw [multianewarray.make]
  simp only [wp_bind', W.ite, hn, if_false, wp_pure', W.theClass, hk, hkind, Option.some.injEq, exists_eq_left']
  exact wpm_new hk hkind hlimit hheap hfit hdef (by omega) h2 (hq _ _)
/-- one more dimension -/
theorem wpm_s {c comp : ClassId} {k : Class} {t0 : FieldType} {n m : Int32} {more : List Int32} {sz us : Nat} {inner : Nat → List Cell} (hk : s.vm.classes[c]? = some k) (hkind : k.kind = .array comp t0) (href : t0.isReference = true) (hn : ¬ n < 0) (hm : ∀ x ∈ m :: more, ¬ x < 0)
    (hl1 : ¬ n.toNatClampNeg > e.platform.arrayLengthLimit) (hh1 : ¬ n.toNatClampNeg * componentBytes t0 > e.platform.maxHeapBytes)
    (hsz : ∀ h, (inner h).length = sz) (hus : ∀ h, ((inner h).map fun c => c.slots.size).sum = us)
    (hin : ∀ (d : Bool) (acts : List Action) (s' : State) (Q : Addr → Pre), s'.vm = s.vm → s'.heap.size + sz ≤ e.platform.maxCells → s'.slotsUsed + us ≤ e.platform.maxSlots → (∀ d' acts', Q s'.heap.size d' acts' (grow s' (inner s'.heap.size))) → wp (multianewarray.make comp (m :: more)) Q E e d acts s')
    (hc : s.heap.size + 1 + n.toNatClampNeg * sz ≤ e.platform.maxCells) (hs : s.slotsUsed + n.toNatClampNeg + n.toNatClampNeg * us ≤ e.platform.maxSlots)
    {Q : Addr → Pre} (hq : ∀ d' acts', Q s.heap.size d' acts' (grow s (lvC c n.toNatClampNeg sz inner s.heap.size))) : wp (multianewarray.make c (n :: m :: more)) Q E e d acts s := by
  have hfind : ((m :: more).find? (· < 0)) = none := by
    rw [List.find?_eq_none]
    intro x hx
    simpa using hm x hx
  let O : Nat → Cell := fun i => arrV c n.toNatClampNeg (fun j => if j < i then .ref (s.heap.size + 1 + j * sz) else .null)
  have hO : ∀ i, O i = arrV c n.toNatClampNeg (fun j => if j < i then .ref (s.heap.size + 1 + j * sz) else .null) := fun _ => rfl
  have hOs : ∀ i, (O i).slots.size = n.toNatClampNeg := fun i => by rw [hO, arrV_size]
  clear_value O
  let st : Nat → State := fun i => grow s (O i :: pcC n.toNatClampNeg sz inner s.heap.size i)
  have hst : ∀ i, st i = grow s (O i :: pcC n.toNatClampNeg sz inner s.heap.size i) := fun _ => rfl
  clear_value st
  have hstz : ∀ i, (st i).heap.size = s.heap.size + 1 + i * sz := fun i => by rw [hst, grow_size, List.length_cons, pcC_len hsz]; omega
  have hstu : ∀ i, (st i).slotsUsed = s.slotsUsed + n.toNatClampNeg + i * us := fun i => by rw [hst, grow_used, List.map_cons, List.sum_cons, hOs, pcC_used hus]; omega
  rw [multianewarray.make]
  simp only [wp_bind', W.ite, hn, if_false, wp_pure', W.theClass, hk, hkind, Option.some.injEq, exists_eq_left']
  refine wpm_new hk hkind hl1 hh1 (rfit href _ (Or.inl rfl)) rfl (by omega) (by have := Nat.zero_le (n.toNatClampNeg * us); omega) ?_
  have e0 : grow s [arrV c n.toNatClampNeg (fun _ => Value.null)] = st 0 := by
    rw [hst, hO]
    simp [pcC]
  rw [e0]
  simp only [hfind]
  rw [ite_self, wp_bind', Std.Legacy.Range.forIn_eq_forIn_range']
  have hrs : ([:n.toNatClampNeg] : Std.Legacy.Range).size = n.toNatClampNeg := by simp [Std.Legacy.Range.size]
  rw [hrs]
  show wp (forIn (List.range' 0 n.toNatClampNeg 1) PUnit.unit _) _ E e d acts _
  refine wp_forIn_inv (fun rest s' => ∃ i, i ≤ n.toNatClampNeg ∧ rest = List.range' i (n.toNatClampNeg - i) ∧ s' = st i) _ _ ⟨0, Nat.zero_le _, rfl, rfl⟩ ?_ ?_
  · rintro x rest s' d' acts' Q' ⟨i, hi, hl, rfl⟩ hnext
    have hlt : i < n.toNatClampNeg := by
      rcases Nat.lt_or_ge i n.toNatClampNeg with h | h
      · exact h
      · rw [show n.toNatClampNeg - i = 0 from by omega] at hl; simp at hl
    obtain ⟨rfl, hrest⟩ : x = i ∧ rest = List.range' (i + 1) (n.toNatClampNeg - (i + 1)) := by
      rw [show n.toNatClampNeg - i = (n.toNatClampNeg - (i + 1)) + 1 from by omega, List.range'_succ] at hl
      exact ⟨(List.cons.inj hl).1, (List.cons.inj hl).2⟩
    have hm1 : x * sz + sz ≤ n.toNatClampNeg * sz := by
      have := Nat.mul_le_mul_right sz (show x + 1 ≤ n.toNatClampNeg from hlt)
      rw [Nat.succ_mul] at this; exact this
    have hm2 : x * us + us ≤ n.toNatClampNeg * us := by
      have := Nat.mul_le_mul_right us (show x + 1 ≤ n.toNatClampNeg from hlt)
      rw [Nat.succ_mul] at this; exact this
    simp only [wp_bind']
    refine hin _ _ (st x) _ (by rw [hst]; rfl) (by rw [hstz]; omega) (by rw [hstu]; omega) (fun d2 acts2 => ?_)
    rw [hstz]
    have eg : grow (st x) (inner (s.heap.size + 1 + x * sz)) = grow s (O x :: pcC n.toNatClampNeg sz inner s.heap.size (x + 1)) := by
      rw [hst, ← grow_app, List.cons_append, ← pcC_s]
    rw [eg]
    simp only [wp_bind', W.writeLoc, wp_pure']
    have hcell : (grow s (O x :: pcC n.toNatClampNeg sz inner s.heap.size (x + 1))).heap[s.heap.size]? = some (O x) := grow_new (q := 0)
    have hset : (O x).setSlot x (.ref (s.heap.size + 1 + x * sz)) = O (x + 1) := by
      rw [hO, hO, arrV_store]
      refine arrV_congr (fun j hj => ?_)
      unfold updV
      by_cases e1 : j = x
      · subst e1; simp
      · by_cases e2 : j < x
        · simp [e1, e2, show j < x + 1 by omega]
        · simp [e1, e2, show ¬ j < x + 1 by omega]
    refine ⟨O x, hcell, by rw [hO]; simp [arrV], by rw [hOs]; exact hlt, ?_, hnext _ _ _ ⟨x + 1, hlt, hrest, ?_⟩⟩
    · have ec : (O x).cls = c := by rw [hO]; rfl
      have ev : (O x).vm = .none := by rw [hO]; rfl
      rw [ec, ev]
      simp [State.fitsSlot, State.slotType?, grow_vm, hk, hkind, rfit href _ (Or.inr ⟨_, rfl⟩)]
    · rw [hset, grow_put (by rw [hOs, hOs]), hst]
  · rintro s' d' acts' ⟨i, hi, hl, rfl⟩
    have hiN : i = n.toNatClampNeg := by
      rcases Nat.lt_or_ge i n.toNatClampNeg with h | h
      · rw [show n.toNatClampNeg - i = (n.toNatClampNeg - (i + 1)) + 1 from by omega, List.range'_succ] at hl; cases hl
      · omega
    subst hiN
    simp only [wp_pure']
    have ef : st n.toNatClampNeg = grow s (lvC c n.toNatClampNeg sz inner s.heap.size) := by
      rw [hst, hO]
      unfold lvC pcC
      rw [arrV_congr (g := fun j => .ref (s.heap.size + 1 + j * sz)) (fun j hj => by rw [if_pos hj])]
    rw [ef]
    exact hq _ _
end WPM
section STM
variable {p : Program} {l : Launch} {e : Env} {R : Room} {s : State} {m : MethodId} {args : Array Value} {below : List Frame} {meth : Method} {c : Code} {T : State} {locs : List Loc} {cells slots : Nat}
theorem stand_grow (cs : List Cell) : ∀ {T : State} {cells slots : Nat}, Stand p l e R s m args below meth c T locs cells slots → Stand p l e R s m args below meth c (grow T cs) locs (cells + cs.length) (slots + (cs.map fun c => c.slots.size).sum) := by
  induction cs with
  | nil => intro T cells slots X; rw [grow_nil]; exact X
  | cons a cs ih =>
    intro T cells slots X
    rw [grow_cons]
    have h := ih (X.pushed a)
    rw [Nat.add_assoc, Nat.add_assoc] at h
    rw [List.length_cons, List.map_cons, List.sum_cons, Nat.add_comm cs.length 1]
    exact h
theorem grow_setTop {T : State} {f : JFrame} {cs : List Cell} : grow (T.setTop f) cs = (grow T cs).setTop f := rfl
end STM
theorem over_spec {args : Array Value} {s : State} {t : FieldType} (h : (Cond.arrayOver (.array t)).before args s = true) : ∃ comp c k, s.vm.findClass (FieldType.array t).toString = some comp ∧ s.vm.classes[c]? = some k ∧ k.kind = .array comp (.array t) ∧ s.vm.findClass ("[" ++ (FieldType.array t).toString) = some c := by
  simp only [Cond.before, Cond.holds, Cond.value, beq_iff_eq] at h
  cases hc : s.vm.findClass (FieldType.array t).toString with
  | none => simp [hc] at h
  | some comp =>
    simp only [hc, Option.bind_some, Option.bind_eq_some_iff, Option.map_eq_some_iff] at h
    obtain ⟨c, hi, k, hk, hb⟩ := h
    obtain ⟨hlt, hp, -⟩ := Array.findIdx?_eq_some_iff_getElem.mp hi
    have hkk : s.vm.classes[c] = k := (Array.getElem?_eq_some_iff.mp hk).2
    rw [hkk] at hp
    cases hkind : k.kind with
    | array component ty =>
      rw [hkind] at hb hp
      simp at hb hp
      exact ⟨comp, c, k, rfl, hk, by rw [hkind, hp, hb.1], hb.2⟩
    | _ => rw [hkind] at hb; simp at hb
