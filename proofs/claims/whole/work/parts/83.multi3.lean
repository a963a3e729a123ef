/-! ===== the reference's arrays of arrays ===== -/
def cellsOf (A : List (ClassId × vp_A)) : List Cell := A.map fun a => vp_cell a.1 a.2
def entsOf (A : List (ClassId × vp_A)) : List va_E := A.map fun a => .inl a
theorem mkW_app2 {B : Nat} {E F : List va_E} : mkW B (E ++ F) = mkW B E ++ mkW (B + E.length) F := by
  induction F generalizing E with
  | nil => simp [mkW]
  | cons e F ih =>
    have h1 : E ++ e :: F = (E ++ [e]) ++ F := by simp
    have h2 : mkW (B + E.length) (e :: F) = (B + E.length, e) :: mkW (B + E.length + 1) F := by
      apply List.ext_getElem?
      intro j
      rw [mkW_get]
      cases j with
      | zero => rfl
      | succ j =>
        rw [List.getElem?_cons_succ, List.getElem?_cons_succ, mkW_get, show B + E.length + (j + 1) = B + E.length + 1 + j by omega]
    rw [h1, ih, mkW_app, h2, List.length_append, List.append_assoc]
    rfl
theorem grown_P {B : Nat} {D : va_G} {E : List va_E} {H : Heap} {A : List (ClassId × vp_A)} (hP : va_P D vwCl (mkW B E) H) (hz : H.size = B + E.length) : va_P D vwCl (mkW B (E ++ entsOf A)) (H ++ (cellsOf A).toArray) := by
  rw [mkW_app2]
  refine (hP.kept (fun k x hx => ?_)).app (fun k x hx => ?_)
  · rw [Array.getElem?_append_left ((hP k x hx).lt)]
  · obtain ⟨e, he, rfl⟩ := mkW_inv hx
    simp only [entsOf, List.getElem?_map, Option.map_eq_some_iff] at he
    obtain ⟨a, ha, rfl⟩ := he
    show (H ++ (cellsOf A).toArray)[B + E.length + k]? = some (vp_cell a.1 a.2)
    rw [← hz, Array.getElem?_append_right (Nat.le_add_right _ _), Nat.add_sub_cancel_left, List.getElem?_toArray, cellsOf, List.getElem?_map, ha]
    rfl
section XM
variable {p : Program} {l : Launch} {e : Env} {R : Room} {s : State} {m : MethodId} {args : Array Value} {below : List Frame} {meth : Method} {c : Code} {nL cells slots : Nat} {Q : State → Prop} {B : Nat} {D : va_G} {Y : Nat → ClassId} {pc : Nat} {E : List va_E} {L L' : List (Nat × Value)} {rest : List Value} {cc : ByteArray} {own : String}
theorem KC.at {vm₁ : Vm} (h : KC Y s) (hal : s.vm.Alike vm₁) {k : Nat} {ty : FieldType} (hk : tyY[k]? = some ty) : ∃ (kA : Class) (comp : ClassId), vm₁.classes[Y k]? = some kA ∧ kA.kind = .array comp ty ∧ (k = 3 → comp = Y 0) ∧ (k = 4 → comp = Y 5) ∧ (k = 5 → comp = Y 1) := by
  obtain ⟨kA, comp, h1, h2, h3⟩ := h k ty hk
  obtain ⟨k', hk', he⟩ := hal.2.2 _ _ h1
  exact ⟨k', comp, hk', by rw [he]; exact h2, h3⟩
theorem X_multi2 (C : Cx p s m args c cc nL own B D Y) (F : XE Y s) {idx : Nat} (hcl : Cond.classLink own idx "[[I" ∈ Tz) (A : List (ClassId × vp_A)) (hA : cellsOf A = lvC (Y 3) 5 1 (fun _ => [arrV (Y 0) 9 (fun _ => defaultValue .int)]) (B + E.length)) (hcs : cells + 6 ≤ R.cells ∧ slots + 50 ≤ R.slots) (hd : decode cc pc = .ok (.multianewarray idx 2, 4)) (k : AtE p l e R s m args below meth c nL (cells + 6) (slots + 50) Q B D (E ++ entsOf A) (pc + 4) L (.ref (B + E.length) :: rest)) : AtE p l e R s m args below meth c nL cells slots Q B D E pc L (.int 9 :: .int 5 :: rest) := fun H locs ls hP hz hS hl => by
  have e5 : (5 : Int32).toNatClampNeg = 5 := by decide
  have e9 : (9 : Int32).toNatClampNeg = 9 := by decide
  have n5 : ¬ (5 : Int32) < 0 := by decide
  have n9 : ¬ (9 : Int32) < 0 := by decide
  have hlen : (cellsOf A).length = 6 := by rw [hA]; rfl
  have hsa : (cellsOf A).toArray.size = 6 := by rw [← hlen]; exact List.size_toArray
  have hse : (entsOf A).length = 6 := by rw [← hlen]; simp only [entsOf, cellsOf, List.length_map]
  have hused : ((cellsOf A).map fun c => c.slots.size).sum = 50 := by rw [hA]; simp [lvC, arrV_size, List.range, List.range.loop]
  refine W_multi2 (cs := cellsOf A) (cA := Y 3) C.1 C.2.1 C.2.2.2.1 (C.2.2.2.2.1.use hcl) (F.1 3 _ rfl) (g := F0 m pc ls _) rfl hd rfl (by rw [hlen]; exact hcs.1) (by rw [hused]; exact hcs.2) (fun vm₁ CE d acts s' Q' lim lih hal hvm hH h1 h2 hQ => ?_) ?_
  · obtain ⟨k3, c3, g1, g2, g3, -, -⟩ := F.2.1.at hal (k := 3) rfl
    obtain ⟨k0, c0, f1, f2, -⟩ := F.2.1.at hal (k := 0) rfl
    cases g3 rfl
    rw [hlen] at h1
    rw [hused] at h2
    refine wpm_s (sz := 1) (us := 9) (inner := fun _ => [arrV (Y 0) 9 (fun _ => defaultValue .int)]) (by rw [hvm]; exact g1) g2 rfl n5 (fun x hx => by rw [List.mem_singleton.mp hx]; exact n9) (by rw [e5]; exact lim _ (by decide)) (by rw [e5]; exact lih _ (by decide)) (fun _ => rfl) (fun _ => by simp [arrV_size]) (fun d2 acts2 s2 Q2 hv2 z1 z2 hQ2 => ?_) (by rw [e5]; omega) (by rw [e5]; omega) (fun d' acts' => ?_)
    · refine wpm_1 (type := .int) (comp := c0) (by rw [hv2, hvm]; exact f1) f2 n9 (by rw [e9]; exact lim _ (by decide)) (by rw [e9]; exact lih _ (by decide)) rfl rfl (by omega) (by rw [e9]; omega) (fun d' acts' => ?_)
      rw [e9]
      exact hQ2 d' acts'
    · have := hQ d' acts'
      rw [hA, ← hz, ← hH] at this
      rw [e5]
      exact this
  · rw [hlen, hused]
    have := k (H ++ (cellsOf A).toArray) locs ls (grown_P hP hz) (by rw [Array.size_append, hsa, List.length_append, hse, hz]; omega) ⟨Nat.le_trans hS.1 (by rw [Array.size_append]; omega), fun x h1 h2 => by rw [Array.getElem?_append_left (Nat.lt_of_lt_of_le h1 hS.1)]; exact hS.2.1 x h1 h2, hS.2.2⟩ hl
    rw [← hz] at this
    exact this
theorem X_multi3 (C : Cx p s m args c cc nL own B D Y) (F : XE Y s) {idx : Nat} (hcl : Cond.classLink own idx "[[[Z" ∈ Tz) (A : List (ClassId × vp_A)) (hA : cellsOf A = lvC (Y 4) 5 10 (lvC (Y 5) 9 1 (fun _ => [arrV (Y 1) 9 (fun _ => defaultValue .boolean)])) (B + E.length)) (hcs : cells + 51 ≤ R.cells ∧ slots + 455 ≤ R.slots) (hd : decode cc pc = .ok (.multianewarray idx 3, 4)) (k : AtE p l e R s m args below meth c nL (cells + 51) (slots + 455) Q B D (E ++ entsOf A) (pc + 4) L (.ref (B + E.length) :: rest)) : AtE p l e R s m args below meth c nL cells slots Q B D E pc L (.int 9 :: .int 9 :: .int 5 :: rest) := fun H locs ls hP hz hS hl => by
  have e5 : (5 : Int32).toNatClampNeg = 5 := by decide
  have e9 : (9 : Int32).toNatClampNeg = 9 := by decide
  have n5 : ¬ (5 : Int32) < 0 := by decide
  have n9 : ¬ (9 : Int32) < 0 := by decide
  have hlen : (cellsOf A).length = 51 := by rw [hA]; rfl
  have hsa : (cellsOf A).toArray.size = 51 := by rw [← hlen]; exact List.size_toArray
  have hse : (entsOf A).length = 51 := by rw [← hlen]; simp only [entsOf, cellsOf, List.length_map]
  have hu2 : ∀ h, ((lvC (Y 5) 9 1 (fun _ => [arrV (Y 1) 9 (fun _ => defaultValue .boolean)]) h).map fun c => c.slots.size).sum = 90 := fun h => by simp [lvC, arrV_size, List.range, List.range.loop]
  have hused : ((cellsOf A).map fun c => c.slots.size).sum = 455 := by rw [hA]; simp [lvC, arrV_size, List.range, List.range.loop]
  refine W_multi3 (cs := cellsOf A) (cA := Y 4) C.1 C.2.1 C.2.2.2.1 (C.2.2.2.2.1.use hcl) (F.1 4 _ rfl) (g := F0 m pc ls _) rfl hd rfl (by rw [hlen]; exact hcs.1) (by rw [hused]; exact hcs.2) (fun vm₁ CE d acts s' Q' lim lih hal hvm hH h1 h2 hQ => ?_) ?_
  · obtain ⟨k4, c4, g1, g2, -, g3, -⟩ := F.2.1.at hal (k := 4) rfl
    obtain ⟨k5, c5, b1, b2, -, -, b3⟩ := F.2.1.at hal (k := 5) rfl
    obtain ⟨k1, c1, f1, f2, -⟩ := F.2.1.at hal (k := 1) rfl
    cases g3 rfl
    cases b3 rfl
    rw [hlen] at h1
    rw [hused] at h2
    refine wpm_s (sz := 10) (us := 90) (inner := lvC (Y 5) 9 1 (fun _ => [arrV (Y 1) 9 (fun _ => defaultValue .boolean)])) (by rw [hvm]; exact g1) g2 rfl n5 (fun x hx => by
      rcases List.mem_cons.mp hx with rfl | hx
      · exact n9
      · rw [List.mem_singleton.mp hx]; exact n9) (by rw [e5]; exact lim _ (by decide)) (by rw [e5]; exact lih _ (by decide)) (fun _ => rfl) hu2 (fun d2 acts2 s2 Q2 hv2 z1 z2 hQ2 => ?_) (by rw [e5]; omega) (by rw [e5]; omega) (fun d' acts' => ?_)
    · refine wpm_s (sz := 1) (us := 9) (inner := fun _ => [arrV (Y 1) 9 (fun _ => defaultValue .boolean)]) (by rw [hv2, hvm]; exact b1) b2 rfl n9 (fun x hx => by rw [List.mem_singleton.mp hx]; exact n9) (by rw [e9]; exact lim _ (by decide)) (by rw [e9]; exact lih _ (by decide)) (fun _ => rfl) (fun _ => by simp [arrV_size]) (fun d3 acts3 s3 Q3 hv3 y1 y2 hQ3 => ?_) (by rw [e9]; omega) (by rw [e9]; omega) (fun d' acts' => ?_)
      · refine wpm_1 (type := .boolean) (comp := c1) (by rw [hv3, hv2, hvm]; exact f1) f2 n9 (by rw [e9]; exact lim _ (by decide)) (by rw [e9]; exact lih _ (by decide)) rfl rfl (by omega) (by rw [e9]; omega) (fun d' acts' => ?_)
        rw [e9]
        exact hQ3 d' acts'
      · rw [e9]
        exact hQ2 d' acts'
    · have := hQ d' acts'
      rw [hA, ← hz, ← hH] at this
      rw [e5]
      exact this
  · rw [hlen, hused]
    have := k (H ++ (cellsOf A).toArray) locs ls (grown_P hP hz) (by rw [Array.size_append, hsa, List.length_append, hse, hz]; omega) ⟨Nat.le_trans hS.1 (by rw [Array.size_append]; omega), fun x h1 h2 => by rw [Array.getElem?_append_left (Nat.lt_of_lt_of_le h1 hS.1)]; exact hS.2.1 x h1 h2, hS.2.2⟩ hl
    rw [← hz] at this
    exact this
end XM
