/-! ===== what is known at the law's entry ===== -/
section EN
variable {A : Array Value} {s : State}
theorem en_TB (hts : ∀ w ∈ lw_tbl, w.before A s = true) : TB s := fun w hw => va_any (okW_onTables (List.mem_filter.mp hw).2) (hts w (List.mem_filter.mp hw).1)
theorem en_K (hT : TB s) : ∃ D, va_K D vwCl [] s := by
  obtain ⟨c0, i0, k0⟩ := u_known (ws := Tz) (s := s) (args := #[]) hT inX0 (hT _ is_X0)
  obtain ⟨c1, i1, k1⟩ := u_known (ws := Tz) (s := s) (args := #[]) hT inX2 (hT _ is_X2)
  obtain ⟨c2, i2, k2⟩ := u_known (ws := Tz) (s := s) (args := #[]) hT inX3 (hT _ is_X3)
  obtain ⟨c3, i3, k3⟩ := u_known (ws := Tz) (s := s) (args := #[]) hT inX4 (hT _ is_X4)
  obtain ⟨c4, i4, k4⟩ := u_known (ws := Tz) (s := s) (args := #[]) hT inX5 (hT _ is_X5)
  obtain ⟨c5, i5, k5⟩ := u_known (ws := Tz) (s := s) (args := #[]) hT inX6 (hT _ is_X6)
  obtain ⟨c6, i6, k6⟩ := u_known (ws := Tz) (s := s) (args := #[]) hT inX7 (hT _ is_X7)
  refine ⟨(fun k => match k with | 0 => c0 | 1 => c1 | 2 => c2 | 3 => c3 | 4 => c4 | 5 => c5 | _ => c6, fun k => match k with | 0 => i0 | 1 => i1 | 2 => i2 | 3 => i3 | 4 => i4 | 5 => i5 | _ => i6), fun c q hq => ?_, fun k q hq => by cases hq⟩
  match c, hq with
  | 0, hq => cases hq; exact k0
  | 1, hq => cases hq; exact k1
  | 2, hq => cases hq; exact k2
  | 3, hq => cases hq; exact k3
  | 4, hq => cases hq; exact k4
  | 5, hq => cases hq; exact k5
  | 6, hq => cases hq; exact k6
  | c + 7, hq => cases hq
theorem arr_of_kind {U : State} {cA : ClassId} {kA : Class} {comp : ClassId} {ty : FieldType} (h1 : U.vm.classes[cA]? = some kA) (h2 : kA.kind = .array comp ty) : ArrOfT U cA ty := fun n z => by
  simp only [State.isArrayOf, arrV, h1, h2]
  exact ⟨fun k h => VmData.noConfusion h, kA, rfl, comp, h2⟩
theorem en_Y (hts : ∀ w ∈ lw_tbl, w.before A s = true) : ∃ Y, KY Y s ∧ XE Y s := by
  obtain ⟨y0, a0, p0, f0, g0, h0⟩ := Cond.arrayClass_spec (hts _ (tz1 (List.mem_of_getElem? (i := 53) rfl)))
  obtain ⟨y1, a1, p1, f1, g1, h1⟩ := Cond.arrayClass_spec (hts _ (tz5 (List.mem_of_getElem? (i := 156) rfl)))
  have ho := hts _ (tz1 (List.mem_of_getElem? (i := 26) rfl))
  obtain ⟨p2, y2, a2, -, -, g2, h2, f2⟩ := Cond.arrayOver_spec ho
  obtain ⟨p3, y3, a3, e3, g3, h3, f3⟩ := over_spec (hts _ (tz5 (List.mem_of_getElem? (i := 127) rfl)))
  obtain ⟨p4, y4, a4, e4, g4, h4, f4⟩ := over_spec (hts _ (tz5 (List.mem_of_getElem? (i := 129) rfl)))
  obtain ⟨p5, y5, a5, e5, g5, h5, f5⟩ := over_spec (hts _ (tz5 (List.mem_of_getElem? (i := 130) rfl)))
  obtain ⟨y6, a6, p6, f6, g6, h6⟩ := Cond.arrayClass_spec (hts _ (tz7 (List.mem_of_getElem? (i := 34) rfl)))
  obtain ⟨y7, a7, p7, f7, g7, h7⟩ := Cond.arrayClass_spec (hts _ (tz7 (List.mem_of_getElem? (i := 35) rfl)))
  have q3 : p3 = y0 := Option.some.inj (e3.symm.trans f0)
  have q4 : p4 = y5 := Option.some.inj (e4.symm.trans f5)
  have q5 : p5 = y1 := Option.some.inj (e5.symm.trans f1)
  refine ⟨fun k => match k with | 0 => y0 | 1 => y1 | 2 => y2 | 3 => y3 | 4 => y4 | 5 => y5 | 6 => y6 | _ => y7, fun k ty hk => ?_, fun k ty hk => ?_, fun k ty hk => ?_, va_AO.of ho⟩
  · match k, hk with
    | 0, hk => cases hk; exact arr_of_kind g0 h0
    | 1, hk => cases hk; exact arr_of_kind g1 h1
    | 2, hk => cases hk; exact arr_of_kind g2 h2
    | 3, hk => cases hk; exact arr_of_kind g3 h3
    | 4, hk => cases hk; exact arr_of_kind g4 h4
    | 5, hk => cases hk; exact arr_of_kind g5 h5
    | 6, hk => cases hk; exact arr_of_kind g6 h6
    | 7, hk => cases hk; exact arr_of_kind g7 h7
    | k + 8, hk => cases hk
  · match k, hk with
    | 0, hk => cases hk; exact f0
    | 1, hk => cases hk; exact f1
    | 2, hk => cases hk; exact f2
    | 3, hk => cases hk; exact f3
    | 4, hk => cases hk; exact f4
    | 5, hk => cases hk; exact f5
    | 6, hk => cases hk; exact f6
    | 7, hk => cases hk; exact f7
    | k + 8, hk => cases hk
  · match k, hk with
    | 0, hk => cases hk; exact ⟨a0, p0, g0, h0, fun h => absurd h (by decide), fun h => absurd h (by decide), fun h => absurd h (by decide)⟩
    | 1, hk => cases hk; exact ⟨a1, p1, g1, h1, fun h => absurd h (by decide), fun h => absurd h (by decide), fun h => absurd h (by decide)⟩
    | 2, hk => cases hk; exact ⟨a2, p2, g2, h2, fun h => absurd h (by decide), fun h => absurd h (by decide), fun h => absurd h (by decide)⟩
    | 3, hk => cases hk; exact ⟨a3, p3, g3, h3, fun _ => q3, fun h => absurd h (by decide), fun h => absurd h (by decide)⟩
    | 4, hk => cases hk; exact ⟨a4, p4, g4, h4, fun h => absurd h (by decide), fun _ => q4, fun h => absurd h (by decide)⟩
    | 5, hk => cases hk; exact ⟨a5, p5, g5, h5, fun h => absurd h (by decide), fun h => absurd h (by decide), fun _ => q5⟩
    | 6, hk => cases hk; exact ⟨a6, p6, g6, h6, fun h => absurd h (by decide), fun h => absurd h (by decide), fun h => absurd h (by decide)⟩
    | 7, hk => cases hk; exact ⟨a7, p7, g7, h7, fun h => absurd h (by decide), fun h => absurd h (by decide), fun h => absurd h (by decide)⟩
    | k + 8, hk => cases hk
theorem en_str {k : Nat} {tx : String} (h1 : (Cond.stringRef RX6 k tx).before A s = true) : ∃ a, vk_R RX6 k tx a s := by
  have hcur : ∃ cur, s.vm.findClass RX6 = some cur := by
    have h2 := h1
    simp only [Cond.before, Cond.holds, Cond.value] at h2
    cases hc : s.vm.findClass RX6 with
    | none => simp [hc] at h2
    | some cur => exact ⟨cur, rfl⟩
  obtain ⟨cur, hcur⟩ := hcur
  obtain ⟨k', cf, i, a, -, -, -, -, -, hev⟩ := Cond.stringRef_spec hcur h1
  exact ⟨a, vk_R.of h1 hev⟩
theorem en_SR (hts : ∀ w ∈ lw_tbl, w.before A s = true) : SR s := fun q hq => (List.forall_mem_cons.mpr ⟨en_str (hts _ (tz2 (List.mem_of_getElem? (i := 34) rfl))), List.forall_mem_cons.mpr ⟨en_str (hts _ (tz2 (List.mem_of_getElem? (i := 73) rfl))), List.forall_mem_cons.mpr ⟨en_str (hts _ (tz2 (List.mem_of_getElem? (i := 110) rfl))), List.forall_mem_cons.mpr ⟨en_str (hts _ (tz2 (List.mem_of_getElem? (i := 120) rfl))), List.forall_mem_cons.mpr ⟨en_str (hts _ (tz2 (List.mem_of_getElem? (i := 146) rfl))), List.forall_mem_cons.mpr ⟨en_str (hts _ (tz2 (List.mem_of_getElem? (i := 166) rfl))), List.forall_mem_cons.mpr ⟨en_str (hts _ (tz2 (List.mem_of_getElem? (i := 234) rfl))), List.forall_mem_cons.mpr ⟨en_str (hts _ (tz3 (List.mem_of_getElem? (i := 42) rfl))), List.forall_mem_cons.mpr ⟨en_str (hts _ (tz4 (List.mem_of_getElem? (i := 26) rfl))), List.forall_mem_cons.mpr ⟨en_str (hts _ (tz4 (List.mem_of_getElem? (i := 54) rfl))), List.forall_mem_cons.mpr ⟨en_str (hts _ (tz4 (List.mem_of_getElem? (i := 135) rfl))), List.forall_mem_nil _⟩⟩⟩⟩⟩⟩⟩⟩⟩⟩⟩ : ∀ q ∈ strL, ∃ a, vk_R RX6 q.1 q.2 a s) q hq
theorem en_NC (hg : ∀ w ∈ flatC (Jvm.Cond.and given_1 narrow_1), w.before A s = true) : NC s := fun q hq => by
  have h : ∀ q ∈ ncL, (Cond.not (.castable q.1 q.2)).before A s = true := fun q hq => hg _ ((by decide +kernel : ∀ q ∈ ncL, Cond.not (.castable q.1 q.2) ∈ flatC (Jvm.Cond.and given_1 narrow_1)) q hq)
  exact va_Nc.of (h q hq)
theorem en_XI (hts : ∀ w ∈ lw_tbl, w.before A s = true) (hg : ∀ w ∈ flatC (Jvm.Cond.and given_1 narrow_1), w.before A s = true) : XI s.heap.size s :=
  ⟨en_SR hts, en_NC hg, vx_Zqof (hts _ (tz2 (List.mem_of_getElem? (i := 20) rfl))) (hts _ (tz1 (List.mem_of_getElem? (i := 8) rfl))) (hg _ (by decide +kernel)) (fun a h => Nat.not_le.mpr h), vx_Zqof (hts _ (tz2 (List.mem_of_getElem? (i := 22) rfl))) (hts _ (tz1 (List.mem_of_getElem? (i := 8) rfl))) (hg _ (by decide +kernel)) (fun a h => Nat.not_le.mpr h)⟩
end EN
theorem mkW_WL {B : Nat} {Y : Nat → ClassId} {M : Mem} {o : Ou} : mkW B ((List.range 112).map (ent B Y M o)) = WL B Y M o := by
  apply List.ext_getElem?
  intro j
  rw [mkW_get, WL, List.getElem?_map, List.getElem?_map, Option.map_map]
  by_cases h : j < 112
  · rw [List.getElem?_range h]; rfl
  · rw [List.getElem?_eq_none (by simp; omega)]; rfl
def M0 : Mem := fun _ _ => 0
def gL (B : Nat) (Y : Nat → ClassId) : List va_E := g6 B Y (0 + 0) ++ g7 B Y (0 + 47) ++ [.inl (Y 6, 1, .inr (.inl (fun _ => 0)))] ++ [.inl (Y 7, 1, .inr (.inr (.inr (.inl (fun _ => 0)))))]
theorem gL_all (B : Nat) (Y : Nat → ClassId) : gL B Y = (List.range 112).map (ent B Y M0 (fun _ => 0, fun _ => 0)) := by rfl
theorem J_M0 : J M0 := fun o ho => ⟨0, fun _ => 0, ⟨by decide, fun k hk => absurd hk (by omega), fun k hk => absurd hk (by omega), fun k hk => absurd hk (by omega)⟩, ⟨by decide, rfl, fun k hk => absurd hk (by omega)⟩, ⟨by omega, by decide, rfl, fun k hk => absurd hk (by omega)⟩, fun k hk => absurd hk (by omega), fun k _ j _ => rfl⟩
