/-! ===== both sides at once ===== -/
/-- class and reference have the same order at number o -/
def PO (M : Mem) (o n : Nat) (b : Nat → Nat) : Prop := St b n ∧ OR M (2 + 3 * o) n b ∧ MR M o n b ∧ (∀ k < n, M (2 + 3 * o + 2) k = M (50 + o) k) ∧ ∀ k < 9, ∀ j < 9, isb (M (56 + 10 * o + 1 + k) j) = true
def J (M : Mem) : Prop := ∀ o < 4, ∃ n b, PO M o n b
/-- order o is as it was -/
def SO (o : Nat) (M M' : Mem) : Prop := (∀ a, a = 2 + 3 * o ∨ a = 3 + 3 * o ∨ a = 4 + 3 * o ∨ a = 50 + o ∨ (57 + 10 * o ≤ a ∧ a ≤ 65 + 10 * o) → M' a = M a) ∧ M' 48 o = M 48 o
def scr (a : Nat) : Prop := a < 2 ∨ (14 ≤ a ∧ a < 48) ∨ a = 54 ∨ 96 ≤ a
theorem SO.fr {o : Nat} {M M' : Mem} {c : List Nat} (ho : o < 4) (hf : Fr M M' c) (hc : ∀ a ∈ c, scr a) : SO o M M' := by
  have H : ∀ a, ¬ scr a → M' a = M a := fun a ha => hf a (fun h => ha (hc a h))
  unfold scr at H
  exact ⟨fun a ha => H a (by omega), by rw [H 48 (by omega)]⟩
theorem SO.trans {o : Nat} {M M' M'' : Mem} (h : SO o M M') (h' : SO o M' M'') : SO o M M'' := ⟨fun a ha => by rw [h'.1 a ha, h.1 a ha], by rw [h'.2, h.2]⟩
theorem PO.same {M M' : Mem} {o n : Nat} {b : Nat → Nat} (h : PO M o n b) (hs : SO o M M') : PO M' o n b := by
  obtain ⟨h1, h2, h3, h4, h5⟩ := h
  have h9 := h2.le
  refine ⟨h1, h2.same (hs.1 _ (by omega)) (hs.1 _ (by omega)), ⟨h3.o, h3.le, by rw [hs.2]; exact h3.n, fun k hk => ⟨h3.lt hk, fun j hj => ?_⟩⟩, fun k hk => ?_, fun k hk j hj => ?_⟩
  · rw [hs.1 _ (by omega)]; exact h3.b hk hj
  · rw [hs.1 _ (by omega), hs.1 _ (by omega)]; exact h4 k hk
  · rw [hs.1 _ (by omega)]; exact h5 k hk j hj
theorem J.fr {M M' : Mem} {c : List Nat} (h : J M) (hf : Fr M M' c) (hc : ∀ a ∈ c, scr a) : J M' := fun o ho => by
  obtain ⟨n, b, h1⟩ := h o ho
  exact ⟨n, b, h1.same (SO.fr ho hf hc)⟩
theorem PO.fr {M M' : Mem} {o n : Nat} {b : Nat → Nat} {c : List Nat} (h : PO M o n b) (ho : o < 4) (hf : Fr M M' c) (hc : ∀ a ∈ c, scr a) : PO M' o n b := h.same (SO.fr ho hf hc)
theorem J.step {M M' : Mem} {o : Nat} (h : J M) (hs : ∀ p < 4, p ≠ o → SO p M M') (hn : ∃ n b, PO M' o n b) : J M' := fun p hp => by
  by_cases e : p = o
  · subst e; exact hn
  · obtain ⟨n, b, h1⟩ := h p hp
    exact ⟨n, b, h1.same (hs p hp e)⟩
theorem fr47 {M : Mem} {x : Int32} : Fr M (upM M 47 3 x) [47] := Fr.up (by simp)
theorem scr47 : ∀ a ∈ [47], scr a := by
  intro a ha
  simp only [List.mem_cons, List.not_mem_nil, or_false] at ha
  unfold scr; omega
theorem PO.cd {M : Mem} {o n : Nat} {b : Nat → Nat} (h : PO M o n b) (ho : o < 4) (x : Int32) : PO (upM M 47 3 x) o n b := h.fr ho fr47 scr47
theorem J.cd {M : Mem} (h : J M) (x : Int32) : J (upM M 47 3 x) := h.fr fr47 scr47
theorem t_lets1 {M : Mem} {x : Int32} : f_X7_lets M 1 x = some (1, upM M 47 3 0) := by
  have : isb 1 = true := rfl
  simp only [f_X7_lets, e10, if_false, bd_some, this, chk_t]
theorem t_lets0 {M : Mem} {x : Int32} : f_X7_lets M 0 x = some (0, upM M 47 3 x) := by
  have : isb 0 = true := rfl
  simp only [f_X7_lets, if_true, bd_some, this, chk_t]
theorem kd4 {o : Nat} (ho : o < 4) : decide (kd (2 + 3 * o) = 2) = true := by
  have : ∀ o < 4, decide (kd (2 + 3 * o) = 2) = true := by decide
  exact this o ho
theorem s_orderAt {M : Mem} {o : Nat} (ho : o < 4) : f_X6_orderAt M (iN o) = some (.inr (2 + 3 * o), M) := by
  have e4 : (4 : Int32) = iN 4 := rfl
  unfold f_X6_orderAt
  simp (disch := omega) only [iN_n0, if_false, e4, iN_lt, if_pos ho, chk_inb, clamp_iN]
theorem t_isOrder {o : Nat} (ho : o < 4) : f_X7_isOrder (iN o) = some 1 := by
  have : ∀ o < 4, f_X7_isOrder (iN o) = some 1 := by decide +kernel
  exact this o ho
theorem ordc (x : Int32) : (∃ o, o < 4 ∧ x = iN o) ∨ ((∀ M, f_X6_orderAt M x = some (.inl eI, M)) ∧ f_X7_isOrder x = some 0) := by
  have hb : isb 0 = true := rfl
  by_cases hx : x < 0
  · right
    refine ⟨fun M => by unfold f_X6_orderAt; rw [if_pos hx], ?_⟩
    unfold f_X7_isOrder f_X7_in
    rw [if_pos hx, bd_some, hb, chk_t]
  · obtain ⟨k, hk, rfl⟩ := nonneg hx
    rcases Nat.lt_or_ge k 4 with h | h
    · exact Or.inl ⟨k, h, rfl⟩
    · right
      have e4 : (4 : Int32) = iN 4 := rfl
      have e3 : (3 : Int32) = iN 3 := rfl
      refine ⟨fun M => ?_, ?_⟩
      · unfold f_X6_orderAt
        rw [if_neg hx, e4, if_neg (show ¬ iN k < iN 4 by rw [iN_lt hk (by decide)]; omega)]
      · unfold f_X7_isOrder f_X7_in
        rw [if_neg hx, e3, if_pos (show iN 3 < iN k by rw [iN_lt (by decide) hk]; omega), bd_some, hb, chk_t]
theorem n1sub {n : Nat} (hn : n ≤ 9) {k : Nat} (hk : k < 2 ^ 31) : (iN n - 1 < iN k) = (n ≤ k) := by
  rcases Nat.eq_zero_or_pos n with rfl | h
  · have e : iN 0 - 1 = (-1 : Int32) := by decide
    rw [e]
    apply propext
    constructor
    · intro _; omega
    · intro _
      rw [Int32.lt_iff_toInt_lt, iN_toInt hk]
      have : (-1 : Int32).toInt = -1 := by decide
      omega
  · rw [iN_1, iN_sub h, iN_lt (by omega) hk]
    apply propext; omega
theorem t_inN {n : Nat} (hn : n ≤ 9) (x : Int32) : f_X7_in x 0 (iN n - 1) = some (bI (decide (∃ k, k < n ∧ x = iN k))) := by
  unfold f_X7_in
  by_cases hx : x < 0
  · have : ¬ ∃ k, k < n ∧ x = iN k := by
      rintro ⟨k, hk, rfl⟩
      rw [iN_n0 (by omega)] at hx
      exact hx
    rw [if_pos hx, decide_eq_false this]; rfl
  · obtain ⟨k, hk, rfl⟩ := nonneg hx
    rw [if_neg hx]
    simp only [n1sub hn hk]
    by_cases h : n ≤ k
    · have : ¬ ∃ j, j < n ∧ iN k = iN j := by
        rintro ⟨j, hj, e⟩
        rw [iN_eq hk (by omega)] at e
        omega
      rw [if_pos h, decide_eq_false this]; rfl
    · rw [if_neg h, decide_eq_true ⟨k, by omega, rfl⟩]; rfl
section CA
variable {M : Mem} {o n : Nat} {b : Nat → Nat}
theorem t_isThing (h : MR M o n b) (ho : o < 4) (x : Int32) : f_X7_isThing M (iN o) x = some (bI (decide (∃ k, k < n ∧ x = iN k))) := by
  have h9 := h.le
  have hin := t_inN h9 x
  unfold f_X7_isThing
  simp (disch := omega) only [t_isOrder ho, bd_some, e10, if_false, chk_inb, clamp_iN, h.n, hin]
  cases decide (∃ k, k < n ∧ x = iN k) <;> rfl
theorem s_orderWith (h : OR M (2 + 3 * o) n b) (ho : o < 4) (x : Int32) : f_X6_orderWith M (iN o) x = some (if (∃ k, k < n ∧ x = iN k) then .inr (2 + 3 * o) else .inl eI, M) := by
  have hh := s_hasThing h x
  unfold f_X6_orderWith
  rw [s_orderAt ho, bd_some]
  simp only [cx, kd4 ho, chk_t, hh, bd_some]
  by_cases e : ∃ k, k < n ∧ x = iN k
  · rw [decide_eq_true e, if_pos e]; rfl
  · rw [decide_eq_false e, if_neg e]; rfl
theorem thc (hJ : J M) (x y : Int32) : (∃ o n b k, o < 4 ∧ PO M o n b ∧ k < n ∧ x = iN o ∧ y = iN k) ∨ (f_X6_orderWith M x y = some (.inl eI, M) ∧ f_X7_isThing M x y = some 0) := by
  rcases ordc x with ⟨o, ho, rfl⟩ | ⟨h1, h2⟩
  · obtain ⟨n, b, P⟩ := hJ o ho
    by_cases e : ∃ k, k < n ∧ y = iN k
    · obtain ⟨k, hk, rfl⟩ := e
      exact Or.inl ⟨o, n, b, k, ho, P, hk, rfl, rfl⟩
    · right
      rw [s_orderWith P.2.1 ho, t_isThing P.2.2.1 ho, if_neg e, decide_eq_false e]
      exact ⟨rfl, rfl⟩
  · right
    refine ⟨?_, ?_⟩
    · unfold f_X6_orderWith
      rw [h1, bd_some]; rfl
    · unfold f_X7_isThing
      rw [h2, bd_some]; rfl
theorem s_orderWith1 (P : PO M o n b) (ho : o < 4) {k : Nat} (hk : k < n) : f_X6_orderWith M (iN o) (iN k) = some (.inr (2 + 3 * o), M) := by rw [s_orderWith P.2.1 ho, if_pos ⟨k, hk, rfl⟩]
theorem t_isThing1 (P : PO M o n b) (ho : o < 4) {k : Nat} (hk : k < n) : f_X7_isThing M (iN o) (iN k) = some 1 := by rw [t_isThing P.2.2.1 ho, decide_eq_true ⟨k, hk, rfl⟩]; rfl
theorem s_orderWithBoth1 (P : PO M o n b) (ho : o < 4) {j k : Nat} (hj : j < n) (hk : k < n) : f_X6_orderWithBoth M (iN o) (iN j) (iN k) = some (.inr (2 + 3 * o), M) := by
  have h9 := P.2.1.le
  have hh := hasThing_n P.2.1 (k := k) (by omega)
  rw [decide_eq_true hk] at hh
  unfold f_X6_orderWithBoth
  rw [s_orderWith1 P ho hj, bd_some]
  simp only [cx, kd4 ho, chk_t, hh, bd_some, bI_t, e10, if_false]
theorem boc (hJ : J M) (x y z : Int32) : (∃ o n b j k, o < 4 ∧ PO M o n b ∧ j < n ∧ k < n ∧ x = iN o ∧ y = iN j ∧ z = iN k) ∨ (f_X6_orderWithBoth M x y z = some (.inl eI, M) ∧ (f_X7_isThing M x y = some 0 ∨ (f_X7_isThing M x y = some 1 ∧ f_X7_isThing M x z = some 0))) := by
  rcases thc hJ x y with ⟨o, n, b, j, ho, P, hj, rfl, rfl⟩ | ⟨h1, h2⟩
  · by_cases e : ∃ k, k < n ∧ z = iN k
    · obtain ⟨k, hk, rfl⟩ := e
      exact Or.inl ⟨o, n, b, j, k, ho, P, hj, hk, rfl, rfl, rfl⟩
    · right
      have hh := s_hasThing P.2.1 z
      rw [decide_eq_false e] at hh
      refine ⟨?_, Or.inr ⟨t_isThing1 P ho hj, by rw [t_isThing P.2.2.1 ho, decide_eq_false e]; rfl⟩⟩
      unfold f_X6_orderWithBoth
      rw [s_orderWith1 P ho hj, bd_some]
      simp only [cx, kd4 ho, chk_t, hh, bd_some, bI_f, if_true]
  · right
    refine ⟨?_, Or.inl h2⟩
    unfold f_X6_orderWithBoth
    rw [h1, bd_some]; rfl
theorem s_orderWithSet1 (P : PO M o n b) (ho : o < 4) {s : Nat} (hs : s < 2 ^ n) : f_X6_orderWithSet M (iN o) (iN s) = some (.inr (2 + 3 * o), M) := by
  have h8 := p2_le P.2.1.le
  unfold f_X6_orderWithSet
  rw [s_orderAt ho, bd_some]
  simp (disch := omega) only [cx, kd4 ho, chk_t, iN_n0, if_false, s_setLimit P.2.1, bd_some, iN_lt, if_pos hs]
theorem t_isSet (h : MR M o n b) (ho : o < 4) (x : Int32) : f_X7_isSet M (iN o) x = some (bI (decide (∃ s, s < 2 ^ n ∧ x = iN s))) := by
  have h9 := h.le
  have h8 := p2_le h9
  unfold f_X7_isSet
  by_cases hx : x < 0
  · have : ¬ ∃ k, k < 2 ^ n ∧ x = iN k := by
      rintro ⟨k, hk, rfl⟩
      rw [iN_n0 (by omega)] at hx
      exact hx
    rw [if_pos hx, decide_eq_false this]; rfl
  · obtain ⟨k, hk, rfl⟩ := nonneg hx
    rw [if_neg hx]
    by_cases e : 2 ^ n ≤ k
    · have : ¬ ∃ j, j < 2 ^ n ∧ iN k = iN j := by
        rintro ⟨j, hj, e⟩
        rw [iN_eq hk (by omega)] at e
        omega
      rw [decide_eq_false this]
      simp (disch := omega) only [chk_inb, clamp_iN, h.n, iN_shl, iN_le, if_pos e]; rfl
    · rw [decide_eq_true ⟨k, by omega, rfl⟩]
      simp (disch := omega) only [chk_inb, clamp_iN, h.n, iN_shl, iN_le, if_neg e]; rfl
theorem t_isSet1 (P : PO M o n b) (ho : o < 4) {s : Nat} (hs : s < 2 ^ n) : f_X7_isSet M (iN o) (iN s) = some 1 := by rw [t_isSet P.2.2.1 ho, decide_eq_true ⟨s, hs, rfl⟩]; rfl
theorem sec (hJ : J M) (x y : Int32) : (∃ o n b s, o < 4 ∧ PO M o n b ∧ s < 2 ^ n ∧ x = iN o ∧ y = iN s) ∨ (f_X6_orderWithSet M x y = some (.inl eI, M) ∧ f_X7_isOrder x = some 0) ∨ (f_X6_orderWithSet M x y = some (.inl eA, M) ∧ f_X7_isOrder x = some 1 ∧ ∀ c, f_X7_isSet (upM M 47 3 c) x y = some 0) := by
  rcases ordc x with ⟨o, ho, rfl⟩ | ⟨h1, h2⟩
  · obtain ⟨n, b, P⟩ := hJ o ho
    have h8 := p2_le P.2.1.le
    by_cases e : ∃ s, s < 2 ^ n ∧ y = iN s
    · obtain ⟨s, hs, rfl⟩ := e
      exact Or.inl ⟨o, n, b, s, ho, P, hs, rfl, rfl⟩
    · right; right
      refine ⟨?_, t_isOrder ho, fun c => by rw [t_isSet (P.cd ho c).2.2.1 ho, decide_eq_false e]; rfl⟩
      unfold f_X6_orderWithSet
      rw [s_orderAt ho, bd_some]
      simp only [cx, kd4 ho, chk_t]
      by_cases hx : y < 0
      · rw [if_pos hx]
      · obtain ⟨k, hk, rfl⟩ := nonneg hx
        rw [if_neg hx, s_setLimit P.2.1, bd_some, if_neg (show ¬ iN k < iN (2 ^ n) by rw [iN_lt hk (by omega)]; exact fun h => e ⟨k, h, rfl⟩)]
  · right; left
    refine ⟨?_, h2⟩
    unfold f_X6_orderWithSet
    rw [h1, bd_some]; rfl
end CA
/-! the law's comparison -/
def OKJ (r : Option (Option Mem)) : Prop := ∃ M', r = some (some M') ∧ J M'
def LI (fL : Option (Int32 × Mem × Option Int64)) (fR : Mem → Option (Int32 × Mem)) : Option (Option Mem) := bd fL (fun z => bd (fR z.2.1) (fun y => bd (f_X7_thrown y.2) (fun t => if t = z.1 then if z.1 = 0 then bd z.2.2 (fun w => if (lg_cmp w y.1.toInt64) = 0 then some (some y.2) else some none) else some (some y.2) else some none)))
def LB (fL : Option (Int32 × Mem × Option Int64)) (fR : Mem → Option (Int32 × Mem)) : Option (Option Mem) := bd fL (fun z => bd (fR z.2.1) (fun y => bd (f_X7_thrown y.2) (fun t => if t = z.1 then if z.1 = 0 then bd z.2.2 (fun w => if y.1 = 0 then if (lg_cmp w 0) = 0 then some (some y.2) else some none else if (lg_cmp w 1) = 0 then some (some y.2) else some none) else some (some y.2) else some none)))
theorem lgc (w : Int64) : lg_cmp w w = 0 := by
  simp [lg_cmp]
section CB
variable {fL : Option (Int32 × Mem × Option Int64)} {fR : Mem → Option (Int32 × Mem)} {M1 M2 : Mem} {v c : Int32}
theorem LI_ok (hL : fL = some (0, M1, some v.toInt64)) (hR : fR M1 = some (v, M2)) (hc : M2 47 3 = 0) (hJ : J M2) : OKJ (LI fL fR) := by
  refine ⟨M2, ?_, hJ⟩
  simp only [LI, hL, hR, bd_some, f_X7_thrown, hc, if_true, lgc]
theorem LI_ex (hL : fL = some (c, M1, none)) (hR : fR M1 = some (v, M2)) (hc : M2 47 3 = c) (h0 : c ≠ 0) (hJ : J M2) : OKJ (LI fL fR) := by
  refine ⟨M2, ?_, hJ⟩
  simp only [LI, hL, hR, bd_some, f_X7_thrown, hc, if_true, h0, if_false]
theorem LB_ok {g : Bool} (hL : fL = some (0, M1, some (if g then 1 else 0))) (hR : fR M1 = some (bI g, M2)) (hc : M2 47 3 = 0) (hJ : J M2) : OKJ (LB fL fR) := by
  refine ⟨M2, ?_, hJ⟩
  cases g
  · simp only [LB, hL, hR, bd_some, f_X7_thrown, hc, if_true, lgc, bI_f, Bool.false_eq_true, if_false]
  · simp only [LB, hL, hR, bd_some, f_X7_thrown, hc, if_true, lgc, bI_t, e10, if_false]
theorem LB_ex (hL : fL = some (c, M1, none)) (hR : fR M1 = some (v, M2)) (hc : M2 47 3 = c) (h0 : c ≠ 0) (hJ : J M2) : OKJ (LB fL fR) := by
  refine ⟨M2, ?_, hJ⟩
  simp only [LB, hL, hR, bd_some, f_X7_thrown, hc, if_true, h0, if_false]
end CB
theorem eAI : (eA = eI) = False := by simp [eA, eI]
theorem eSI : (eS = eI) = False := by simp [eS, eI]
theorem eSA : (eS = eA) = False := by simp [eS, eA]
theorem cd_at {M : Mem} {x : Int32} : upM M 47 3 x 47 3 = x := upM_eq
theorem h10 : (1 : Int32) ≠ 0 := by decide
theorem h20 : (2 : Int32) ≠ 0 := by decide
theorem h30 : (3 : Int32) ≠ 0 := by decide
/-! first cases -/
section CC
variable {M : Mem} {a1 a2 a3 : Int32}
theorem c_14 (hJ : J M) : OKJ (f_law_14 M a1 a2 a3) := by
  show OKJ (LI (f_L_things M a1) (fun M => f_X7_things M a1))
  rcases ordc a1 with ⟨o, ho, rfl⟩ | ⟨h1, h2⟩
  · obtain ⟨n, b, P⟩ := hJ o ho
    have P' := P.cd ho 0
    have e6 : f_X6_things M (iN o) = some (.inr (iN n), M) := by
      simp (disch := omega) only [f_X6_things, s_orderAt ho, bd_some, cx, kd4 ho, chk_t, P.2.1.n]
    have e7 : f_X7_things M (iN o) = some (iN n, upM M 47 3 0) := by
      simp (disch := omega) only [f_X7_things, t_isOrder ho, bd_some, t_lets1, e10, if_false, chk_inb, clamp_iN, P'.2.2.1.n]
    exact LI_ok (by simp only [f_L_things, e6, bd_some, lx]) e7 cd_at (hJ.cd 0)
  · have e6 : f_X6_things M a1 = some (.inl eI, M) := by simp only [f_X6_things, h1, bd_some, cx]
    have e7 : f_X7_things M a1 = some (0, upM M 47 3 1) := by simp only [f_X7_things, h2, bd_some, t_lets0, if_true]
    exact LI_ex (by simp only [f_L_things, e6, bd_some, lx, if_true]) e7 cd_at h10 (hJ.cd 1)
end CC
