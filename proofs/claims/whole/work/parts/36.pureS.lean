/-! ===== (8) of the theorem: two orders joined ===== -/
theorem shl_all : ∀ a < 512, ∀ k < 10, iN a <<< (iN k &&& 31) = iN (a * 2 ^ k) := by decide +kernel
theorem iN_shl2 {a k : Nat} (ha : a < 512) (hk : k < 10) : iN a <<< (iN k &&& 31) = iN (a * 2 ^ k) := shl_all a ha k hk
theorem jmin_iN {a c : Nat} (ha : a < 2 ^ 31) (hc : c < 2 ^ 31) : jmin (iN a) (iN c) = iN (min a c) := by
  unfold jmin
  simp only [iN_lt hc ha]
  split
  · rw [Nat.min_eq_right (by omega)]
  · rw [Nat.min_eq_left (by omega)]
/-- below k in the two orders joined -/
def jn (b1 : Nat → Nat) (n1 : Nat) (b2 : Nat → Nat) (n2 : Nat) (st : Bool) (k : Nat) : Nat := mk (n1 + n2) (fun j => if k < n1 then decide (j < n1) && (b1 k).testBit j else if j < n1 then st else (b2 (k - n1)).testBit (j - n1))
section JL
variable {n1 n2 : Nat} {b1 b2 : Nat → Nat} {st : Bool}
theorem jn_bit {k j : Nat} (hj : j < n1 + n2) : (jn b1 n1 b2 n2 st k).testBit j = if k < n1 then decide (j < n1) && (b1 k).testBit j else if j < n1 then st else (b2 (k - n1)).testBit (j - n1) := by
  unfold jn
  rw [mk_bit]; simp [hj]
theorem jn_lo (h1 : ∀ k < n1, b1 k < 2 ^ n1) {k : Nat} (hk : k < n1) : jn b1 n1 b2 n2 st k = b1 k := by
  refine set_ext (n := n1 + n2) (mk_lt _ _) (Nat.lt_of_lt_of_le (h1 k hk) (Nat.pow_le_pow_right (by decide) (by omega))) (fun j hj => ?_)
  rw [jn_bit hj, if_pos hk]
  rcases Nat.lt_or_ge j n1 with h | h
  · simp [h]
  · rw [Nat.testBit_lt_two_pow (Nat.lt_of_lt_of_le (h1 k hk) (Nat.pow_le_pow_right (n := 2) (by decide) h))]; simp
theorem jn_hi (h2 : ∀ k < n2, b2 k < 2 ^ n2) {i : Nat} (hi : i < n2) : jn b1 n1 b2 n2 st (n1 + i) = b2 i * 2 ^ n1 ||| (if st then 2 ^ n1 - 1 else 0) := by
  have e0 : b2 i * 2 ^ n1 ||| (if st then 2 ^ n1 - 1 else 0) = 2 ^ n1 * b2 i + (if st then 2 ^ n1 - 1 else 0) := by
    rw [Nat.mul_comm]
    exact (Nat.two_pow_add_eq_or_of_lt (by split <;> have := Nat.two_pow_pos n1 <;> omega) (b2 i)).symm
  have hx : (if st then 2 ^ n1 - 1 else 0) < 2 ^ n1 := by
    have := Nat.two_pow_pos n1
    split <;> omega
  have hlt : 2 ^ n1 * b2 i + (if st then 2 ^ n1 - 1 else 0) < 2 ^ (n1 + n2) := by
    rw [Nat.pow_add]
    have := Nat.mul_le_mul_left (2 ^ n1) (show b2 i + 1 ≤ 2 ^ n2 from h2 i hi)
    rw [Nat.mul_add, Nat.mul_one] at this
    omega
  rw [e0]
  refine set_ext (n := n1 + n2) (mk_lt _ _) hlt (fun j hj => ?_)
  rw [jn_bit hj, if_neg (by omega), Nat.testBit_two_pow_mul_add _ hx, Nat.add_sub_cancel_left]
  by_cases h : j < n1
  · rw [if_pos h, if_pos h]
    cases st
    · simp
    · simp only [if_true]; rw [all_bit]; simp [h]
  · rw [if_neg h, if_neg h]
theorem jn_St (h1 : St b1 n1) (h2 : St b2 n2) (hn : n1 + n2 ≤ 9) : St (jn b1 n1 b2 n2 st) (n1 + n2) := by
  refine ⟨hn, fun k hk => mk_lt _ _, fun k hk => ?_, fun k hk j hj hb i hi hbi => ?_⟩
  · rw [jn_bit hk]
    by_cases h : k < n1
    · rw [if_pos h, h1.2.2.1 k h]; simp
    · rw [if_neg h, if_neg h]; exact h2.2.2.1 _ (by omega)
  · rw [jn_bit hj] at hb
    rw [jn_bit hi] at hbi ⊢
    by_cases hk1 : k < n1
    · rw [if_pos hk1, Bool.and_eq_true, decide_eq_true_eq] at hb
      rw [if_pos hb.1, Bool.and_eq_true, decide_eq_true_eq] at hbi
      rw [if_pos hk1, Bool.and_eq_true, decide_eq_true_eq]
      exact ⟨hbi.1, h1.2.2.2 k hk1 j hb.1 hb.2 i hbi.1 hbi.2⟩
    · rw [if_neg hk1] at hb ⊢
      by_cases hj1 : j < n1
      · rw [if_pos hj1] at hb hbi
        rw [Bool.and_eq_true, decide_eq_true_eq] at hbi
        rw [if_pos hbi.1]; exact hb
      · rw [if_neg hj1] at hb hbi
        by_cases hi1 : i < n1
        · rw [if_pos hi1] at hbi ⊢; exact hbi
        · rw [if_neg hi1] at hbi ⊢
          exact h2.2.2.2 _ (by omega) _ (by omega) hb _ (by omega) hbi
/-- a set of the one, and one of the other -/
def cb (n1 x y : Nat) : Nat := 2 ^ n1 * y + x
theorem cb_lt {x y : Nat} (hx : x < 2 ^ n1) (hy : y < 2 ^ n2) : cb n1 x y < 2 ^ (n1 + n2) := by
  unfold cb
  rw [Nat.pow_add]
  have := Nat.mul_le_mul_left (2 ^ n1) (show y + 1 ≤ 2 ^ n2 from hy)
  rw [Nat.mul_add, Nat.mul_one] at this
  omega
theorem cb_bit {x y : Nat} (hx : x < 2 ^ n1) (k : Nat) : (cb n1 x y).testBit k = if k < n1 then x.testBit k else y.testBit (k - n1) := Nat.testBit_two_pow_mul_add _ hx k
theorem cb_lo {x y k : Nat} (hx : x < 2 ^ n1) (hk : k < n1) : (cb n1 x y).testBit k = x.testBit k := by rw [cb_bit hx, if_pos hk]
theorem cb_hi {x y i : Nat} (hx : x < 2 ^ n1) : (cb n1 x y).testBit (n1 + i) = y.testBit i := by rw [cb_bit hx, if_neg (by omega), Nat.add_sub_cancel_left]
theorem cb_pc {x y : Nat} (hx : x < 2 ^ n1) (hy : y < 2 ^ n2) (hn : n1 + n2 ≤ 9) : pc (cb n1 x y) = pc x + pc y := by
  rw [pc_ct (cb_lt hx hy) hn, pc_ct hx (show n1 ≤ 9 by omega), pc_ct hy (show n2 ≤ 9 by omega)]
  unfold ct
  rw [S_split]
  congr 1
  · exact S_congr (fun k hk => by rw [cb_lo hx hk])
  · exact S_congr (fun i hi => by rw [cb_hi hx])
theorem cb_ex {s : Nat} (hs : s < 2 ^ (n1 + n2)) : ∃ x y, x < 2 ^ n1 ∧ y < 2 ^ n2 ∧ s = cb n1 x y := by
  refine ⟨s % 2 ^ n1, s / 2 ^ n1, Nat.mod_lt _ (Nat.two_pow_pos n1), ?_, ?_⟩
  · rw [Nat.pow_add] at hs
    exact Nat.div_lt_of_lt_mul hs
  · unfold cb
    exact (Nat.div_add_mod s (2 ^ n1)).symm
theorem S_prod {a c : Nat} {f : Nat → Nat} : S (a * c) f = S c (fun y => S a (fun x => f (a * y + x))) := by
  induction c with
  | zero => rfl
  | succ c ih => rw [Nat.mul_succ, S_split, ih, S]
theorem lt_cases {n1 n2 k : Nat} (hk : k < n1 + n2) : k < n1 ∨ ∃ i, i < n2 ∧ k = n1 + i := by
  rcases Nat.lt_or_ge k n1 with h | h
  · exact Or.inl h
  · exact Or.inr ⟨k - n1, by omega, by omega⟩
theorem jb_ll {k j : Nat} (hk : k < n1) (hj : j < n1) : (jn b1 n1 b2 n2 st k).testBit j = (b1 k).testBit j := by rw [jn_bit (by omega), if_pos hk]; simp [hj]
theorem jb_lh {k j : Nat} (hk : k < n1) (hj : j < n2) : (jn b1 n1 b2 n2 st k).testBit (n1 + j) = false := by rw [jn_bit (by omega), if_pos hk, decide_eq_false (by omega)]; rfl
theorem jb_hl {k j : Nat} (hj : j < n1) : (jn b1 n1 b2 n2 st (n1 + k)).testBit j = st := by rw [jn_bit (by omega), if_neg (by omega), if_pos hj]
theorem jb_hh {k j : Nat} (hj : j < n2) : (jn b1 n1 b2 n2 st (n1 + k)).testBit (n1 + j) = (b2 k).testBit j := by rw [jn_bit (by omega), if_neg (by omega), if_neg (by omega), Nat.add_sub_cancel_left, Nat.add_sub_cancel_left]
theorem jn_lt (k : Nat) : jn b1 n1 b2 n2 st k < 2 ^ (n1 + n2) := mk_lt _ _
/-- closed sets of the two -/
theorem jn_cl (h1 : St b1 n1) (h2 : St b2 n2) (hn : n1 + n2 ≤ 9) {x y : Nat} (hx : x < 2 ^ n1) (hy : y < 2 ^ n2) : cl (jn b1 n1 b2 n2 st) (n1 + n2) (cb n1 x y) = true ↔ (cl b1 n1 x = true ∧ cl b2 n2 y = true) ∧ (st = true → y ≠ 0 → x = 2 ^ n1 - 1) := by
  rw [cl_iff (fun k _ => jn_lt k) hn, cl_iff h1.2.1 h1.1, cl_iff h2.2.1 h2.1]
  constructor
  · intro h
    refine ⟨⟨fun k hk a1 j hj a2 => ?_, fun k hk a1 j hj a2 => ?_⟩, fun a1 a2 => ?_⟩
    · have := h k (by omega) (by rw [cb_lo hx hk]; exact a1) j (by omega) (by rw [jb_ll hk hj]; exact a2)
      rw [cb_lo hx hj] at this; exact this
    · have := h (n1 + k) (by omega) (by rw [cb_hi hx]; exact a1) (n1 + j) (by omega) (by rw [jb_hh hj]; exact a2)
      rw [cb_hi hx] at this; exact this
    · obtain ⟨k, hk, hb⟩ := ne0_bit hy a2
      refine set_ext hx all_lt (fun j hj => ?_)
      have := h (n1 + k) (by omega) (by rw [cb_hi hx]; exact hb) j (by omega) (by rw [jb_hl hj]; exact a1)
      rw [cb_lo hx hj] at this
      rw [this, all_bit]; simp [hj]
  · rintro ⟨⟨c1, c2⟩, c3⟩ k hk a1 j hj a2
    rcases lt_cases hk with hk1 | ⟨i, hi, rfl⟩
    · rcases lt_cases hj with hj1 | ⟨i, hi, rfl⟩
      · rw [cb_lo hx hk1] at a1
        rw [jb_ll hk1 hj1] at a2
        rw [cb_lo hx hj1]; exact c1 k hk1 a1 j hj1 a2
      · rw [jb_lh hk1 hi] at a2; cases a2
    · rw [cb_hi hx] at a1
      rcases lt_cases hj with hj1 | ⟨m, hm, rfl⟩
      · rw [jb_hl hj1] at a2
        have hy0 : y ≠ 0 := fun e => by rw [e] at a1; simp at a1
        rw [cb_lo hx hj1, c3 a2 hy0, all_bit]; simp [hj1]
      · rw [jb_hh hm] at a2
        rw [cb_hi hx]; exact c2 i hi a1 m hm a2
theorem ct_cb (p : Nat → Bool) : ct (2 ^ (n1 + n2)) p = S (2 ^ n2) (fun y => ct (2 ^ n1) (fun x => p (cb n1 x y))) := by
  unfold ct
  rw [Nat.pow_add, S_prod]
  rfl
theorem cl_beside (h1 : St b1 n1) (h2 : St b2 n2) (hn : n1 + n2 ≤ 9) : ct (2 ^ (n1 + n2)) (cl (jn b1 n1 b2 n2 false) (n1 + n2)) = ct (2 ^ n1) (cl b1 n1) * ct (2 ^ n2) (cl b2 n2) := by
  rw [ct_cb]
  have e : ct (2 ^ n1) (cl b1 n1) * ct (2 ^ n2) (cl b2 n2) = S (2 ^ n2) (fun y => ct (2 ^ n1) (cl b1 n1) * (cl b2 n2 y).toNat) := S_mul.symm
  rw [e]
  refine S_congr (fun y hy => ?_)
  cases hc : cl b2 n2 y
  · rw [Bool.toNat_false, Nat.mul_zero]
    refine S_0.mpr (fun x hx => ?_)
    dsimp only
    cases hj : cl (jn b1 n1 b2 n2 false) (n1 + n2) (cb n1 x y)
    · rfl
    · have := ((jn_cl h1 h2 hn hx hy).mp hj).1.2
      rw [hc] at this; cases this
  · rw [Bool.toNat_true, Nat.mul_one]
    refine ct_congr (fun x hx => ?_)
    rw [Bool.eq_iff_iff, jn_cl h1 h2 hn hx hy]
    constructor
    · intro h; exact h.1.1
    · intro h; exact ⟨⟨h, hc⟩, fun e => by cases e⟩
theorem cl_above (h1 : St b1 n1) (h2 : St b2 n2) (hn : n1 + n2 ≤ 9) : ct (2 ^ (n1 + n2)) (cl (jn b1 n1 b2 n2 true) (n1 + n2)) + 1 = ct (2 ^ n1) (cl b1 n1) + ct (2 ^ n2) (cl b2 n2) := by
  rw [ct_cb]
  have p1 := Nat.two_pow_pos n1
  have p2 := Nat.two_pow_pos n2
  have e1 : S (2 ^ n2) (fun y => if y = 0 then 1 else 0) = 1 := S_one p2 (fun _ => 1)
  have e2 : S (2 ^ n2) (fun y => if y = 0 then ct (2 ^ n1) (cl b1 n1) else 0) = ct (2 ^ n1) (cl b1 n1) := S_one p2 (fun _ => ct (2 ^ n1) (cl b1 n1))
  have e3 : ct (2 ^ n2) (cl b2 n2) = S (2 ^ n2) (fun y => (cl b2 n2 y).toNat) := rfl
  rw [e3, ← e2]
  rw [← S_add]
  rw [show S (2 ^ n2) (fun y => ct (2 ^ n1) (fun x => cl (jn b1 n1 b2 n2 true) (n1 + n2) (cb n1 x y))) + 1 = S (2 ^ n2) (fun y => ct (2 ^ n1) (fun x => cl (jn b1 n1 b2 n2 true) (n1 + n2) (cb n1 x y)) + if y = 0 then 1 else 0) by rw [S_add, e1]]
  refine S_congr (fun y hy => ?_)
  by_cases e : y = 0
  · subst e
    rw [if_pos rfl, if_pos rfl, cl_0 h2.2.1 h2.1]
    congr 1
    refine ct_congr (fun x hx => ?_)
    rw [Bool.eq_iff_iff, jn_cl h1 h2 hn hx hy]
    constructor
    · intro h; exact h.1.1
    · intro h; exact ⟨⟨h, cl_0 h2.2.1 h2.1⟩, fun _ h0 => absurd rfl h0⟩
  · rw [if_neg e, if_neg e, Nat.add_zero, Nat.zero_add]
    have e4 : ct (2 ^ n1) (fun x => cl (jn b1 n1 b2 n2 true) (n1 + n2) (cb n1 x y)) = S (2 ^ n1) (fun x => if x = 2 ^ n1 - 1 then (cl b2 n2 y).toNat else 0) := S_congr (fun x hx => by
      by_cases ex : x = 2 ^ n1 - 1
      · rw [if_pos ex]
        congr 1
        rw [Bool.eq_iff_iff, jn_cl h1 h2 hn hx hy]
        constructor
        · intro h; exact h.1.2
        · intro h; exact ⟨⟨by rw [ex]; exact cl_all h1.2.1 h1.1, h⟩, fun _ _ => ex⟩
      · rw [if_neg ex]
        dsimp only
        cases hj : cl (jn b1 n1 b2 n2 true) (n1 + n2) (cb n1 x y)
        · rfl
        · exact absurd (((jn_cl h1 h2 hn hx hy).mp hj).2 rfl e) ex)
    rw [e4, S_one all_lt (fun _ => (cl b2 n2 y).toNat)]
/-- the most things in order (or apart) -/
def mo (b : Nat → Nat) (n : Nat) (c : Bool) : Nat := mx (2 ^ n) (fun s => if ia b n s c then pc s else 0)
theorem mo_at {b : Nat → Nat} {n : Nat} {c : Bool} : ∃ s, s < 2 ^ n ∧ ia b n s c = true ∧ pc s = mo b n c := by
  obtain ⟨s, hs, e⟩ := mx_at (Nat.two_pow_pos n) (fun s => if ia b n s c then pc s else 0)
  cases hc : ia b n s c
  · rw [hc] at e
    refine ⟨0, Nat.two_pow_pos n, ia_iff.mpr (fun k _ j _ h => by simp at h), ?_⟩
    exact e.symm
  · rw [hc] at e
    exact ⟨s, hs, hc, e.symm⟩
theorem mo_ge {b : Nat → Nat} {n s : Nat} {c : Bool} (hs : s < 2 ^ n) (h : ia b n s c = true) : pc s ≤ mo b n c := by
  have := mx_ge hs (fun s => if ia b n s c then pc s else 0)
  rw [h] at this
  exact this
theorem ia_jn {x y : Nat} {c : Bool} (hx : x < 2 ^ n1) (hy : y < 2 ^ n2) : ia (jn b1 n1 b2 n2 st) (n1 + n2) (cb n1 x y) c = true ↔ (ia b1 n1 x c = true ∧ ia b2 n2 y c = true) ∧ (st ≠ c → x = 0 ∨ y = 0) := by
  rw [ia_iff, ia_iff, ia_iff]
  constructor
  · intro h
    refine ⟨⟨fun k hk j hj a1 a2 => ?_, fun k hk j hj a1 a2 => ?_⟩, fun hst => ?_⟩
    · have := h k (by omega) j hj (by rw [cb_lo hx hk]; exact a1) (by rw [cb_lo hx (by omega)]; exact a2)
      unfold cm at this ⊢
      rw [jb_ll (by omega) (by omega), jb_ll (by omega) (by omega)] at this
      exact this
    · have := h (n1 + k) (by omega) (n1 + j) (by omega) (by rw [cb_hi hx]; exact a1) (by rw [cb_hi hx]; exact a2)
      unfold cm at this ⊢
      rw [jb_hh (by omega), jb_hh (by omega)] at this
      exact this
    · by_cases ex : x = 0
      · exact Or.inl ex
      · by_cases ey : y = 0
        · exact Or.inr ey
        · exfalso
          obtain ⟨j, hj, hbj⟩ := ne0_bit hx ex
          obtain ⟨k, hk, hbk⟩ := ne0_bit hy ey
          have := h (n1 + k) (by omega) j (by omega) (by rw [cb_hi hx]; exact hbk) (by rw [cb_lo hx hj]; exact hbj)
          unfold cm at this
          rw [jb_lh hj hk, jb_hl hj, Bool.false_or] at this
          exact hst this
  · rintro ⟨⟨i1, i2⟩, i3⟩ k hk j hj a1 a2
    rcases lt_cases hk with hk1 | ⟨i, hi, rfl⟩
    · have hj1 : j < n1 := by omega
      rw [cb_lo hx hk1] at a1
      rw [cb_lo hx hj1] at a2
      have := i1 k hk1 j hj a1 a2
      unfold cm at this ⊢
      rw [jb_ll (by omega) (by omega), jb_ll (by omega) (by omega)]
      exact this
    · rw [cb_hi hx] at a1
      rcases lt_cases (show j < n1 + n2 by omega) with hj1 | ⟨m, hm, rfl⟩
      · rw [cb_lo hx hj1] at a2
        unfold cm
        rw [jb_lh hj1 hi, jb_hl hj1, Bool.false_or]
        rcases Classical.em (st = c) with e | e
        · exact e
        · exfalso
          rcases i3 e with e0 | e0
          · rw [e0] at a2; simp at a2
          · rw [e0] at a1; simp at a1
      · rw [cb_hi hx] at a2
        have := i2 i hi m (by omega) a1 a2
        unfold cm at this ⊢
        rw [jb_hh (by omega), jb_hh (by omega)]
        exact this
theorem ia_0 {b : Nat → Nat} {n : Nat} {c : Bool} : ia b n 0 c = true := ia_iff.mpr (fun k _ j _ h => by simp at h)
theorem mo_sum (hn : n1 + n2 ≤ 9) : mo (jn b1 n1 b2 n2 st) (n1 + n2) st = mo b1 n1 st + mo b2 n2 st := by
  apply Nat.le_antisymm
  · obtain ⟨s, hs, h1, h2⟩ := mo_at (b := jn b1 n1 b2 n2 st) (n := n1 + n2) (c := st)
    obtain ⟨x, y, hx, hy, rfl⟩ := cb_ex hs
    rw [← h2, cb_pc hx hy hn]
    have h3 := ((ia_jn hx hy).mp h1).1
    have := mo_ge hx h3.1
    have := mo_ge hy h3.2
    omega
  · obtain ⟨x, hx, h1, h2⟩ := mo_at (b := b1) (n := n1) (c := st)
    obtain ⟨y, hy, h3, h4⟩ := mo_at (b := b2) (n := n2) (c := st)
    rw [← h2, ← h4, ← cb_pc hx hy hn]
    exact mo_ge (cb_lt hx hy) ((ia_jn hx hy).mpr ⟨⟨h1, h3⟩, fun h => absurd rfl h⟩)
theorem mo_max {c : Bool} (hn : n1 + n2 ≤ 9) (hc : st ≠ c) : mo (jn b1 n1 b2 n2 st) (n1 + n2) c = max (mo b1 n1 c) (mo b2 n2 c) := by
  have p0 : pc 0 = 0 := rfl
  apply Nat.le_antisymm
  · obtain ⟨s, hs, h1, h2⟩ := mo_at (b := jn b1 n1 b2 n2 st) (n := n1 + n2) (c := c)
    obtain ⟨x, y, hx, hy, rfl⟩ := cb_ex hs
    rw [← h2, cb_pc hx hy hn]
    have h3 := (ia_jn hx hy).mp h1
    have g1 := mo_ge hx h3.1.1
    have g2 := mo_ge hy h3.1.2
    rcases h3.2 hc with e | e
    · subst e; omega
    · subst e; omega
  · obtain ⟨x, hx, h1, h2⟩ := mo_at (b := b1) (n := n1) (c := c)
    obtain ⟨y, hy, h3, h4⟩ := mo_at (b := b2) (n := n2) (c := c)
    have g1 := mo_ge (cb_lt hx (Nat.two_pow_pos n2)) ((ia_jn (b1 := b1) (b2 := b2) (st := st) hx (Nat.two_pow_pos n2)).mpr ⟨⟨h1, ia_0⟩, fun _ => Or.inr rfl⟩)
    have g2 := mo_ge (cb_lt (Nat.two_pow_pos n1) hy) ((ia_jn (b1 := b1) (b2 := b2) (st := st) (Nat.two_pow_pos n1) hy).mpr ⟨⟨ia_0, h3⟩, fun _ => Or.inl rfl⟩)
    rw [cb_pc hx (Nat.two_pow_pos n2) hn] at g1
    rw [cb_pc (Nat.two_pow_pos n1) hy hn] at g2
    omega
/-! rows of the two -/
theorem jn_cc (h1 : St b1 n1) (h2 : St b2 n2) (hn : n1 + n2 ≤ 9) {x y k : Nat} (hx : x < 2 ^ n1) (hk : k < n1) : cc (jn b1 n1 b2 n2 st) (cb n1 x y) k = cc b1 x k := by
  rw [Bool.eq_iff_iff, cc_iff (jn_lt k) hn, cc_iff (h1.2.1 k hk) h1.1, cb_lo hx hk]
  constructor
  · rintro ⟨a1, a2⟩
    refine ⟨a1, fun j hj hb => ?_⟩
    have := a2 j (by omega) (by rw [jb_ll hk hj]; exact hb)
    rw [cb_lo hx hj] at this; exact this
  · rintro ⟨a1, a2⟩
    refine ⟨a1, fun j hj hb => ?_⟩
    rcases lt_cases hj with hj1 | ⟨i, hi, rfl⟩
    · rw [jb_ll hk hj1] at hb
      rw [cb_lo hx hj1]; exact a2 j hj1 hb
    · rw [jb_lh hk hi] at hb; cases hb
theorem jn_cc2 (h1 : St b1 n1) (h2 : St b2 n2) (hn : n1 + n2 ≤ 9) {x y k : Nat} (hx : x < 2 ^ n1) (hk : k < n2) : cc (jn b1 n1 b2 n2 st) (cb n1 x y) (n1 + k) = (cc b2 y k && (!st || decide (x = 2 ^ n1 - 1))) := by
  rw [Bool.eq_iff_iff, cc_iff (jn_lt _) hn, Bool.and_eq_true, cc_iff (h2.2.1 k hk) h2.1, cb_hi hx]
  constructor
  · rintro ⟨a1, a2⟩
    refine ⟨⟨a1, fun j hj hb => ?_⟩, ?_⟩
    · have := a2 (n1 + j) (by omega) (by rw [jb_hh hj]; exact hb)
      rw [cb_hi hx] at this; exact this
    · cases hst : st
      · rfl
      · rw [Bool.not_true, Bool.false_or, decide_eq_true_eq]
        refine set_ext hx all_lt (fun j hj => ?_)
        have := a2 j (by omega) (by rw [jb_hl hj]; exact hst)
        rw [cb_lo hx hj] at this
        rw [this, all_bit]; simp [hj]
  · rintro ⟨⟨a1, a2⟩, a3⟩
    refine ⟨a1, fun j hj hb => ?_⟩
    rcases lt_cases hj with hj1 | ⟨i, hi, rfl⟩
    · rw [jb_hl hj1] at hb
      rw [hb, Bool.not_true, Bool.false_or, decide_eq_true_eq] at a3
      rw [cb_lo hx hj1, a3, all_bit]; simp [hj1]
    · rw [jb_hh hi] at hb
      rw [cb_hi hx]; exact a2 i hi hb
theorem cb_pl {x y k : Nat} : cb n1 x y + 2 ^ k = cb n1 (x + 2 ^ k) y := by unfold cb; omega
theorem cb_ph {x y k : Nat} : cb n1 x y + 2 ^ (n1 + k) = cb n1 x (y + 2 ^ k) := by
  unfold cb
  rw [Nat.pow_add, Nat.mul_add]; omega
theorem cc_all {b : Nat → Nat} {n k : Nat} (hk : k < n) : cc b (2 ^ n - 1) k = false := by
  unfold cc
  rw [all_bit]; simp [hk]
/-- in how many ways two rows can be mixed -/
def bnr (f : Nat → Nat) : Nat → Nat
  | 0 => 1
  | c + 1 => f (c + 1) + bnr f c
def bn : Nat → Nat → Nat
  | 0 => fun _ => 1
  | a + 1 => bnr (bn a)
theorem bn_0 (a : Nat) : bn a 0 = 1 := by cases a <;> rfl
theorem BW_beside (h1 : St b1 n1) (h2 : St b2 n2) (hn : n1 + n2 ≤ 9) (D : Nat) : ∀ d1 d2 x y, d1 + d2 = D → x < 2 ^ n1 → y < 2 ^ n2 → pc x + d1 = n1 → pc y + d2 = n2 → BW (cc (jn b1 n1 b2 n2 false)) (n1 + n2) D (cb n1 x y) = BW (cc b1) n1 d1 x * BW (cc b2) n2 d2 y * bn d1 d2 := by
  induction D with
  | zero =>
    intro d1 d2 x y hD _ _ _ _
    have e1 : d1 = 0 := by omega
    have e2 : d2 = 0 := by omega
    subst e1 e2
    rfl
  | succ D ih =>
    intro d1 d2 x y hD hx hy hp1 hp2
    rw [BW, S_split]
    have f1 : S n1 (fun k => if cc (jn b1 n1 b2 n2 false) (cb n1 x y) k then BW (cc (jn b1 n1 b2 n2 false)) (n1 + n2) D (cb n1 x y + 2 ^ k) else 0) = if d1 = 0 then 0 else BW (cc b1) n1 d1 x * (BW (cc b2) n2 d2 y * bn (d1 - 1) d2) := by
      cases d1 with
      | zero =>
        rw [if_pos rfl]
        have := (pc_n hx (show n1 ≤ 9 by omega)).mp (by omega)
        subst this
        exact S_0.mpr (fun k hk => by rw [jn_cc h1 h2 hn hx hk, cc_all hk]; rfl)
      | succ a =>
        rw [if_neg (by omega), BW, ← S_mulr]
        refine S_congr (fun k hk => ?_)
        rw [jn_cc h1 h2 hn hx hk]
        cases hc : cc b1 x k
        · simp
        · have hb := cc_W0 b1 x k hc
          simp only [if_true]
          rw [cb_pl, ih a d2 _ y (by omega) (plus_lt hx hk hb) hy (by rw [plus_pc hx (show n1 ≤ 9 by omega) hk hb]; omega) hp2, Nat.mul_assoc]; rfl
    have f2 : S n2 (fun k => if cc (jn b1 n1 b2 n2 false) (cb n1 x y) (n1 + k) then BW (cc (jn b1 n1 b2 n2 false)) (n1 + n2) D (cb n1 x y + 2 ^ (n1 + k)) else 0) = if d2 = 0 then 0 else BW (cc b2) n2 d2 y * (BW (cc b1) n1 d1 x * bn d1 (d2 - 1)) := by
      cases d2 with
      | zero =>
        rw [if_pos rfl]
        have := (pc_n hy (show n2 ≤ 9 by omega)).mp (by omega)
        subst this
        exact S_0.mpr (fun k hk => by rw [jn_cc2 h1 h2 hn hx hk, cc_all hk]; rfl)
      | succ a =>
        rw [if_neg (by omega), BW, ← S_mulr]
        refine S_congr (fun k hk => ?_)
        rw [jn_cc2 h1 h2 hn hx hk]
        simp only [Bool.not_false, Bool.true_or, Bool.and_true]
        cases hc : cc b2 y k
        · simp
        · have hb := cc_W0 b2 y k hc
          simp only [if_true]
          rw [cb_ph, ih d1 a x _ (by omega) hx (plus_lt hy hk hb) hp1 (by rw [plus_pc hy (show n2 ≤ 9 by omega) hk hb]; omega), Nat.mul_comm (BW (cc b1) n1 d1 x), Nat.mul_assoc]; rfl
    rw [f1, f2]
    cases d1 with
    | zero =>
      cases d2 with
      | zero => omega
      | succ c =>
        rw [if_pos rfl, if_neg (by omega), Nat.zero_add]
        have b0 : bn 0 (c + 1 - 1) = 1 := rfl
        have b1' : bn 0 (c + 1) = 1 := rfl
        rw [b0, b1', Nat.mul_one, Nat.mul_one, Nat.mul_comm]
    | succ a =>
      cases d2 with
      | zero =>
        rw [if_neg (by omega), if_pos rfl, Nat.add_zero, bn_0, bn_0, Nat.mul_one, Nat.mul_one]
      | succ c =>
        rw [if_neg (by omega), if_neg (by omega)]
        have e : bn (a + 1) (c + 1) = bn a (c + 1) + bn (a + 1) c := rfl
        rw [e, Nat.mul_add, Nat.mul_assoc, Nat.mul_assoc, Nat.mul_left_comm (BW (cc b2) n2 (c + 1) y)]; rfl
theorem RW_beside (h1 : St b1 n1) (h2 : St b2 n2) (hn : n1 + n2 ≤ 9) : RW (jn b1 n1 b2 n2 false) (n1 + n2) = RW b1 n1 * RW b2 n2 * bn n1 n2 :=
  BW_beside h1 h2 hn (n1 + n2) n1 n2 0 0 rfl (Nat.two_pow_pos n1) (Nat.two_pow_pos n2) (by show 0 + n1 = n1; omega) (by show 0 + n2 = n2; omega)
theorem BW_above2 (h1 : St b1 n1) (h2 : St b2 n2) (hn : n1 + n2 ≤ 9) (d : Nat) : ∀ y, BW (cc (jn b1 n1 b2 n2 true)) (n1 + n2) d (cb n1 (2 ^ n1 - 1) y) = BW (cc b2) n2 d y := by
  induction d with
  | zero => intro y; rfl
  | succ d ih =>
    intro y
    rw [BW, S_split, BW, S_0.mpr (fun k hk => by rw [jn_cc h1 h2 hn all_lt hk, cc_all hk]; rfl), Nat.zero_add]
    refine S_congr (fun k hk => ?_)
    rw [jn_cc2 h1 h2 hn all_lt hk, cb_ph, ih]
    simp
theorem BW_above1 (h1 : St b1 n1) (h2 : St b2 n2) (hn : n1 + n2 ≤ 9) (d : Nat) : ∀ x, x < 2 ^ n1 → pc x + d = n1 → BW (cc (jn b1 n1 b2 n2 true)) (n1 + n2) (d + n2) (cb n1 x 0) = BW (cc b1) n1 d x * RW b2 n2 := by
  induction d with
  | zero =>
    intro x hx hp
    have := (pc_n hx (show n1 ≤ 9 by omega)).mp (by omega)
    subst this
    rw [Nat.zero_add, BW_above2 h1 h2 hn, BW, Nat.one_mul]; rfl
  | succ d ih =>
    intro x hx hp
    have hxa : x ≠ 2 ^ n1 - 1 := fun e => by rw [e, pc_all (show n1 ≤ 9 by omega)] at hp; omega
    rw [show d + 1 + n2 = (d + n2) + 1 by omega, BW, S_split]
    have f2 : S n2 (fun k => if cc (jn b1 n1 b2 n2 true) (cb n1 x 0) (n1 + k) then BW (cc (jn b1 n1 b2 n2 true)) (n1 + n2) (d + n2) (cb n1 x 0 + 2 ^ (n1 + k)) else 0) = 0 := S_0.mpr (fun k hk => by
      rw [jn_cc2 h1 h2 hn hx hk]; simp [hxa])
    rw [f2, Nat.add_zero, BW, ← S_mulr]
    refine S_congr (fun k hk => ?_)
    rw [jn_cc h1 h2 hn hx hk]
    cases hc : cc b1 x k
    · simp
    · have hb := cc_W0 b1 x k hc
      simp only [if_true]
      rw [cb_pl, ih _ (plus_lt hx hk hb) (by rw [plus_pc hx (show n1 ≤ 9 by omega) hk hb]; omega)]
theorem RW_above (h1 : St b1 n1) (h2 : St b2 n2) (hn : n1 + n2 ≤ 9) : RW (jn b1 n1 b2 n2 true) (n1 + n2) = RW b1 n1 * RW b2 n2 :=
  BW_above1 h1 h2 hn n1 0 (Nat.two_pow_pos n1) (by show 0 + n1 = n1; omega)
theorem ways_all : ∀ a < 10, ∀ c < 10, a + c ≤ 9 → f_X5_waysToChoose (iN a) (iN c) = some (iN (bn a c)) := by decide +kernel
end JL
