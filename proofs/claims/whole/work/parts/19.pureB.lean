section OO
variable {M : Mem} {q n : Nat} {b : Nat → Nat}
/-! ===== chains and closed sets ===== -/
def il (b : Nat → Nat) (n s : Nat) : Bool := decide (S n (fun k => if s.testBit k then pc (b k &&& s) else 0) = pc s * (pc s - 1) / 2)
theorem s_isInLine (h : OR M q n b) {s : Nat} (hs : s < 512) : f_X3_isInLine M q (iN s) = some (bI (il b n s)) := by
  have h9 := h.le
  refine lp_for (fun j => (iN (S j fun k => if s.testBit k then pc (b k &&& s) else 0), iN j)) n (FU_lt h9) ?_ ?_
  · intro j hj k
    have h1 := h.lt9 hj
    have h2 := and_lt9 (t := s) h1
    cases hb : s.testBit j
    · simp (disch := omega) only [g_X3_isInLine_L4, h.n, if_neg (show ¬ n ≤ j by omega), S, hb, Nat.add_zero, iN_le, iN_lt, chk_inb, chk_t, clamp_iN, bd_some, iN_add, iN_s, iN_and, iN_or, iN_shl, e10, e01, e00, bI_0, bI_1, bI_t, bI_f, has_iN, bitc, within_iN, mk_or1, xhas_iN, add_z, if_true, if_false, ite_true, ite_false, reduceCtorEq, Bool.false_eq_true, Bool.true_and, Bool.false_and, Bool.and_true, Bool.and_false, Bool.not_true, Bool.not_false]
    · simp (disch := omega) only [g_X3_isInLine_L4, h.n, if_neg (show ¬ n ≤ j by omega), S, hb, h.b hj, iN_le, iN_lt, chk_inb, chk_t, clamp_iN, bd_some, iN_add, iN_s, iN_and, iN_or, iN_shl, e10, e01, e00, bI_0, bI_1, bI_t, bI_f, has_iN, bitc, within_iN, mk_or1, xhas_iN, add_z, if_true, if_false, ite_true, ite_false, reduceCtorEq, Bool.false_eq_true, Bool.true_and, Bool.false_and, Bool.and_true, Bool.and_false, Bool.not_true, Bool.not_false]
  · intro k
    have h1 := pc_le s
    have h2 : S n (fun k => if s.testBit k then pc (b k &&& s) else 0) ≤ n * 9 := S_pc_le (fun k _ => by
      split
      · exact pc_le _
      · omega)
    have h3 : pc s * (pc s - 1) / 2 < 2 ^ 31 := by
      have : pc s * (pc s - 1) ≤ 9 * 9 := Nat.mul_le_mul h1 (by omega)
      omega
    simp (disch := omega) only [g_X3_isInLine_L4, h.n, if_pos (Nat.le_refl n), tri_iN (show pc s < 10 by omega), iN_eq, iN_le, iN_lt, chk_inb, chk_t, clamp_iN, bd_some, iN_add, iN_s, iN_and, iN_or, iN_shl, e10, e01, e00, bI_0, bI_1, bI_t, bI_f, has_iN, bitc, within_iN, mk_or1, xhas_iN, add_z, if_true, if_false, ite_true, ite_false, reduceCtorEq, Bool.false_eq_true, Bool.true_and, Bool.false_and, Bool.and_true, Bool.and_false, Bool.not_true, Bool.not_false]
    rw [← ite_b]
    unfold il
    simp only [decide_eq_true_eq]
def lw (b : Nat → Nat) (n w : Nat) : Nat := mx (2 ^ n) fun s => if sb s w && il b n s then pc s else 0
theorem lw_le {w : Nat} : lw b n w ≤ 9 := mx_le9 (fun k _ => by
  split
  · exact pc_le _
  · omega)
theorem s_longestWithin (h : OR M q n b) {w : Nat} (hw : w < 512) : f_X0_longestWithin M q (iN w) = some (iN (lw b n w)) := by
  have h9 := p2_le h.le
  refine lp_for (fun j => (iN (mx j fun s => if sb s w && il b n s then pc s else 0), iN j)) (2 ^ n) (FU_lt2 h9) ?_ ?_
  · intro j hj k
    have h1 : (mx j fun s => if sb s w && il b n s then pc s else 0) ≤ 9 := mx_le9 (fun k _ => by
      split
      · exact pc_le _
      · omega)
    have h2 := pc_le j
    cases hb : sb j w
    · simp (disch := omega) only [g_X0_longestWithin_L4, s_setLimit h, if_neg (show ¬ 2 ^ n ≤ j by omega), mx, hb, Nat.max_zero, iN_le, iN_lt, chk_inb, chk_t, clamp_iN, bd_some, iN_add, iN_s, iN_and, iN_or, iN_shl, e10, e01, e00, bI_0, bI_1, bI_t, bI_f, has_iN, bitc, within_iN, mk_or1, xhas_iN, add_z, if_true, if_false, ite_true, ite_false, reduceCtorEq, Bool.false_eq_true, Bool.true_and, Bool.false_and, Bool.and_true, Bool.and_false, Bool.not_true, Bool.not_false]
    · cases hc : il b n j
      · simp (disch := omega) only [g_X0_longestWithin_L4, s_setLimit h, if_neg (show ¬ 2 ^ n ≤ j by omega), mx, hb, hc, s_isInLine h (show j < 512 by omega), Nat.max_zero, iN_le, iN_lt, chk_inb, chk_t, clamp_iN, bd_some, iN_add, iN_s, iN_and, iN_or, iN_shl, e10, e01, e00, bI_0, bI_1, bI_t, bI_f, has_iN, bitc, within_iN, mk_or1, xhas_iN, add_z, if_true, if_false, ite_true, ite_false, reduceCtorEq, Bool.false_eq_true, Bool.true_and, Bool.false_and, Bool.and_true, Bool.and_false, Bool.not_true, Bool.not_false]
      · simp (disch := omega) only [g_X0_longestWithin_L4, s_setLimit h, if_neg (show ¬ 2 ^ n ≤ j by omega), mx, hb, hc, s_isInLine h (show j < 512 by omega), jmax_iN, iN_le, iN_lt, chk_inb, chk_t, clamp_iN, bd_some, iN_add, iN_s, iN_and, iN_or, iN_shl, e10, e01, e00, bI_0, bI_1, bI_t, bI_f, has_iN, bitc, within_iN, mk_or1, xhas_iN, add_z, if_true, if_false, ite_true, ite_false, reduceCtorEq, Bool.false_eq_true, Bool.true_and, Bool.false_and, Bool.and_true, Bool.and_false, Bool.not_true, Bool.not_false]
  · intro k
    simp (disch := omega) only [g_X0_longestWithin_L4, s_setLimit h, if_pos (Nat.le_refl (2 ^ n)), iN_le, iN_lt, chk_inb, chk_t, clamp_iN, bd_some, iN_add, iN_s, iN_and, iN_or, iN_shl, e10, e01, e00, bI_0, bI_1, bI_t, bI_f, has_iN, bitc, within_iN, mk_or1, xhas_iN, add_z, if_true, if_false, ite_true, ite_false, reduceCtorEq, Bool.false_eq_true, Bool.true_and, Bool.false_and, Bool.and_true, Bool.and_false, Bool.not_true, Bool.not_false]; rfl
def wd (b : Nat → Nat) (n : Nat) : Nat := mx (2 ^ n) fun s => if ap b n s then pc s else 0
theorem wd_le : wd b n ≤ 9 := mx_le9 (fun k _ => by
  split
  · exact pc_le _
  · omega)
theorem s_mostApart (h : OR M q n b) : f_X0_mostApart M q = some (iN (wd b n)) := by
  have h9 := p2_le h.le
  refine lp_for (fun j => (iN (mx j fun s => if ap b n s then pc s else 0), iN j)) (2 ^ n) (FU_lt2 h9) ?_ ?_
  · intro j hj k
    have h1 : (mx j fun s => if ap b n s then pc s else 0) ≤ 9 := mx_le9 (fun k _ => by
      split
      · exact pc_le _
      · omega)
    have h2 := pc_le j
    cases hc : ap b n j
    · simp (disch := omega) only [g_X0_mostApart_L4, s_setLimit h, if_neg (show ¬ 2 ^ n ≤ j by omega), mx, hc, s_isUnordered h (show j < 512 by omega), Nat.max_zero, iN_le, iN_lt, chk_inb, chk_t, clamp_iN, bd_some, iN_add, iN_s, iN_and, iN_or, iN_shl, e10, e01, e00, bI_0, bI_1, bI_t, bI_f, has_iN, bitc, within_iN, mk_or1, xhas_iN, add_z, if_true, if_false, ite_true, ite_false, reduceCtorEq, Bool.false_eq_true, Bool.true_and, Bool.false_and, Bool.and_true, Bool.and_false, Bool.not_true, Bool.not_false]
    · simp (disch := omega) only [g_X0_mostApart_L4, s_setLimit h, if_neg (show ¬ 2 ^ n ≤ j by omega), mx, hc, s_isUnordered h (show j < 512 by omega), jmax_iN, iN_le, iN_lt, chk_inb, chk_t, clamp_iN, bd_some, iN_add, iN_s, iN_and, iN_or, iN_shl, e10, e01, e00, bI_0, bI_1, bI_t, bI_f, has_iN, bitc, within_iN, mk_or1, xhas_iN, add_z, if_true, if_false, ite_true, ite_false, reduceCtorEq, Bool.false_eq_true, Bool.true_and, Bool.false_and, Bool.and_true, Bool.and_false, Bool.not_true, Bool.not_false]
  · intro k
    simp (disch := omega) only [g_X0_mostApart_L4, s_setLimit h, if_pos (Nat.le_refl (2 ^ n)), iN_le, iN_lt, chk_inb, chk_t, clamp_iN, bd_some, iN_add, iN_s, iN_and, iN_or, iN_shl, e10, e01, e00, bI_0, bI_1, bI_t, bI_f, has_iN, bitc, within_iN, mk_or1, xhas_iN, add_z, if_true, if_false, ite_true, ite_false, reduceCtorEq, Bool.false_eq_true, Bool.true_and, Bool.false_and, Bool.and_true, Bool.and_false, Bool.not_true, Bool.not_false]; rfl
theorem s_apartCount (h : OR M q n b) : f_X0_apartCount M q = some (iN (ct (2 ^ n) (ap b n))) := by
  have h9 := p2_le h.le
  refine lp_for (fun j => (iN (ct j (ap b n)), iN j)) (2 ^ n) (FU_lt2 h9) ?_ ?_
  · intro j hj k
    cases hc : ap b n j
    · simp (disch := omega) only [g_X0_apartCount_L4, s_setLimit h, if_neg (show ¬ 2 ^ n ≤ j by omega), ct_s, hc, s_isUnordered h (show j < 512 by omega), Bool.toNat_false, Nat.add_zero, iN_le, iN_lt, chk_inb, chk_t, clamp_iN, bd_some, iN_add, iN_s, iN_and, iN_or, iN_shl, e10, e01, e00, bI_0, bI_1, bI_t, bI_f, has_iN, bitc, within_iN, mk_or1, xhas_iN, add_z, if_true, if_false, ite_true, ite_false, reduceCtorEq, Bool.false_eq_true, Bool.true_and, Bool.false_and, Bool.and_true, Bool.and_false, Bool.not_true, Bool.not_false]
    · simp (disch := omega) only [g_X0_apartCount_L4, s_setLimit h, if_neg (show ¬ 2 ^ n ≤ j by omega), ct_s, hc, s_isUnordered h (show j < 512 by omega), Bool.toNat_true, iN_le, iN_lt, chk_inb, chk_t, clamp_iN, bd_some, iN_add, iN_s, iN_and, iN_or, iN_shl, e10, e01, e00, bI_0, bI_1, bI_t, bI_f, has_iN, bitc, within_iN, mk_or1, xhas_iN, add_z, if_true, if_false, ite_true, ite_false, reduceCtorEq, Bool.false_eq_true, Bool.true_and, Bool.false_and, Bool.and_true, Bool.and_false, Bool.not_true, Bool.not_false]
  · intro k
    simp (disch := omega) only [g_X0_apartCount_L4, s_setLimit h, if_pos (Nat.le_refl (2 ^ n)), iN_le, iN_lt, chk_inb, chk_t, clamp_iN, bd_some, iN_add, iN_s, iN_and, iN_or, iN_shl, e10, e01, e00, bI_0, bI_1, bI_t, bI_f, has_iN, bitc, within_iN, mk_or1, xhas_iN, add_z, if_true, if_false, ite_true, ite_false, reduceCtorEq, Bool.false_eq_true, Bool.true_and, Bool.false_and, Bool.and_true, Bool.and_false, Bool.not_true, Bool.not_false]
/-- what is left, and the layers taken, after k turns -/
def ly (b : Nat → Nat) (n : Nat) : Nat → Nat × Nat
  | 0 => (2 ^ n - 1, 0)
  | k + 1 => if (ly b n k).1 = 0 then ly b n k else (dif (ly b n k).1 (ls b n (ly b n k).1), (ly b n k).2 + 1)
theorem ly_lt (hn : n ≤ 9) (k : Nat) : (ly b n k).1 < 2 ^ n := by
  induction k with
  | zero => have := Nat.two_pow_pos n; simp only [ly]; omega
  | succ k ih =>
    simp only [ly]
    split
    · exact ih
    · exact Nat.lt_of_le_of_lt Nat.and_le_left ih
theorem s_layerCount (h : OR M q n b) : f_X0_layerCount M q = some (iN (ly b n n).2) := by
  have h9 := h.le
  have h8 := p2_le h9
  unfold f_X0_layerCount
  rw [s_all h, bd_some]
  refine lp_for (fun j => (iN (ly b n j).1, iN (ly b n j).2, iN j)) n (FU_lt h9) ?_ ?_
  · intro j hj k
    have h1 := ly_lt (b := b) h9 j
    by_cases hz : (ly b n j).1 = 0
    · have e : ly b n (j + 1) = ly b n j := by simp only [ly, if_pos hz]
      rw [e]
      simp (disch := omega) only [g_X0_layerCount_L9, h.n, if_neg (show ¬ n ≤ j by omega), hz, iN_0, iN_eq, iN_le, iN_lt, chk_inb, chk_t, clamp_iN, bd_some, iN_add, iN_s, iN_and, iN_or, iN_shl, e10, e01, e00, bI_0, bI_1, bI_t, bI_f, has_iN, bitc, within_iN, mk_or1, xhas_iN, add_z, if_true, if_false, ite_true, ite_false, reduceCtorEq, Bool.false_eq_true, Bool.true_and, Bool.false_and, Bool.and_true, Bool.and_false, Bool.not_true, Bool.not_false]
    · have e : ly b n (j + 1) = (dif (ly b n j).1 (ls b n (ly b n j).1), (ly b n j).2 + 1) := by simp only [ly, if_neg hz]
      rw [e]
      have e2 : (iN (ly b n j).1 = 0) = False := by
        rw [iN_0, iN_eq (by omega) (by omega)]
        exact eq_false hz
      simp (disch := omega) only [g_X0_layerCount_L9, h.n, if_neg (show ¬ n ≤ j by omega), e2, s_leastOf h (show (ly b n j).1 < 512 by omega), iN_andn (show (ly b n j).1 < 512 by omega), iN_le, iN_lt, chk_inb, chk_t, clamp_iN, bd_some, iN_add, iN_s, iN_and, iN_or, iN_shl, e10, e01, e00, bI_0, bI_1, bI_t, bI_f, has_iN, bitc, within_iN, mk_or1, xhas_iN, add_z, if_true, if_false, ite_true, ite_false, reduceCtorEq, Bool.false_eq_true, Bool.true_and, Bool.false_and, Bool.and_true, Bool.and_false, Bool.not_true, Bool.not_false]
  · intro k
    simp (disch := omega) only [g_X0_layerCount_L9, h.n, if_pos (Nat.le_refl n), iN_le, iN_lt, chk_inb, chk_t, clamp_iN, bd_some, iN_add, iN_s, iN_and, iN_or, iN_shl, e10, e01, e00, bI_0, bI_1, bI_t, bI_f, has_iN, bitc, within_iN, mk_or1, xhas_iN, add_z, if_true, if_false, ite_true, ite_false, reduceCtorEq, Bool.false_eq_true, Bool.true_and, Bool.false_and, Bool.and_true, Bool.and_false, Bool.not_true, Bool.not_false]
/-- one set stands ahead of another in the sequence of sets -/
def ah (s t : Nat) : Bool := decide (pc s < pc t ∨ pc s = pc t ∧ s < t)
theorem s_isAhead {s t : Nat} (hs : s < 512) (ht : t < 512) : f_X1_isAhead (iN s) (iN t) = some (bI (ah s t)) := by
  have h1 := pc_le s
  have h2 := pc_le t
  unfold f_X1_isAhead ah
  simp (disch := omega) only [iN_le, iN_lt, chk_inb, chk_t, clamp_iN, bd_some, iN_add, iN_s, iN_and, iN_or, iN_shl, e10, e01, e00, bI_0, bI_1, bI_t, bI_f, has_iN, bitc, within_iN, mk_or1, xhas_iN, add_z, if_true, if_false, ite_true, ite_false, reduceCtorEq, Bool.false_eq_true, Bool.true_and, Bool.false_and, Bool.and_true, Bool.and_false, Bool.not_true, Bool.not_false]
  have e1 : ∀ a < 10, ∀ c < 10, ((iN a - iN c < 0) = (a < c)) ∧ ((iN a - iN c = 0) = (a = c)) := by
    intro a ha c hc
    have : ∀ a < 10, ∀ c < 10, ((iN a - iN c < 0) ↔ (a < c)) ∧ ((iN a - iN c = 0) ↔ (a = c)) := by decide
    exact ⟨propext (this a ha c hc).1, propext (this a ha c hc).2⟩
  simp only [(e1 (pc s) (by omega) (pc t) (by omega)).1, (e1 (pc s) (by omega) (pc t) (by omega)).2]
  by_cases c1 : pc s < pc t
  · simp [c1, bI]
  · by_cases c2 : pc s = pc t
    · by_cases c3 : t ≤ s
      · simp [c1, c2, c3, bI, show ¬ s < t by omega]
      · simp [c1, c2, c3, bI, show s < t by omega]
    · simp [c1, c2, bI]
theorem s_count (h : OR M q n b) : f_X1_count M q = some (iN (ct (2 ^ n) (cl b n))) := by
  have h9 := p2_le h.le
  refine lp_for (fun j => (iN (ct j (cl b n)), iN j)) (2 ^ n) (FU_lt2 h9) ?_ ?_
  · intro j hj k
    cases hc : cl b n j
    · simp (disch := omega) only [g_X1_count_L4, s_setLimit h, if_neg (show ¬ 2 ^ n ≤ j by omega), ct_s, hc, s_isClosedBelow h (show j < 512 by omega), Bool.toNat_false, Nat.add_zero, iN_le, iN_lt, chk_inb, chk_t, clamp_iN, bd_some, iN_add, iN_s, iN_and, iN_or, iN_shl, e10, e01, e00, bI_0, bI_1, bI_t, bI_f, has_iN, bitc, within_iN, mk_or1, xhas_iN, add_z, if_true, if_false, ite_true, ite_false, reduceCtorEq, Bool.false_eq_true, Bool.true_and, Bool.false_and, Bool.and_true, Bool.and_false, Bool.not_true, Bool.not_false]
    · simp (disch := omega) only [g_X1_count_L4, s_setLimit h, if_neg (show ¬ 2 ^ n ≤ j by omega), ct_s, hc, s_isClosedBelow h (show j < 512 by omega), Bool.toNat_true, iN_le, iN_lt, chk_inb, chk_t, clamp_iN, bd_some, iN_add, iN_s, iN_and, iN_or, iN_shl, e10, e01, e00, bI_0, bI_1, bI_t, bI_f, has_iN, bitc, within_iN, mk_or1, xhas_iN, add_z, if_true, if_false, ite_true, ite_false, reduceCtorEq, Bool.false_eq_true, Bool.true_and, Bool.false_and, Bool.and_true, Bool.and_false, Bool.not_true, Bool.not_false]
  · intro k
    simp (disch := omega) only [g_X1_count_L4, s_setLimit h, if_pos (Nat.le_refl (2 ^ n)), iN_le, iN_lt, chk_inb, chk_t, clamp_iN, bd_some, iN_add, iN_s, iN_and, iN_or, iN_shl, e10, e01, e00, bI_0, bI_1, bI_t, bI_f, has_iN, bitc, within_iN, mk_or1, xhas_iN, add_z, if_true, if_false, ite_true, ite_false, reduceCtorEq, Bool.false_eq_true, Bool.true_and, Bool.false_and, Bool.and_true, Bool.and_false, Bool.not_true, Bool.not_false]
theorem s_countOfSize (h : OR M q n b) (x : Int32) : f_X1_countOfSize M q x = some (iN (ct (2 ^ n) fun s => decide (iN (pc s) = x) && cl b n s)) := by
  have h9 := p2_le h.le
  refine lp_for (fun j => (iN (ct j fun s => decide (iN (pc s) = x) && cl b n s), iN j)) (2 ^ n) (FU_lt2 h9) ?_ ?_
  · intro j hj k
    by_cases hx : iN (pc j) = x
    · cases hc : cl b n j
      · simp (disch := omega) only [g_X1_countOfSize_L4, s_setLimit h, if_neg (show ¬ 2 ^ n ≤ j by omega), ct_s, hx, decide_true, hc, s_isClosedBelow h (show j < 512 by omega), Bool.toNat_false, Nat.add_zero, iN_le, iN_lt, chk_inb, chk_t, clamp_iN, bd_some, iN_add, iN_s, iN_and, iN_or, iN_shl, e10, e01, e00, bI_0, bI_1, bI_t, bI_f, has_iN, bitc, within_iN, mk_or1, xhas_iN, add_z, if_true, if_false, ite_true, ite_false, reduceCtorEq, Bool.false_eq_true, Bool.true_and, Bool.false_and, Bool.and_true, Bool.and_false, Bool.not_true, Bool.not_false]
      · simp (disch := omega) only [g_X1_countOfSize_L4, s_setLimit h, if_neg (show ¬ 2 ^ n ≤ j by omega), ct_s, hx, decide_true, hc, s_isClosedBelow h (show j < 512 by omega), Bool.toNat_true, iN_le, iN_lt, chk_inb, chk_t, clamp_iN, bd_some, iN_add, iN_s, iN_and, iN_or, iN_shl, e10, e01, e00, bI_0, bI_1, bI_t, bI_f, has_iN, bitc, within_iN, mk_or1, xhas_iN, add_z, if_true, if_false, ite_true, ite_false, reduceCtorEq, Bool.false_eq_true, Bool.true_and, Bool.false_and, Bool.and_true, Bool.and_false, Bool.not_true, Bool.not_false]
    · simp (disch := omega) only [g_X1_countOfSize_L4, s_setLimit h, if_neg (show ¬ 2 ^ n ≤ j by omega), ct_s, hx, decide_false, Bool.toNat_false, Nat.add_zero, iN_le, iN_lt, chk_inb, chk_t, clamp_iN, bd_some, iN_add, iN_s, iN_and, iN_or, iN_shl, e10, e01, e00, bI_0, bI_1, bI_t, bI_f, has_iN, bitc, within_iN, mk_or1, xhas_iN, add_z, if_true, if_false, ite_true, ite_false, reduceCtorEq, Bool.false_eq_true, Bool.true_and, Bool.false_and, Bool.and_true, Bool.and_false, Bool.not_true, Bool.not_false]
  · intro k
    simp (disch := omega) only [g_X1_countOfSize_L4, s_setLimit h, if_pos (Nat.le_refl (2 ^ n)), iN_le, iN_lt, chk_inb, chk_t, clamp_iN, bd_some, iN_add, iN_s, iN_and, iN_or, iN_shl, e10, e01, e00, bI_0, bI_1, bI_t, bI_f, has_iN, bitc, within_iN, mk_or1, xhas_iN, add_z, if_true, if_false, ite_true, ite_false, reduceCtorEq, Bool.false_eq_true, Bool.true_and, Bool.false_and, Bool.and_true, Bool.and_false, Bool.not_true, Bool.not_false]
theorem s_countAhead (h : OR M q n b) {t : Nat} (ht : t < 512) : f_X1_countAhead M q (iN t) = some (iN (ct (2 ^ n) fun s => ah s t && cl b n s)) := by
  have h9 := p2_le h.le
  refine lp_for (fun j => (iN (ct j fun s => ah s t && cl b n s), iN j)) (2 ^ n) (FU_lt2 h9) ?_ ?_
  · intro j hj k
    cases hx : ah j t
    · simp (disch := omega) only [g_X1_countAhead_L4, s_setLimit h, if_neg (show ¬ 2 ^ n ≤ j by omega), ct_s, hx, s_isAhead, Bool.toNat_false, Nat.add_zero, iN_le, iN_lt, chk_inb, chk_t, clamp_iN, bd_some, iN_add, iN_s, iN_and, iN_or, iN_shl, e10, e01, e00, bI_0, bI_1, bI_t, bI_f, has_iN, bitc, within_iN, mk_or1, xhas_iN, add_z, if_true, if_false, ite_true, ite_false, reduceCtorEq, Bool.false_eq_true, Bool.true_and, Bool.false_and, Bool.and_true, Bool.and_false, Bool.not_true, Bool.not_false]
    · cases hc : cl b n j
      · simp (disch := omega) only [g_X1_countAhead_L4, s_setLimit h, if_neg (show ¬ 2 ^ n ≤ j by omega), ct_s, hx, s_isAhead, hc, s_isClosedBelow h (show j < 512 by omega), Bool.toNat_false, Nat.add_zero, iN_le, iN_lt, chk_inb, chk_t, clamp_iN, bd_some, iN_add, iN_s, iN_and, iN_or, iN_shl, e10, e01, e00, bI_0, bI_1, bI_t, bI_f, has_iN, bitc, within_iN, mk_or1, xhas_iN, add_z, if_true, if_false, ite_true, ite_false, reduceCtorEq, Bool.false_eq_true, Bool.true_and, Bool.false_and, Bool.and_true, Bool.and_false, Bool.not_true, Bool.not_false]
      · simp (disch := omega) only [g_X1_countAhead_L4, s_setLimit h, if_neg (show ¬ 2 ^ n ≤ j by omega), ct_s, hx, s_isAhead, hc, s_isClosedBelow h (show j < 512 by omega), Bool.toNat_true, iN_le, iN_lt, chk_inb, chk_t, clamp_iN, bd_some, iN_add, iN_s, iN_and, iN_or, iN_shl, e10, e01, e00, bI_0, bI_1, bI_t, bI_f, has_iN, bitc, within_iN, mk_or1, xhas_iN, add_z, if_true, if_false, ite_true, ite_false, reduceCtorEq, Bool.false_eq_true, Bool.true_and, Bool.false_and, Bool.and_true, Bool.and_false, Bool.not_true, Bool.not_false]
  · intro k
    simp (disch := omega) only [g_X1_countAhead_L4, s_setLimit h, if_pos (Nat.le_refl (2 ^ n)), iN_le, iN_lt, chk_inb, chk_t, clamp_iN, bd_some, iN_add, iN_s, iN_and, iN_or, iN_shl, e10, e01, e00, bI_0, bI_1, bI_t, bI_f, has_iN, bitc, within_iN, mk_or1, xhas_iN, add_z, if_true, if_false, ite_true, ite_false, reduceCtorEq, Bool.false_eq_true, Bool.true_and, Bool.false_and, Bool.and_true, Bool.and_false, Bool.not_true, Bool.not_false]
theorem s_countShared (h : OR M q n b) {q' : Nat} {b' : Nat → Nat} (h' : OR M q' n b') : f_X1_countShared M q q' = some (iN (ct (2 ^ n) fun s => cl b n s && cl b' n s)) := by
  have h9 := p2_le h.le
  refine lp_for (fun j => (iN (ct j fun s => cl b n s && cl b' n s), iN j)) (2 ^ n) (FU_lt2 h9) ?_ ?_
  · intro j hj k
    cases hx : cl b n j
    · simp (disch := omega) only [g_X1_countShared_L4, s_setLimit h, if_neg (show ¬ 2 ^ n ≤ j by omega), ct_s, hx, s_isClosedBelow h (show j < 512 by omega), Bool.toNat_false, Nat.add_zero, iN_le, iN_lt, chk_inb, chk_t, clamp_iN, bd_some, iN_add, iN_s, iN_and, iN_or, iN_shl, e10, e01, e00, bI_0, bI_1, bI_t, bI_f, has_iN, bitc, within_iN, mk_or1, xhas_iN, add_z, if_true, if_false, ite_true, ite_false, reduceCtorEq, Bool.false_eq_true, Bool.true_and, Bool.false_and, Bool.and_true, Bool.and_false, Bool.not_true, Bool.not_false]
    · cases hc : cl b' n j
      · simp (disch := omega) only [g_X1_countShared_L4, s_setLimit h, if_neg (show ¬ 2 ^ n ≤ j by omega), ct_s, hx, s_isClosedBelow h (show j < 512 by omega), hc, s_isClosedBelow h' (show j < 512 by omega), Bool.toNat_false, Nat.add_zero, iN_le, iN_lt, chk_inb, chk_t, clamp_iN, bd_some, iN_add, iN_s, iN_and, iN_or, iN_shl, e10, e01, e00, bI_0, bI_1, bI_t, bI_f, has_iN, bitc, within_iN, mk_or1, xhas_iN, add_z, if_true, if_false, ite_true, ite_false, reduceCtorEq, Bool.false_eq_true, Bool.true_and, Bool.false_and, Bool.and_true, Bool.and_false, Bool.not_true, Bool.not_false]
      · simp (disch := omega) only [g_X1_countShared_L4, s_setLimit h, if_neg (show ¬ 2 ^ n ≤ j by omega), ct_s, hx, s_isClosedBelow h (show j < 512 by omega), hc, s_isClosedBelow h' (show j < 512 by omega), Bool.toNat_true, iN_le, iN_lt, chk_inb, chk_t, clamp_iN, bd_some, iN_add, iN_s, iN_and, iN_or, iN_shl, e10, e01, e00, bI_0, bI_1, bI_t, bI_f, has_iN, bitc, within_iN, mk_or1, xhas_iN, add_z, if_true, if_false, ite_true, ite_false, reduceCtorEq, Bool.false_eq_true, Bool.true_and, Bool.false_and, Bool.and_true, Bool.and_false, Bool.not_true, Bool.not_false]
  · intro k
    simp (disch := omega) only [g_X1_countShared_L4, s_setLimit h, if_pos (Nat.le_refl (2 ^ n)), iN_le, iN_lt, chk_inb, chk_t, clamp_iN, bd_some, iN_add, iN_s, iN_and, iN_or, iN_shl, e10, e01, e00, bI_0, bI_1, bI_t, bI_f, has_iN, bitc, within_iN, mk_or1, xhas_iN, add_z, if_true, if_false, ite_true, ite_false, reduceCtorEq, Bool.false_eq_true, Bool.true_and, Bool.false_and, Bool.and_true, Bool.and_false, Bool.not_true, Bool.not_false]
end OO
section OO
variable {M : Mem} {q n : Nat} {b : Nat → Nat}
def oI : Option Nat → Int32
  | none => -1
  | some k => iN k
/-- the best of those with p, one behind another (r c j: j is better than c) -/
def bs (p : Nat → Bool) (r : Nat → Nat → Bool) : Nat → Option Nat
  | 0 => none
  | j + 1 => if p j && (match bs p r j with | none => true | some c => r c j) then some j else bs p r j
theorem bs_lt {p : Nat → Bool} {r : Nat → Nat → Bool} {j c : Nat} (h : bs p r j = some c) : c < j := by
  induction j with
  | zero => cases h
  | succ j ih =>
    rw [bs] at h
    by_cases e : (p j && (match bs p r j with | none => true | some c => r c j)) = true
    · rw [if_pos e] at h; cases h; omega
    · rw [if_neg e] at h; have := ih h; omega
theorem bs_congr {p p' : Nat → Bool} {r r' : Nat → Nat → Bool} {n : Nat} (hp : ∀ j < n, p j = p' j) (hr : ∀ c j, c < n → j < n → r c j = r' c j) : bs p r n = bs p' r' n := by
  induction n with
  | zero => rfl
  | succ n ih =>
    have e := ih (fun j hj => hp j (by omega)) (fun c j hc hj => hr c j (by omega) (by omega))
    rw [bs, bs, ← e, hp n (by omega)]
    cases hb : bs p r n with
    | none => rfl
    | some c =>
      have := bs_lt hb
      simp only [hr c n (by omega) (by omega)]
theorem oI_n {c : Nat} (h : c < 2 ^ 31) : (iN c = -1) = False := by
  apply eq_false
  intro e
  have := congrArg Int32.toInt e
  rw [iN_toInt h] at this
  have e2 : (-1 : Int32).toInt = -1 := by decide
  rw [e2] at this
  omega
theorem s_lastAhead (h : OR M q n b) {t : Nat} (ht : t < 512) : f_X1_lastAhead M q (iN t) = some (oI (bs (fun s => ah s t && cl b n s) ah (2 ^ n))) := by
  have h9 := p2_le h.le
  refine lp_for (fun j => (oI (bs (fun s => ah s t && cl b n s) ah j), iN j)) (2 ^ n) (FU_lt2 h9) ?_ ?_
  · intro j hj k
    cases hx : ah j t
    · simp (disch := omega) only [g_X1_lastAhead_L4, s_setLimit h, if_neg (show ¬ 2 ^ n ≤ j by omega), bs, hx, s_isAhead, iN_le, iN_lt, chk_inb, chk_t, clamp_iN, bd_some, iN_add, iN_s, iN_and, iN_or, iN_shl, e10, e01, e00, bI_0, bI_1, bI_t, bI_f, has_iN, bitc, within_iN, mk_or1, xhas_iN, add_z, if_true, if_false, ite_true, ite_false, reduceCtorEq, Bool.false_eq_true, Bool.true_and, Bool.false_and, Bool.and_true, Bool.and_false, Bool.not_true, Bool.not_false]
    · cases hb : bs (fun s => ah s t && cl b n s) ah j with
      | none =>
        cases hc : cl b n j
        · simp (disch := omega) only [g_X1_lastAhead_L4, s_setLimit h, if_neg (show ¬ 2 ^ n ≤ j by omega), bs, hx, s_isAhead, hb, oI, hc, s_isClosedBelow h (show j < 512 by omega), iN_le, iN_lt, chk_inb, chk_t, clamp_iN, bd_some, iN_add, iN_s, iN_and, iN_or, iN_shl, e10, e01, e00, bI_0, bI_1, bI_t, bI_f, has_iN, bitc, within_iN, mk_or1, xhas_iN, add_z, if_true, if_false, ite_true, ite_false, reduceCtorEq, Bool.false_eq_true, Bool.true_and, Bool.false_and, Bool.and_true, Bool.and_false, Bool.not_true, Bool.not_false]
        · simp (disch := omega) only [g_X1_lastAhead_L4, s_setLimit h, if_neg (show ¬ 2 ^ n ≤ j by omega), bs, hx, s_isAhead, hb, oI, hc, s_isClosedBelow h (show j < 512 by omega), iN_le, iN_lt, chk_inb, chk_t, clamp_iN, bd_some, iN_add, iN_s, iN_and, iN_or, iN_shl, e10, e01, e00, bI_0, bI_1, bI_t, bI_f, has_iN, bitc, within_iN, mk_or1, xhas_iN, add_z, if_true, if_false, ite_true, ite_false, reduceCtorEq, Bool.false_eq_true, Bool.true_and, Bool.false_and, Bool.and_true, Bool.and_false, Bool.not_true, Bool.not_false]
      | some c =>
        have h1 := bs_lt hb
        cases hc : cl b n j
        · cases hd : ah c j
          · simp (disch := omega) only [g_X1_lastAhead_L4, s_setLimit h, if_neg (show ¬ 2 ^ n ≤ j by omega), bs, hx, s_isAhead, hb, oI, oI_n, hc, hd, s_isClosedBelow h (show j < 512 by omega), iN_le, iN_lt, chk_inb, chk_t, clamp_iN, bd_some, iN_add, iN_s, iN_and, iN_or, iN_shl, e10, e01, e00, bI_0, bI_1, bI_t, bI_f, has_iN, bitc, within_iN, mk_or1, xhas_iN, add_z, if_true, if_false, ite_true, ite_false, reduceCtorEq, Bool.false_eq_true, Bool.true_and, Bool.false_and, Bool.and_true, Bool.and_false, Bool.not_true, Bool.not_false]
          · simp (disch := omega) only [g_X1_lastAhead_L4, s_setLimit h, if_neg (show ¬ 2 ^ n ≤ j by omega), bs, hx, s_isAhead, hb, oI, oI_n, hc, hd, s_isClosedBelow h (show j < 512 by omega), iN_le, iN_lt, chk_inb, chk_t, clamp_iN, bd_some, iN_add, iN_s, iN_and, iN_or, iN_shl, e10, e01, e00, bI_0, bI_1, bI_t, bI_f, has_iN, bitc, within_iN, mk_or1, xhas_iN, add_z, if_true, if_false, ite_true, ite_false, reduceCtorEq, Bool.false_eq_true, Bool.true_and, Bool.false_and, Bool.and_true, Bool.and_false, Bool.not_true, Bool.not_false]
        · cases hd : ah c j
          · simp (disch := omega) only [g_X1_lastAhead_L4, s_setLimit h, if_neg (show ¬ 2 ^ n ≤ j by omega), bs, hx, s_isAhead, hb, oI, oI_n, hc, hd, s_isClosedBelow h (show j < 512 by omega), iN_le, iN_lt, chk_inb, chk_t, clamp_iN, bd_some, iN_add, iN_s, iN_and, iN_or, iN_shl, e10, e01, e00, bI_0, bI_1, bI_t, bI_f, has_iN, bitc, within_iN, mk_or1, xhas_iN, add_z, if_true, if_false, ite_true, ite_false, reduceCtorEq, Bool.false_eq_true, Bool.true_and, Bool.false_and, Bool.and_true, Bool.and_false, Bool.not_true, Bool.not_false]
          · simp (disch := omega) only [g_X1_lastAhead_L4, s_setLimit h, if_neg (show ¬ 2 ^ n ≤ j by omega), bs, hx, s_isAhead, hb, oI, oI_n, hc, hd, s_isClosedBelow h (show j < 512 by omega), iN_le, iN_lt, chk_inb, chk_t, clamp_iN, bd_some, iN_add, iN_s, iN_and, iN_or, iN_shl, e10, e01, e00, bI_0, bI_1, bI_t, bI_f, has_iN, bitc, within_iN, mk_or1, xhas_iN, add_z, if_true, if_false, ite_true, ite_false, reduceCtorEq, Bool.false_eq_true, Bool.true_and, Bool.false_and, Bool.and_true, Bool.and_false, Bool.not_true, Bool.not_false]
  · intro k
    simp (disch := omega) only [g_X1_lastAhead_L4, s_setLimit h, if_pos (Nat.le_refl (2 ^ n)), iN_le, iN_lt, chk_inb, chk_t, clamp_iN, bd_some, iN_add, iN_s, iN_and, iN_or, iN_shl, e10, e01, e00, bI_0, bI_1, bI_t, bI_f, has_iN, bitc, within_iN, mk_or1, xhas_iN, add_z, if_true, if_false, ite_true, ite_false, reduceCtorEq, Bool.false_eq_true, Bool.true_and, Bool.false_and, Bool.and_true, Bool.and_false, Bool.not_true, Bool.not_false]
theorem s_firstBehind (h : OR M q n b) {t : Nat} (ht : t < 512) : f_X1_firstBehind M q (iN t) = some (oI (bs (fun s => ah t s && cl b n s) (fun c j => ah j c) (2 ^ n))) := by
  have h9 := p2_le h.le
  refine lp_for (fun j => (oI (bs (fun s => ah t s && cl b n s) (fun c j => ah j c) j), iN j)) (2 ^ n) (FU_lt2 h9) ?_ ?_
  · intro j hj k
    cases hx : ah t j
    · simp (disch := omega) only [g_X1_firstBehind_L4, s_setLimit h, if_neg (show ¬ 2 ^ n ≤ j by omega), bs, hx, s_isAhead, iN_le, iN_lt, chk_inb, chk_t, clamp_iN, bd_some, iN_add, iN_s, iN_and, iN_or, iN_shl, e10, e01, e00, bI_0, bI_1, bI_t, bI_f, has_iN, bitc, within_iN, mk_or1, xhas_iN, add_z, if_true, if_false, ite_true, ite_false, reduceCtorEq, Bool.false_eq_true, Bool.true_and, Bool.false_and, Bool.and_true, Bool.and_false, Bool.not_true, Bool.not_false]
    · cases hb : bs (fun s => ah t s && cl b n s) (fun c j => ah j c) j with
      | none =>
        cases hc : cl b n j
        · simp (disch := omega) only [g_X1_firstBehind_L4, s_setLimit h, if_neg (show ¬ 2 ^ n ≤ j by omega), bs, hx, s_isAhead, hb, oI, hc, s_isClosedBelow h (show j < 512 by omega), iN_le, iN_lt, chk_inb, chk_t, clamp_iN, bd_some, iN_add, iN_s, iN_and, iN_or, iN_shl, e10, e01, e00, bI_0, bI_1, bI_t, bI_f, has_iN, bitc, within_iN, mk_or1, xhas_iN, add_z, if_true, if_false, ite_true, ite_false, reduceCtorEq, Bool.false_eq_true, Bool.true_and, Bool.false_and, Bool.and_true, Bool.and_false, Bool.not_true, Bool.not_false]
        · simp (disch := omega) only [g_X1_firstBehind_L4, s_setLimit h, if_neg (show ¬ 2 ^ n ≤ j by omega), bs, hx, s_isAhead, hb, oI, hc, s_isClosedBelow h (show j < 512 by omega), iN_le, iN_lt, chk_inb, chk_t, clamp_iN, bd_some, iN_add, iN_s, iN_and, iN_or, iN_shl, e10, e01, e00, bI_0, bI_1, bI_t, bI_f, has_iN, bitc, within_iN, mk_or1, xhas_iN, add_z, if_true, if_false, ite_true, ite_false, reduceCtorEq, Bool.false_eq_true, Bool.true_and, Bool.false_and, Bool.and_true, Bool.and_false, Bool.not_true, Bool.not_false]
      | some c =>
        have h1 := bs_lt hb
        cases hc : cl b n j
        · cases hd : ah j c
          · simp (disch := omega) only [g_X1_firstBehind_L4, s_setLimit h, if_neg (show ¬ 2 ^ n ≤ j by omega), bs, hx, s_isAhead, hb, oI, oI_n, hc, hd, s_isClosedBelow h (show j < 512 by omega), iN_le, iN_lt, chk_inb, chk_t, clamp_iN, bd_some, iN_add, iN_s, iN_and, iN_or, iN_shl, e10, e01, e00, bI_0, bI_1, bI_t, bI_f, has_iN, bitc, within_iN, mk_or1, xhas_iN, add_z, if_true, if_false, ite_true, ite_false, reduceCtorEq, Bool.false_eq_true, Bool.true_and, Bool.false_and, Bool.and_true, Bool.and_false, Bool.not_true, Bool.not_false]
          · simp (disch := omega) only [g_X1_firstBehind_L4, s_setLimit h, if_neg (show ¬ 2 ^ n ≤ j by omega), bs, hx, s_isAhead, hb, oI, oI_n, hc, hd, s_isClosedBelow h (show j < 512 by omega), iN_le, iN_lt, chk_inb, chk_t, clamp_iN, bd_some, iN_add, iN_s, iN_and, iN_or, iN_shl, e10, e01, e00, bI_0, bI_1, bI_t, bI_f, has_iN, bitc, within_iN, mk_or1, xhas_iN, add_z, if_true, if_false, ite_true, ite_false, reduceCtorEq, Bool.false_eq_true, Bool.true_and, Bool.false_and, Bool.and_true, Bool.and_false, Bool.not_true, Bool.not_false]
        · cases hd : ah j c
          · simp (disch := omega) only [g_X1_firstBehind_L4, s_setLimit h, if_neg (show ¬ 2 ^ n ≤ j by omega), bs, hx, s_isAhead, hb, oI, oI_n, hc, hd, s_isClosedBelow h (show j < 512 by omega), iN_le, iN_lt, chk_inb, chk_t, clamp_iN, bd_some, iN_add, iN_s, iN_and, iN_or, iN_shl, e10, e01, e00, bI_0, bI_1, bI_t, bI_f, has_iN, bitc, within_iN, mk_or1, xhas_iN, add_z, if_true, if_false, ite_true, ite_false, reduceCtorEq, Bool.false_eq_true, Bool.true_and, Bool.false_and, Bool.and_true, Bool.and_false, Bool.not_true, Bool.not_false]
          · simp (disch := omega) only [g_X1_firstBehind_L4, s_setLimit h, if_neg (show ¬ 2 ^ n ≤ j by omega), bs, hx, s_isAhead, hb, oI, oI_n, hc, hd, s_isClosedBelow h (show j < 512 by omega), iN_le, iN_lt, chk_inb, chk_t, clamp_iN, bd_some, iN_add, iN_s, iN_and, iN_or, iN_shl, e10, e01, e00, bI_0, bI_1, bI_t, bI_f, has_iN, bitc, within_iN, mk_or1, xhas_iN, add_z, if_true, if_false, ite_true, ite_false, reduceCtorEq, Bool.false_eq_true, Bool.true_and, Bool.false_and, Bool.and_true, Bool.and_false, Bool.not_true, Bool.not_false]
  · intro k
    simp (disch := omega) only [g_X1_firstBehind_L4, s_setLimit h, if_pos (Nat.le_refl (2 ^ n)), iN_le, iN_lt, chk_inb, chk_t, clamp_iN, bd_some, iN_add, iN_s, iN_and, iN_or, iN_shl, e10, e01, e00, bI_0, bI_1, bI_t, bI_f, has_iN, bitc, within_iN, mk_or1, xhas_iN, add_z, if_true, if_false, ite_true, ite_false, reduceCtorEq, Bool.false_eq_true, Bool.true_and, Bool.false_and, Bool.and_true, Bool.and_false, Bool.not_true, Bool.not_false]
/-! sums of 32-bit words -/
def SI : Nat → (Nat → Int32) → Int32
  | 0, _ => 0
  | n + 1, f => SI n f + f n
theorem SI_congr {n : Nat} {f g : Nat → Int32} (h : ∀ k < n, f k = g k) : SI n f = SI n g := by
  induction n with
  | zero => rfl
  | succ n ih => rw [SI, SI, ih (fun k hk => h k (by omega)), h n (by omega)]
theorem s_sumUpTo (h : OR M q n b) {t : Nat} (ht : t < n) : f_X3_sumUpTo M q (iN t) = some (M (q + 2) t + SI n (fun k => if (b t).testBit k then M (q + 2) k else 0)) := by
  have h9 := h.le
  unfold f_X3_sumUpTo
  simp (disch := omega) only [iN_le, iN_lt, chk_inb, chk_t, clamp_iN, bd_some, iN_add, iN_s, iN_and, iN_or, iN_shl, e10, e01, e00, bI_0, bI_1, bI_t, bI_f, has_iN, bitc, within_iN, mk_or1, xhas_iN, add_z, if_true, if_false, ite_true, ite_false, reduceCtorEq, Bool.false_eq_true, Bool.true_and, Bool.false_and, Bool.and_true, Bool.and_false, Bool.not_true, Bool.not_false]
  have e : (M (q + 2) t, (0 : Int32)) = (fun j => (M (q + 2) t + SI j (fun k => if (b t).testBit k then M (q + 2) k else 0), iN j)) 0 := by
    simp only [SI, Int32.add_zero]; rfl
  rw [e]
  refine lp_for (fun j => (M (q + 2) t + SI j (fun k => if (b t).testBit k then M (q + 2) k else 0), iN j)) n (FU_lt h9) ?_ ?_
  · intro j hj k
    cases hb : (b t).testBit j
    · simp (disch := omega) only [g_X3_sumUpTo_L9, h.n, if_neg (show ¬ n ≤ j by omega), SI, hb, s_isBelow h, Int32.add_zero, iN_le, iN_lt, chk_inb, chk_t, clamp_iN, bd_some, iN_add, iN_s, iN_and, iN_or, iN_shl, e10, e01, e00, bI_0, bI_1, bI_t, bI_f, has_iN, bitc, within_iN, mk_or1, xhas_iN, add_z, if_true, if_false, ite_true, ite_false, reduceCtorEq, Bool.false_eq_true, Bool.true_and, Bool.false_and, Bool.and_true, Bool.and_false, Bool.not_true, Bool.not_false]
    · simp (disch := omega) only [g_X3_sumUpTo_L9, h.n, if_neg (show ¬ n ≤ j by omega), SI, hb, s_isBelow h, Int32.add_assoc, iN_le, iN_lt, chk_inb, chk_t, clamp_iN, bd_some, iN_add, iN_s, iN_and, iN_or, iN_shl, e10, e01, e00, bI_0, bI_1, bI_t, bI_f, has_iN, bitc, within_iN, mk_or1, xhas_iN, add_z, if_true, if_false, ite_true, ite_false, reduceCtorEq, Bool.false_eq_true, Bool.true_and, Bool.false_and, Bool.and_true, Bool.and_false, Bool.not_true, Bool.not_false]
  · intro k
    simp (disch := omega) only [g_X3_sumUpTo_L9, h.n, if_pos (Nat.le_refl n), iN_le, iN_lt, chk_inb, chk_t, clamp_iN, bd_some, iN_add, iN_s, iN_and, iN_or, iN_shl, e10, e01, e00, bI_0, bI_1, bI_t, bI_f, has_iN, bitc, within_iN, mk_or1, xhas_iN, add_z, if_true, if_false, ite_true, ite_false, reduceCtorEq, Bool.false_eq_true, Bool.true_and, Bool.false_and, Bool.and_true, Bool.and_false, Bool.not_true, Bool.not_false]
theorem s_hasPairsOf (h : OR M q n b) {q' n' : Nat} {b' : Nat → Nat} (h' : OR M q' n' b') : f_X3_hasPairsOf M q q' = some (bI (decide (n = n') && al n fun k => decide (b k = b' k))) := by
  have h9 := h.le
  have h9' := h'.le
  unfold f_X3_hasPairsOf
  by_cases hn : n = n'
  · subst hn
    simp only [h.n, h'.n, if_true, decide_true, Bool.true_and]
    rw [← ite_b]
    refine lp_al (fun j => iN j) n (fun k => decide (b k = b' k)) (FU_lt h9) ?_ ?_ ?_
    · intro j hj hp k
      have h1 := h.lt9 hj
      have h2 := h'.lt9 hj
      have hp := of_decide_eq_true hp
      simp (disch := omega) only [g_X3_hasPairsOf_L15, h.n, if_neg (show ¬ n ≤ j by omega), h.b hj, h'.b hj, hp, iN_le, iN_lt, chk_inb, chk_t, clamp_iN, bd_some, iN_add, iN_s, iN_and, iN_or, iN_shl, e10, e01, e00, bI_0, bI_1, bI_t, bI_f, has_iN, bitc, within_iN, mk_or1, xhas_iN, add_z, if_true, if_false, ite_true, ite_false, reduceCtorEq, Bool.false_eq_true, Bool.true_and, Bool.false_and, Bool.and_true, Bool.and_false, Bool.not_true, Bool.not_false]
    · intro j hj hp k
      have h1 := h.lt9 hj
      have h2 := h'.lt9 hj
      have hp := of_decide_eq_false hp
      have e : (iN (b j) = iN (b' j)) = False := by
        rw [iN_eq (by omega) (by omega)]; exact eq_false hp
      simp (disch := omega) only [g_X3_hasPairsOf_L15, h.n, if_neg (show ¬ n ≤ j by omega), h.b hj, h'.b hj, e, iN_le, iN_lt, chk_inb, chk_t, clamp_iN, bd_some, iN_add, iN_s, iN_and, iN_or, iN_shl, e10, e01, e00, bI_0, bI_1, bI_t, bI_f, has_iN, bitc, within_iN, mk_or1, xhas_iN, add_z, if_true, if_false, ite_true, ite_false, reduceCtorEq, Bool.false_eq_true, Bool.true_and, Bool.false_and, Bool.and_true, Bool.and_false, Bool.not_true, Bool.not_false]
    · intro k
      simp (disch := omega) only [g_X3_hasPairsOf_L15, h.n, if_pos (Nat.le_refl n), iN_le, iN_lt, chk_inb, chk_t, clamp_iN, bd_some, iN_add, iN_s, iN_and, iN_or, iN_shl, e10, e01, e00, bI_0, bI_1, bI_t, bI_f, has_iN, bitc, within_iN, mk_or1, xhas_iN, add_z, if_true, if_false, ite_true, ite_false, reduceCtorEq, Bool.false_eq_true, Bool.true_and, Bool.false_and, Bool.and_true, Bool.and_false, Bool.not_true, Bool.not_false]
  · have e : (iN n = iN n') = False := by
      rw [iN_eq (by omega) (by omega)]; exact eq_false hn
    simp only [h.n, h'.n, e, if_false, hn, decide_false, Bool.false_and]
    rfl
end OO
/-! ===== the reference's order ===== -/
/-- the reference has the order n, b at its place o -/
def MR (M : Mem) (o n : Nat) (b : Nat → Nat) : Prop := o < 5 ∧ n ≤ 9 ∧ M 48 o = iN n ∧ ∀ k < n, b k < 2 ^ n ∧ ∀ j < n, M ((56 + 10 * o) + 1 + j) k = bI ((b k).testBit j)
theorem MR.o {M : Mem} {o n : Nat} {b : Nat → Nat} (h : MR M o n b) : o < 5 := h.1
theorem MR.le {M : Mem} {o n : Nat} {b : Nat → Nat} (h : MR M o n b) : n ≤ 9 := h.2.1
theorem MR.n {M : Mem} {o n : Nat} {b : Nat → Nat} (h : MR M o n b) : M 48 o = iN n := h.2.2.1
theorem MR.lt {M : Mem} {o n : Nat} {b : Nat → Nat} (h : MR M o n b) {k : Nat} (hk : k < n) : b k < 2 ^ n := (h.2.2.2 k hk).1
theorem MR.lt9 {M : Mem} {o n : Nat} {b : Nat → Nat} (h : MR M o n b) {k : Nat} (hk : k < n) : b k < 512 := Nat.lt_of_lt_of_le (h.lt hk) (p2_le h.le)
theorem MR.b {M : Mem} {o n : Nat} {b : Nat → Nat} (h : MR M o n b) {k j : Nat} (hk : k < n) (hj : j < n) : M ((56 + 10 * o) + 1 + j) k = bI ((b k).testBit j) := (h.2.2.2 k hk).2 j hj
section MM
variable {M : Mem} {o n : Nat} {b : Nat → Nat}
theorem t_manyIn {s : Nat} (hs : s < 2 ^ 31) : f_X7_manyIn (iN s) = some (iN (pc s)) := by
  have e : pc s = ct 9 s.testBit := by
    unfold pc ct
    simp only [S, Nat.zero_add]
  rw [e]
  refine lp_for (fun j => (iN (ct j s.testBit), iN j)) 9 (FU_lt (by omega)) ?_ ?_
  · intro j hj k
    have e9 : (9 : Int32) = iN 9 := rfl
    cases hb : s.testBit j
    · simp (disch := omega) only [g_X7_manyIn_L4, e9, if_neg (show ¬ 9 ≤ j by omega), hb, ct_s, Bool.toNat_false, Nat.add_zero, iN_le, iN_lt, chk_inb, chk_t, clamp_iN, bd_some, iN_add, iN_s, iN_and, iN_or, iN_shl, e10, e01, e00, bI_0, bI_1, bI_t, bI_f, has_iN, bitc, within_iN, mk_or1, xhas_iN, add_z, if_true, if_false, ite_true, ite_false, reduceCtorEq, Bool.false_eq_true, Bool.true_and, Bool.false_and, Bool.and_true, Bool.and_false, Bool.not_true, Bool.not_false]
    · simp (disch := omega) only [g_X7_manyIn_L4, e9, if_neg (show ¬ 9 ≤ j by omega), hb, ct_s, Bool.toNat_true, iN_le, iN_lt, chk_inb, chk_t, clamp_iN, bd_some, iN_add, iN_s, iN_and, iN_or, iN_shl, e10, e01, e00, bI_0, bI_1, bI_t, bI_f, has_iN, bitc, within_iN, mk_or1, xhas_iN, add_z, if_true, if_false, ite_true, ite_false, reduceCtorEq, Bool.false_eq_true, Bool.true_and, Bool.false_and, Bool.and_true, Bool.and_false, Bool.not_true, Bool.not_false]
  · intro k
    have e9 : (9 : Int32) = iN 9 := rfl
    simp (disch := omega) only [g_X7_manyIn_L4, e9, if_pos (Nat.le_refl 9), iN_le, iN_lt, chk_inb, chk_t, clamp_iN, bd_some, iN_add, iN_s, iN_and, iN_or, iN_shl, e10, e01, e00, bI_0, bI_1, bI_t, bI_f, has_iN, bitc, within_iN, mk_or1, xhas_iN, add_z, if_true, if_false, ite_true, ite_false, reduceCtorEq, Bool.false_eq_true, Bool.true_and, Bool.false_and, Bool.and_true, Bool.and_false, Bool.not_true, Bool.not_false]
theorem t_isUpTo (h : MR M o n b) {j k : Nat} (hj : j < n) (hk : k < n) : f_X7_isUpTo M (iN o) (iN j) (iN k) = some (bI (decide (j = k) || (b k).testBit j)) := by
  have ho := h.o
  have h9 := h.le
  unfold f_X7_isUpTo
  by_cases e : j = k
  · simp (disch := omega) only [e, decide_true, Bool.true_or, iN_le, iN_lt, chk_inb, chk_t, clamp_iN, bd_some, iN_add, iN_s, iN_and, iN_or, iN_shl, e10, e01, e00, bI_0, bI_1, bI_t, bI_f, has_iN, bitc, within_iN, mk_or1, xhas_iN, add_z, if_true, if_false, ite_true, ite_false, reduceCtorEq, Bool.false_eq_true, Bool.true_and, Bool.false_and, Bool.and_true, Bool.and_false, Bool.not_true, Bool.not_false]
  · have e1 : (iN j = iN k) = False := by rw [iN_eq (by omega) (by omega)]; exact eq_false e
    cases hb : (b k).testBit j
    · simp (disch := omega) only [e1, e, decide_false, Bool.false_or, h.b hk hj, hb, iN_le, iN_lt, chk_inb, chk_t, clamp_iN, bd_some, iN_add, iN_s, iN_and, iN_or, iN_shl, e10, e01, e00, bI_0, bI_1, bI_t, bI_f, has_iN, bitc, within_iN, mk_or1, xhas_iN, add_z, if_true, if_false, ite_true, ite_false, reduceCtorEq, Bool.false_eq_true, Bool.true_and, Bool.false_and, Bool.and_true, Bool.and_false, Bool.not_true, Bool.not_false]
    · simp (disch := omega) only [e1, e, decide_false, Bool.false_or, h.b hk hj, hb, iN_le, iN_lt, chk_inb, chk_t, clamp_iN, bd_some, iN_add, iN_s, iN_and, iN_or, iN_shl, e10, e01, e00, bI_0, bI_1, bI_t, bI_f, has_iN, bitc, within_iN, mk_or1, xhas_iN, add_z, if_true, if_false, ite_true, ite_false, reduceCtorEq, Bool.false_eq_true, Bool.true_and, Bool.false_and, Bool.and_true, Bool.and_false, Bool.not_true, Bool.not_false]
/-- j is next below k -/
def nx (b : Nat → Nat) (n j k : Nat) : Bool := (b k).testBit j && al n fun i => !((b i).testBit j && (b k).testBit i)
theorem t_next (h : MR M o n b) {j k : Nat} (hj : j < n) (hk : k < n) : f_X7_next M (iN o) (iN j) (iN k) = some (bI (nx b n j k)) := by
  have ho := h.o
  have h9 := h.le
  unfold f_X7_next nx
  simp (disch := omega) only [h.b hk hj, iN_le, iN_lt, chk_inb, chk_t, clamp_iN, bd_some, iN_add, iN_s, iN_and, iN_or, iN_shl, e10, e01, e00, bI_0, bI_1, bI_t, bI_f, has_iN, bitc, within_iN, mk_or1, xhas_iN, add_z, if_true, if_false, ite_true, ite_false, reduceCtorEq, Bool.false_eq_true, Bool.true_and, Bool.false_and, Bool.and_true, Bool.and_false, Bool.not_true, Bool.not_false]
  have e : (bI ((b k).testBit j), (0 : Int32)) = (fun i => (bI ((b k).testBit j && al i fun i => !((b i).testBit j && (b k).testBit i)), iN i)) 0 := by
    simp only [al, Bool.and_true]; rfl
  rw [e]
  refine lp_for (fun i => (bI ((b k).testBit j && al i fun i => !((b i).testBit j && (b k).testBit i)), iN i)) n (FU_lt h9) ?_ ?_
  · intro i hi f
    cases ha : ((b k).testBit j && al i fun i => !((b i).testBit j && (b k).testBit i))
    · simp (disch := omega) only [g_X7_next_L15, h.n, if_neg (show ¬ n ≤ i by omega), al, ← Bool.and_assoc, ha, iN_le, iN_lt, chk_inb, chk_t, clamp_iN, bd_some, iN_add, iN_s, iN_and, iN_or, iN_shl, e10, e01, e00, bI_0, bI_1, bI_t, bI_f, has_iN, bitc, within_iN, mk_or1, xhas_iN, add_z, if_true, if_false, ite_true, ite_false, reduceCtorEq, Bool.false_eq_true, Bool.true_and, Bool.false_and, Bool.and_true, Bool.and_false, Bool.not_true, Bool.not_false]
    · cases hb : (b i).testBit j
      · simp (disch := omega) only [g_X7_next_L15, h.n, if_neg (show ¬ n ≤ i by omega), al, ← Bool.and_assoc, ha, h.b hi hj, hb, iN_le, iN_lt, chk_inb, chk_t, clamp_iN, bd_some, iN_add, iN_s, iN_and, iN_or, iN_shl, e10, e01, e00, bI_0, bI_1, bI_t, bI_f, has_iN, bitc, within_iN, mk_or1, xhas_iN, add_z, if_true, if_false, ite_true, ite_false, reduceCtorEq, Bool.false_eq_true, Bool.true_and, Bool.false_and, Bool.and_true, Bool.and_false, Bool.not_true, Bool.not_false]
      · cases hc : (b k).testBit i
        · simp (disch := omega) only [g_X7_next_L15, h.n, if_neg (show ¬ n ≤ i by omega), al, ← Bool.and_assoc, ha, h.b hi hj, h.b hk hi, hb, hc, iN_le, iN_lt, chk_inb, chk_t, clamp_iN, bd_some, iN_add, iN_s, iN_and, iN_or, iN_shl, e10, e01, e00, bI_0, bI_1, bI_t, bI_f, has_iN, bitc, within_iN, mk_or1, xhas_iN, add_z, if_true, if_false, ite_true, ite_false, reduceCtorEq, Bool.false_eq_true, Bool.true_and, Bool.false_and, Bool.and_true, Bool.and_false, Bool.not_true, Bool.not_false]
        · simp (disch := omega) only [g_X7_next_L15, h.n, if_neg (show ¬ n ≤ i by omega), al, ← Bool.and_assoc, ha, h.b hi hj, h.b hk hi, hb, hc, iN_le, iN_lt, chk_inb, chk_t, clamp_iN, bd_some, iN_add, iN_s, iN_and, iN_or, iN_shl, e10, e01, e00, bI_0, bI_1, bI_t, bI_f, has_iN, bitc, within_iN, mk_or1, xhas_iN, add_z, if_true, if_false, ite_true, ite_false, reduceCtorEq, Bool.false_eq_true, Bool.true_and, Bool.false_and, Bool.and_true, Bool.and_false, Bool.not_true, Bool.not_false]
  · intro f
    simp (disch := omega) only [g_X7_next_L15, h.n, if_pos (Nat.le_refl n), isb_bI, iN_le, iN_lt, chk_inb, chk_t, clamp_iN, bd_some, iN_add, iN_s, iN_and, iN_or, iN_shl, e10, e01, e00, bI_0, bI_1, bI_t, bI_f, has_iN, bitc, within_iN, mk_or1, xhas_iN, add_z, if_true, if_false, ite_true, ite_false, reduceCtorEq, Bool.false_eq_true, Bool.true_and, Bool.false_and, Bool.and_true, Bool.and_false, Bool.not_true, Bool.not_false]
theorem t_lowerOf (h : MR M o n b) {t : Nat} (ht : t < n) : f_X7_lowerOf M (iN o) (iN t) = some (iN (b t)) := by
  have ho := h.o
  have h9 := h.le
  rw [mk_eq (h.lt ht) (fun k _ => rfl)]
  refine lp_for (fun j => (iN (mk j (b t).testBit), iN j)) n (FU_lt h9) ?_ ?_
  · intro j hj k
    cases hb : (b t).testBit j
    · simp (disch := omega) only [g_X7_lowerOf_L5, h.n, if_neg (show ¬ n ≤ j by omega), mk, hb, Nat.add_zero, h.b ht hj, iN_le, iN_lt, chk_inb, chk_t, clamp_iN, bd_some, iN_add, iN_s, iN_and, iN_or, iN_shl, e10, e01, e00, bI_0, bI_1, bI_t, bI_f, has_iN, bitc, within_iN, mk_or1, xhas_iN, add_z, if_true, if_false, ite_true, ite_false, reduceCtorEq, Bool.false_eq_true, Bool.true_and, Bool.false_and, Bool.and_true, Bool.and_false, Bool.not_true, Bool.not_false]
    · simp (disch := omega) only [g_X7_lowerOf_L5, h.n, if_neg (show ¬ n ≤ j by omega), mk, hb, h.b ht hj, iN_le, iN_lt, chk_inb, chk_t, clamp_iN, bd_some, iN_add, iN_s, iN_and, iN_or, iN_shl, e10, e01, e00, bI_0, bI_1, bI_t, bI_f, has_iN, bitc, within_iN, mk_or1, xhas_iN, add_z, if_true, if_false, ite_true, ite_false, reduceCtorEq, Bool.false_eq_true, Bool.true_and, Bool.false_and, Bool.and_true, Bool.and_false, Bool.not_true, Bool.not_false]
  · intro k
    simp (disch := omega) only [g_X7_lowerOf_L5, h.n, if_pos (Nat.le_refl n), iN_le, iN_lt, chk_inb, chk_t, clamp_iN, bd_some, iN_add, iN_s, iN_and, iN_or, iN_shl, e10, e01, e00, bI_0, bI_1, bI_t, bI_f, has_iN, bitc, within_iN, mk_or1, xhas_iN, add_z, if_true, if_false, ite_true, ite_false, reduceCtorEq, Bool.false_eq_true, Bool.true_and, Bool.false_and, Bool.and_true, Bool.and_false, Bool.not_true, Bool.not_false]
theorem t_upperOf (h : MR M o n b) {t : Nat} (ht : t < n) : f_X7_upperOf M (iN o) (iN t) = some (iN (mk n fun k => (b k).testBit t)) := by
  have ho := h.o
  have h9 := h.le
  refine lp_for (fun j => (iN (mk j fun k => (b k).testBit t), iN j)) n (FU_lt h9) ?_ ?_
  · intro j hj k
    cases hb : (b j).testBit t
    · simp (disch := omega) only [g_X7_upperOf_L5, h.n, if_neg (show ¬ n ≤ j by omega), mk, hb, Nat.add_zero, h.b hj ht, iN_le, iN_lt, chk_inb, chk_t, clamp_iN, bd_some, iN_add, iN_s, iN_and, iN_or, iN_shl, e10, e01, e00, bI_0, bI_1, bI_t, bI_f, has_iN, bitc, within_iN, mk_or1, xhas_iN, add_z, if_true, if_false, ite_true, ite_false, reduceCtorEq, Bool.false_eq_true, Bool.true_and, Bool.false_and, Bool.and_true, Bool.and_false, Bool.not_true, Bool.not_false]
    · simp (disch := omega) only [g_X7_upperOf_L5, h.n, if_neg (show ¬ n ≤ j by omega), mk, hb, h.b hj ht, iN_le, iN_lt, chk_inb, chk_t, clamp_iN, bd_some, iN_add, iN_s, iN_and, iN_or, iN_shl, e10, e01, e00, bI_0, bI_1, bI_t, bI_f, has_iN, bitc, within_iN, mk_or1, xhas_iN, add_z, if_true, if_false, ite_true, ite_false, reduceCtorEq, Bool.false_eq_true, Bool.true_and, Bool.false_and, Bool.and_true, Bool.and_false, Bool.not_true, Bool.not_false]
  · intro k
    simp (disch := omega) only [g_X7_upperOf_L5, h.n, if_pos (Nat.le_refl n), iN_le, iN_lt, chk_inb, chk_t, clamp_iN, bd_some, iN_add, iN_s, iN_and, iN_or, iN_shl, e10, e01, e00, bI_0, bI_1, bI_t, bI_f, has_iN, bitc, within_iN, mk_or1, xhas_iN, add_z, if_true, if_false, ite_true, ite_false, reduceCtorEq, Bool.false_eq_true, Bool.true_and, Bool.false_and, Bool.and_true, Bool.and_false, Bool.not_true, Bool.not_false]
theorem t_pairsOf (h : MR M o n b) : f_X7_pairsOf M (iN o) = some (iN (S n fun k => pc (b k))) := by
  have ho := h.o
  have h9 := h.le
  have e : (S n fun k => pc (b k)) = S n fun j => ct n fun k => (b k).testBit j := by
    rw [show (S n fun j => ct n fun k => (b k).testBit j) = S n fun k => ct n (b k).testBit from S_comm]
    exact S_congr (fun k hk => pc_ct (h.lt hk) h9)
  rw [e]
  refine lp_for (fun j => (iN (S j fun j => ct n fun k => (b k).testBit j), iN j)) n (FU_lt h9) ?_ ?_
  · intro j hj k
    simp (disch := omega) only [g_X7_pairsOf_L4, h.n, if_neg (show ¬ n ≤ j by omega), iN_le, iN_lt, chk_inb, chk_t, clamp_iN, bd_some, iN_add, iN_s, iN_and, iN_or, iN_shl, e10, e01, e00, bI_0, bI_1, bI_t, bI_f, has_iN, bitc, within_iN, mk_or1, xhas_iN, add_z, if_true, if_false, ite_true, ite_false, reduceCtorEq, Bool.false_eq_true, Bool.true_and, Bool.false_and, Bool.and_true, Bool.and_false, Bool.not_true, Bool.not_false]
    refine lp_for (fun i => (iN ((S j fun j => ct n fun k => (b k).testBit j) + ct i fun k => (b k).testBit j), iN i)) n (FU_lt h9) ?_ ?_
    · intro i hi f
      cases hb : (b i).testBit j
      · simp (disch := omega) only [g_X7_pairsOf_L17, h.n, if_neg (show ¬ n ≤ i by omega), h.b hi hj, hb, ct_s, Bool.toNat_false, Nat.add_zero, iN_le, iN_lt, chk_inb, chk_t, clamp_iN, bd_some, iN_add, iN_s, iN_and, iN_or, iN_shl, e10, e01, e00, bI_0, bI_1, bI_t, bI_f, has_iN, bitc, within_iN, mk_or1, xhas_iN, add_z, if_true, if_false, ite_true, ite_false, reduceCtorEq, Bool.false_eq_true, Bool.true_and, Bool.false_and, Bool.and_true, Bool.and_false, Bool.not_true, Bool.not_false]
      · simp (disch := omega) only [g_X7_pairsOf_L17, h.n, if_neg (show ¬ n ≤ i by omega), h.b hi hj, hb, ct_s, Bool.toNat_true, ← Nat.add_assoc, iN_le, iN_lt, chk_inb, chk_t, clamp_iN, bd_some, iN_add, iN_s, iN_and, iN_or, iN_shl, e10, e01, e00, bI_0, bI_1, bI_t, bI_f, has_iN, bitc, within_iN, mk_or1, xhas_iN, add_z, if_true, if_false, ite_true, ite_false, reduceCtorEq, Bool.false_eq_true, Bool.true_and, Bool.false_and, Bool.and_true, Bool.and_false, Bool.not_true, Bool.not_false]
    · intro f
      simp (disch := omega) only [g_X7_pairsOf_L17, h.n, if_pos (Nat.le_refl n), S, iN_le, iN_lt, chk_inb, chk_t, clamp_iN, bd_some, iN_add, iN_s, iN_and, iN_or, iN_shl, e10, e01, e00, bI_0, bI_1, bI_t, bI_f, has_iN, bitc, within_iN, mk_or1, xhas_iN, add_z, if_true, if_false, ite_true, ite_false, reduceCtorEq, Bool.false_eq_true, Bool.true_and, Bool.false_and, Bool.and_true, Bool.and_false, Bool.not_true, Bool.not_false]
  · intro k
    simp (disch := omega) only [g_X7_pairsOf_L4, h.n, if_pos (Nat.le_refl n), iN_le, iN_lt, chk_inb, chk_t, clamp_iN, bd_some, iN_add, iN_s, iN_and, iN_or, iN_shl, e10, e01, e00, bI_0, bI_1, bI_t, bI_f, has_iN, bitc, within_iN, mk_or1, xhas_iN, add_z, if_true, if_false, ite_true, ite_false, reduceCtorEq, Bool.false_eq_true, Bool.true_and, Bool.false_and, Bool.and_true, Bool.and_false, Bool.not_true, Bool.not_false]
def cm (b : Nat → Nat) (k j : Nat) : Bool := (b j).testBit k || (b k).testBit j
def ia (b : Nat → Nat) (n s : Nat) (c : Bool) : Bool := al n fun k => al k fun j => !(s.testBit k && s.testBit j) || (cm b k j == c)
theorem t_isAll (h : MR M o n b) {s : Nat} (hs : s < 512) (c : Bool) : f_X7_isAll M (iN o) (iN s) (bI c) = some (bI (ia b n s c)) := by
  have ho := h.o
  have h9 := h.le
  refine lp_for (fun k => (bI (ia b k s c), iN k)) n (FU_lt h9) ?_ ?_
  · intro k hk f
    simp (disch := omega) only [g_X7_isAll_L6, h.n, if_neg (show ¬ n ≤ k by omega), iN_le, iN_lt, chk_inb, chk_t, clamp_iN, bd_some, iN_add, iN_s, iN_and, iN_or, iN_shl, e10, e01, e00, bI_0, bI_1, bI_t, bI_f, has_iN, bitc, within_iN, mk_or1, xhas_iN, add_z, if_true, if_false, ite_true, ite_false, reduceCtorEq, Bool.false_eq_true, Bool.true_and, Bool.false_and, Bool.and_true, Bool.and_false, Bool.not_true, Bool.not_false]
    have e : (bI (ia b k s c), (0 : Int32)) = (fun j => (bI (ia b k s c && al j fun j => !(s.testBit k && s.testBit j) || (cm b k j == c)), iN j)) 0 := by
      simp only [al, Bool.and_true]; rfl
    rw [e]
    refine lp_for (fun j => (bI (ia b k s c && al j fun j => !(s.testBit k && s.testBit j) || (cm b k j == c)), iN j)) k (FU_lt (by omega)) ?_ ?_
    · intro j hj g
      have hjn : j < n := by omega
      generalize ha : (ia b k s c && al j fun j => !(s.testBit k && s.testBit j) || (cm b k j == c)) = a
      have e3 : (ia b k s c && al (j + 1) fun j => !(s.testBit k && s.testBit j) || (cm b k j == c)) = (a && (!(s.testBit k && s.testBit j) || (cm b k j == c))) := by
        rw [← ha, al, Bool.and_assoc]
      rw [e3]
      simp (disch := omega) only [g_X7_isAll_L20, if_neg (show ¬ k ≤ j by omega), iN_le, iN_lt, chk_inb, chk_t, clamp_iN, bd_some, iN_add, iN_s, iN_and, iN_or, iN_shl, e10, e01, e00, bI_0, bI_1, bI_t, bI_f, has_iN, bitc, within_iN, mk_or1, xhas_iN, add_z, if_true, if_false, ite_true, ite_false, reduceCtorEq, Bool.false_eq_true, Bool.true_and, Bool.false_and, Bool.and_true, Bool.and_false, Bool.not_true, Bool.not_false]
      have e4 : (cm b k j == c) = (cm b k j == c) := rfl
      unfold cm
      have b1 := h.b hjn hk
      have b2 := h.b hk hjn
      cases h1 : s.testBit k
      · cases a <;> simp (disch := omega) only [f_X7_isAll_L49, f_X7_isAll_L50, b1, b2, h1, Bool.or_true, Bool.or_false, Bool.true_or, Bool.false_or, iN_le, iN_lt, chk_inb, chk_t, clamp_iN, bd_some, iN_add, iN_s, iN_and, iN_or, iN_shl, e10, e01, e00, bI_0, bI_1, bI_t, bI_f, has_iN, bitc, within_iN, mk_or1, xhas_iN, add_z, if_true, if_false, ite_true, ite_false, reduceCtorEq, Bool.false_eq_true, Bool.true_and, Bool.false_and, Bool.and_true, Bool.and_false, Bool.not_true, Bool.not_false]
      · cases h2 : s.testBit j
        · cases a <;> simp (disch := omega) only [f_X7_isAll_L49, f_X7_isAll_L50, b1, b2, h1, h2, Bool.or_true, Bool.or_false, Bool.true_or, Bool.false_or, iN_le, iN_lt, chk_inb, chk_t, clamp_iN, bd_some, iN_add, iN_s, iN_and, iN_or, iN_shl, e10, e01, e00, bI_0, bI_1, bI_t, bI_f, has_iN, bitc, within_iN, mk_or1, xhas_iN, add_z, if_true, if_false, ite_true, ite_false, reduceCtorEq, Bool.false_eq_true, Bool.true_and, Bool.false_and, Bool.and_true, Bool.and_false, Bool.not_true, Bool.not_false]
        · cases a
          · simp (disch := omega) only [f_X7_isAll_L49, f_X7_isAll_L50, b1, b2, h1, h2, Bool.or_true, Bool.or_false, Bool.true_or, Bool.false_or, iN_le, iN_lt, chk_inb, chk_t, clamp_iN, bd_some, iN_add, iN_s, iN_and, iN_or, iN_shl, e10, e01, e00, bI_0, bI_1, bI_t, bI_f, has_iN, bitc, within_iN, mk_or1, xhas_iN, add_z, if_true, if_false, ite_true, ite_false, reduceCtorEq, Bool.false_eq_true, Bool.true_and, Bool.false_and, Bool.and_true, Bool.and_false, Bool.not_true, Bool.not_false]
          · cases h4 : (b k).testBit j
            · cases h3 : (b j).testBit k <;> cases c <;> simp (disch := omega) only [f_X7_isAll_L49, f_X7_isAll_L50, b1, b2, h1, h2, h3, h4, Bool.or_true, Bool.or_false, Bool.true_or, Bool.false_or, iN_le, iN_lt, chk_inb, chk_t, clamp_iN, bd_some, iN_add, iN_s, iN_and, iN_or, iN_shl, e10, e01, e00, bI_0, bI_1, bI_t, bI_f, has_iN, bitc, within_iN, mk_or1, xhas_iN, add_z, if_true, if_false, ite_true, ite_false, reduceCtorEq, Bool.false_eq_true, Bool.true_and, Bool.false_and, Bool.and_true, Bool.and_false, Bool.not_true, Bool.not_false] <;> rfl
            · cases h3 : (b j).testBit k <;> cases c <;> simp (disch := omega) only [f_X7_isAll_L49, f_X7_isAll_L50, b1, b2, h1, h2, h3, h4, Bool.or_true, Bool.or_false, Bool.true_or, Bool.false_or, iN_le, iN_lt, chk_inb, chk_t, clamp_iN, bd_some, iN_add, iN_s, iN_and, iN_or, iN_shl, e10, e01, e00, bI_0, bI_1, bI_t, bI_f, has_iN, bitc, within_iN, mk_or1, xhas_iN, add_z, if_true, if_false, ite_true, ite_false, reduceCtorEq, Bool.false_eq_true, Bool.true_and, Bool.false_and, Bool.and_true, Bool.and_false, Bool.not_true, Bool.not_false] <;> rfl
    · intro g
      simp (disch := omega) only [g_X7_isAll_L20, if_pos (Nat.le_refl k), iN_le, iN_lt, chk_inb, chk_t, clamp_iN, bd_some, iN_add, iN_s, iN_and, iN_or, iN_shl, e10, e01, e00, bI_0, bI_1, bI_t, bI_f, has_iN, bitc, within_iN, mk_or1, xhas_iN, add_z, if_true, if_false, ite_true, ite_false, reduceCtorEq, Bool.false_eq_true, Bool.true_and, Bool.false_and, Bool.and_true, Bool.and_false, Bool.not_true, Bool.not_false]
      rfl
  · intro f
    simp (disch := omega) only [g_X7_isAll_L6, h.n, if_pos (Nat.le_refl n), isb_bI, iN_le, iN_lt, chk_inb, chk_t, clamp_iN, bd_some, iN_add, iN_s, iN_and, iN_or, iN_shl, e10, e01, e00, bI_0, bI_1, bI_t, bI_f, has_iN, bitc, within_iN, mk_or1, xhas_iN, add_z, if_true, if_false, ite_true, ite_false, reduceCtorEq, Bool.false_eq_true, Bool.true_and, Bool.false_and, Bool.and_true, Bool.and_false, Bool.not_true, Bool.not_false]
end MM
section MM
variable {M : Mem} {o n : Nat} {b : Nat → Nat}
theorem un_lt' {s : Nat} (h : ∀ k < n, b k < 2 ^ n) : un b s n < 2 ^ n := un_lt h
theorem t_closure (h : MR M o n b) {s : Nat} (hs : s < 512) : f_X7_closure M (iN o) (iN s) = some (iN (s ||| un b s n)) := by
  have ho := h.o
  have h9 := h.le
  have e : (iN s, (0 : Int32)) = (fun j => (iN (s ||| un b s j), iN j)) 0 := by
    simp only [un, Nat.or_zero]; rfl
  unfold f_X7_closure
  rw [e]
  refine lp_for (fun j => (iN (s ||| un b s j), iN j)) n (FU_lt h9) ?_ ?_
  · intro j hj k
    cases hb : s.testBit j
    · simp (disch := omega) only [g_X7_closure_L5, h.n, if_neg (show ¬ n ≤ j by omega), un, hb, Int32.or_zero, iN_le, iN_lt, chk_inb, chk_t, clamp_iN, bd_some, iN_add, iN_s, iN_and, iN_or, iN_shl, e10, e01, e00, bI_0, bI_1, bI_t, bI_f, has_iN, bitc, within_iN, mk_or1, xhas_iN, add_z, if_true, if_false, ite_true, ite_false, reduceCtorEq, Bool.false_eq_true, Bool.true_and, Bool.false_and, Bool.and_true, Bool.and_false, Bool.not_true, Bool.not_false]
    · simp (disch := omega) only [g_X7_closure_L5, h.n, if_neg (show ¬ n ≤ j by omega), un, hb, t_lowerOf h hj, Nat.or_assoc, iN_le, iN_lt, chk_inb, chk_t, clamp_iN, bd_some, iN_add, iN_s, iN_and, iN_or, iN_shl, e10, e01, e00, bI_0, bI_1, bI_t, bI_f, has_iN, bitc, within_iN, mk_or1, xhas_iN, add_z, if_true, if_false, ite_true, ite_false, reduceCtorEq, Bool.false_eq_true, Bool.true_and, Bool.false_and, Bool.and_true, Bool.and_false, Bool.not_true, Bool.not_false]
  · intro k
    simp (disch := omega) only [g_X7_closure_L5, h.n, if_pos (Nat.le_refl n), iN_le, iN_lt, chk_inb, chk_t, clamp_iN, bd_some, iN_add, iN_s, iN_and, iN_or, iN_shl, e10, e01, e00, bI_0, bI_1, bI_t, bI_f, has_iN, bitc, within_iN, mk_or1, xhas_iN, add_z, if_true, if_false, ite_true, ite_false, reduceCtorEq, Bool.false_eq_true, Bool.true_and, Bool.false_and, Bool.and_true, Bool.and_false, Bool.not_true, Bool.not_false]
theorem or_eq {s t n : Nat} (hs : s < 2 ^ n) (ht : t < 2 ^ n) : s ||| t = s ↔ ∀ k < n, t.testBit k = true → s.testBit k = true := by
  constructor
  · intro h k hk hb
    rw [← h, Nat.testBit_or, hb]; simp
  · intro h
    refine set_ext (n := n) (or_lt hs ht) hs (fun k hk => ?_)
    rw [Nat.testBit_or]
    cases hb : t.testBit k
    · simp
    · rw [h k hk hb]; rfl
theorem cl_iff {s : Nat} (hb : ∀ k < n, b k < 2 ^ n) (hn : n ≤ 9) : cl b n s = true ↔ ∀ k < n, s.testBit k = true → ∀ j < n, (b k).testBit j = true → s.testBit j = true := by
  unfold cl
  rw [al_iff]
  constructor
  · intro h k hk hs
    have := h k hk
    rw [hs, Bool.not_true, Bool.false_or] at this
    exact (sb_iff (hb k hk) hn).mp this
  · intro h k hk
    cases hs : s.testBit k
    · rfl
    · rw [Bool.not_true, Bool.false_or]
      exact (sb_iff (hb k hk) hn).mpr (h k hk hs)
theorem cl_or {s : Nat} (hb : ∀ k < n, b k < 2 ^ n) (hn : n ≤ 9) (hs : s < 2 ^ n) : s ||| un b s n = s ↔ cl b n s = true := by
  rw [or_eq hs (un_lt hb), cl_iff hb hn]
  constructor
  · intro h k hk h1 j hj h2
    exact h j hj (un_bit.mpr ⟨k, hk, h1, h2⟩)
  · intro h j hj h2
    obtain ⟨k, hk, h1, h3⟩ := un_bit.mp h2
    exact h k hk h1 j hj h3
theorem t_isClosed (h : MR M o n b) {s : Nat} (hs : s < 2 ^ n) : f_X7_isClosed M (iN o) (iN s) = some (bI (cl b n s)) := by
  have h9 := p2_le h.le
  have h1 := un_lt (s := s) (fun k hk => h.lt (k := k) hk)
  have h2 := or_lt hs h1
  unfold f_X7_isClosed
  rw [t_closure h (by omega), bd_some]
  have e : (iN (s ||| un b s n) = iN s) = (cl b n s = true) := by
    rw [iN_eq (by omega) (by omega)]
    exact propext (cl_or (fun k hk => h.lt (k := k) hk) h.le hs)
  simp only [e]
  exact ite_b _
theorem t_isAhead {s t : Nat} (hs : s < 512) (ht : t < 512) : f_X7_isAhead (iN s) (iN t) = some (bI (ah s t)) := by
  have h1 := pc_le s
  have h2 := pc_le t
  unfold f_X7_isAhead ah
  simp (disch := omega) only [t_manyIn, iN_eq, iN_le, iN_lt, chk_inb, chk_t, clamp_iN, bd_some, iN_add, iN_s, iN_and, iN_or, iN_shl, e10, e01, e00, bI_0, bI_1, bI_t, bI_f, has_iN, bitc, within_iN, mk_or1, xhas_iN, add_z, if_true, if_false, ite_true, ite_false, reduceCtorEq, Bool.false_eq_true, Bool.true_and, Bool.false_and, Bool.and_true, Bool.and_false, Bool.not_true, Bool.not_false]
  by_cases c1 : pc s < pc t
  · simp [c1, bI]
  · by_cases c2 : pc s = pc t
    · by_cases c3 : t ≤ s
      · simp [c1, c2, c3, bI, show ¬ s < t by omega]
      · simp [c1, c2, c3, bI, show s < t by omega]
    · simp [c1, c2, bI]
theorem t_placeIn (h : MR M o n b) {t : Nat} (ht : t < 512) : f_X7_placeIn M (iN o) (iN t) = some (iN (ct (2 ^ n) fun s => ah s t && cl b n s)) := by
  have ho := h.o
  have h8 := h.le
  have h9 := p2_le h.le
  refine lp_for (fun j => (iN (ct j fun s => ah s t && cl b n s), iN j)) (2 ^ n) (FU_lt2 h9) ?_ ?_
  · intro j hj k
    cases hx : ah j t
    · simp (disch := omega) only [g_X7_placeIn_L5, h.n, if_neg (show ¬ 2 ^ n ≤ j by omega), ct_s, hx, t_isAhead, Bool.toNat_false, Nat.add_zero, iN_le, iN_lt, chk_inb, chk_t, clamp_iN, bd_some, iN_add, iN_s, iN_and, iN_or, iN_shl, e10, e01, e00, bI_0, bI_1, bI_t, bI_f, has_iN, bitc, within_iN, mk_or1, xhas_iN, add_z, if_true, if_false, ite_true, ite_false, reduceCtorEq, Bool.false_eq_true, Bool.true_and, Bool.false_and, Bool.and_true, Bool.and_false, Bool.not_true, Bool.not_false]
    · cases hc : cl b n j
      · simp (disch := omega) only [g_X7_placeIn_L5, h.n, if_neg (show ¬ 2 ^ n ≤ j by omega), ct_s, hx, t_isAhead, hc, t_isClosed h hj, Bool.toNat_false, Nat.add_zero, iN_le, iN_lt, chk_inb, chk_t, clamp_iN, bd_some, iN_add, iN_s, iN_and, iN_or, iN_shl, e10, e01, e00, bI_0, bI_1, bI_t, bI_f, has_iN, bitc, within_iN, mk_or1, xhas_iN, add_z, if_true, if_false, ite_true, ite_false, reduceCtorEq, Bool.false_eq_true, Bool.true_and, Bool.false_and, Bool.and_true, Bool.and_false, Bool.not_true, Bool.not_false]
      · simp (disch := omega) only [g_X7_placeIn_L5, h.n, if_neg (show ¬ 2 ^ n ≤ j by omega), ct_s, hx, t_isAhead, hc, t_isClosed h hj, Bool.toNat_true, iN_le, iN_lt, chk_inb, chk_t, clamp_iN, bd_some, iN_add, iN_s, iN_and, iN_or, iN_shl, e10, e01, e00, bI_0, bI_1, bI_t, bI_f, has_iN, bitc, within_iN, mk_or1, xhas_iN, add_z, if_true, if_false, ite_true, ite_false, reduceCtorEq, Bool.false_eq_true, Bool.true_and, Bool.false_and, Bool.and_true, Bool.and_false, Bool.not_true, Bool.not_false]
  · intro k
    simp (disch := omega) only [g_X7_placeIn_L5, h.n, if_pos (Nat.le_refl (2 ^ n)), iN_le, iN_lt, chk_inb, chk_t, clamp_iN, bd_some, iN_add, iN_s, iN_and, iN_or, iN_shl, e10, e01, e00, bI_0, bI_1, bI_t, bI_f, has_iN, bitc, within_iN, mk_or1, xhas_iN, add_z, if_true, if_false, ite_true, ite_false, reduceCtorEq, Bool.false_eq_true, Bool.true_and, Bool.false_and, Bool.and_true, Bool.and_false, Bool.not_true, Bool.not_false]
theorem t_manyOf (h : MR M o n b) : f_X7_manyOf M (iN o) (-1) = some (iN (ct (2 ^ n) (cl b n))) := by
  have ho := h.o
  have h8 := h.le
  have h9 := p2_le h.le
  refine lp_for (fun j => (iN (ct j (cl b n)), iN j)) (2 ^ n) (FU_lt2 h9) ?_ ?_
  · intro j hj k
    cases hc : cl b n j
    · simp (disch := omega) only [g_X7_manyOf_L5, h.n, if_neg (show ¬ 2 ^ n ≤ j by omega), ct_s, hc, t_isClosed h hj, Bool.toNat_false, Nat.add_zero, iN_le, iN_lt, chk_inb, chk_t, clamp_iN, bd_some, iN_add, iN_s, iN_and, iN_or, iN_shl, e10, e01, e00, bI_0, bI_1, bI_t, bI_f, has_iN, bitc, within_iN, mk_or1, xhas_iN, add_z, if_true, if_false, ite_true, ite_false, reduceCtorEq, Bool.false_eq_true, Bool.true_and, Bool.false_and, Bool.and_true, Bool.and_false, Bool.not_true, Bool.not_false]
    · simp (disch := omega) only [g_X7_manyOf_L5, h.n, if_neg (show ¬ 2 ^ n ≤ j by omega), ct_s, hc, t_isClosed h hj, Bool.toNat_true, iN_le, iN_lt, chk_inb, chk_t, clamp_iN, bd_some, iN_add, iN_s, iN_and, iN_or, iN_shl, e10, e01, e00, bI_0, bI_1, bI_t, bI_f, has_iN, bitc, within_iN, mk_or1, xhas_iN, add_z, if_true, if_false, ite_true, ite_false, reduceCtorEq, Bool.false_eq_true, Bool.true_and, Bool.false_and, Bool.and_true, Bool.and_false, Bool.not_true, Bool.not_false]
  · intro k
    simp (disch := omega) only [g_X7_manyOf_L5, h.n, if_pos (Nat.le_refl (2 ^ n)), iN_le, iN_lt, chk_inb, chk_t, clamp_iN, bd_some, iN_add, iN_s, iN_and, iN_or, iN_shl, e10, e01, e00, bI_0, bI_1, bI_t, bI_f, has_iN, bitc, within_iN, mk_or1, xhas_iN, add_z, if_true, if_false, ite_true, ite_false, reduceCtorEq, Bool.false_eq_true, Bool.true_and, Bool.false_and, Bool.and_true, Bool.and_false, Bool.not_true, Bool.not_false]
theorem t_manyOf' (h : MR M o n b) {x : Int32} (hx0 : x ≠ -1) : f_X7_manyOf M (iN o) x = some (iN (ct (2 ^ n) fun s => decide (iN (pc s) = x) && cl b n s)) := by
  have ho := h.o
  have h8 := h.le
  have h9 := p2_le h.le
  refine lp_for (fun j => (iN (ct j fun s => decide (iN (pc s) = x) && cl b n s), iN j)) (2 ^ n) (FU_lt2 h9) ?_ ?_
  · intro j hj k
    by_cases hx : iN (pc j) = x
    · have hx1 : (iN (pc j) = -1) = False := by rw [hx]; exact eq_false hx0
      subst hx
      cases hc : cl b n j
      · simp (disch := omega) only [g_X7_manyOf_L5, h.n, if_neg (show ¬ 2 ^ n ≤ j by omega), ct_s, hx1, t_manyIn, decide_true, hc, t_isClosed h hj, Bool.toNat_false, Nat.add_zero, iN_le, iN_lt, chk_inb, chk_t, clamp_iN, bd_some, iN_add, iN_s, iN_and, iN_or, iN_shl, e10, e01, e00, bI_0, bI_1, bI_t, bI_f, has_iN, bitc, within_iN, mk_or1, xhas_iN, add_z, if_true, if_false, ite_true, ite_false, reduceCtorEq, Bool.false_eq_true, Bool.true_and, Bool.false_and, Bool.and_true, Bool.and_false, Bool.not_true, Bool.not_false]
      · simp (disch := omega) only [g_X7_manyOf_L5, h.n, if_neg (show ¬ 2 ^ n ≤ j by omega), ct_s, hx1, t_manyIn, decide_true, hc, t_isClosed h hj, Bool.toNat_true, iN_le, iN_lt, chk_inb, chk_t, clamp_iN, bd_some, iN_add, iN_s, iN_and, iN_or, iN_shl, e10, e01, e00, bI_0, bI_1, bI_t, bI_f, has_iN, bitc, within_iN, mk_or1, xhas_iN, add_z, if_true, if_false, ite_true, ite_false, reduceCtorEq, Bool.false_eq_true, Bool.true_and, Bool.false_and, Bool.and_true, Bool.and_false, Bool.not_true, Bool.not_false]
    · simp (disch := omega) only [g_X7_manyOf_L5, h.n, if_neg (show ¬ 2 ^ n ≤ j by omega), ct_s, hx, if_neg hx0, t_manyIn, decide_false, Bool.toNat_false, Nat.add_zero, iN_le, iN_lt, chk_inb, chk_t, clamp_iN, bd_some, iN_add, iN_s, iN_and, iN_or, iN_shl, e10, e01, e00, bI_0, bI_1, bI_t, bI_f, has_iN, bitc, within_iN, mk_or1, xhas_iN, add_z, if_true, if_false, ite_true, ite_false, reduceCtorEq, Bool.false_eq_true, Bool.true_and, Bool.false_and, Bool.and_true, Bool.and_false, Bool.not_true, Bool.not_false]
  · intro k
    simp (disch := omega) only [g_X7_manyOf_L5, h.n, if_pos (Nat.le_refl (2 ^ n)), iN_le, iN_lt, chk_inb, chk_t, clamp_iN, bd_some, iN_add, iN_s, iN_and, iN_or, iN_shl, e10, e01, e00, bI_0, bI_1, bI_t, bI_f, has_iN, bitc, within_iN, mk_or1, xhas_iN, add_z, if_true, if_false, ite_true, ite_false, reduceCtorEq, Bool.false_eq_true, Bool.true_and, Bool.false_and, Bool.and_true, Bool.and_false, Bool.not_true, Bool.not_false]
theorem t_mostOf (h : MR M o n b) (c : Bool) : f_X7_mostOf M (iN o) (bI c) = some (iN (mx (2 ^ n) fun s => if ia b n s c then pc s else 0)) := by
  have ho := h.o
  have h8 := h.le
  have h9 := p2_le h.le
  refine lp_for (fun j => (iN (mx j fun s => if ia b n s c then pc s else 0), iN j)) (2 ^ n) (FU_lt2 h9) ?_ ?_
  · intro j hj k
    have h1 : (mx j fun s => if ia b n s c then pc s else 0) ≤ 9 := mx_le9 (fun k _ => by
      split
      · exact pc_le _
      · omega)
    have h2 := pc_le j
    by_cases hm : pc j ≤ mx j fun s => if ia b n s c then pc s else 0
    · have e : mx (j + 1) (fun s => if ia b n s c then pc s else 0) = mx j fun s => if ia b n s c then pc s else 0 := by
        rw [mx]
        apply Nat.max_eq_left
        split
        · exact hm
        · omega
      rw [e]
      simp (disch := omega) only [g_X7_mostOf_L5, h.n, if_neg (show ¬ 2 ^ n ≤ j by omega), t_manyIn, if_pos hm, iN_le, iN_lt, chk_inb, chk_t, clamp_iN, bd_some, iN_add, iN_s, iN_and, iN_or, iN_shl, e10, e01, e00, bI_0, bI_1, bI_t, bI_f, has_iN, bitc, within_iN, mk_or1, xhas_iN, add_z, if_true, if_false, ite_true, ite_false, reduceCtorEq, Bool.false_eq_true, Bool.true_and, Bool.false_and, Bool.and_true, Bool.and_false, Bool.not_true, Bool.not_false]
    · cases hc : ia b n j c
      · simp (disch := omega) only [g_X7_mostOf_L5, h.n, if_neg (show ¬ 2 ^ n ≤ j by omega), t_manyIn, if_neg hm, hc, t_isAll h (show j < 512 by omega), mx, Nat.max_zero, iN_le, iN_lt, chk_inb, chk_t, clamp_iN, bd_some, iN_add, iN_s, iN_and, iN_or, iN_shl, e10, e01, e00, bI_0, bI_1, bI_t, bI_f, has_iN, bitc, within_iN, mk_or1, xhas_iN, add_z, if_true, if_false, ite_true, ite_false, reduceCtorEq, Bool.false_eq_true, Bool.true_and, Bool.false_and, Bool.and_true, Bool.and_false, Bool.not_true, Bool.not_false]
      · simp (disch := omega) only [g_X7_mostOf_L5, h.n, if_neg (show ¬ 2 ^ n ≤ j by omega), t_manyIn, if_neg hm, hc, t_isAll h (show j < 512 by omega), mx, Nat.max_eq_right (show (mx j fun s => if ia b n s c then pc s else 0) ≤ pc j by omega), iN_le, iN_lt, chk_inb, chk_t, clamp_iN, bd_some, iN_add, iN_s, iN_and, iN_or, iN_shl, e10, e01, e00, bI_0, bI_1, bI_t, bI_f, has_iN, bitc, within_iN, mk_or1, xhas_iN, add_z, if_true, if_false, ite_true, ite_false, reduceCtorEq, Bool.false_eq_true, Bool.true_and, Bool.false_and, Bool.and_true, Bool.and_false, Bool.not_true, Bool.not_false]
  · intro k
    simp (disch := omega) only [g_X7_mostOf_L5, h.n, if_pos (Nat.le_refl (2 ^ n)), iN_le, iN_lt, chk_inb, chk_t, clamp_iN, bd_some, iN_add, iN_s, iN_and, iN_or, iN_shl, e10, e01, e00, bI_0, bI_1, bI_t, bI_f, has_iN, bitc, within_iN, mk_or1, xhas_iN, add_z, if_true, if_false, ite_true, ite_false, reduceCtorEq, Bool.false_eq_true, Bool.true_and, Bool.false_and, Bool.and_true, Bool.and_false, Bool.not_true, Bool.not_false]
theorem t_sumOf (h : MR M o n b) {t : Nat} (ht : t < n) : f_X7_sumOf M (iN o) (iN t) = some (SI n fun k => if (decide (k = t) || (b t).testBit k) then M (50 + o) k else 0) := by
  have ho := h.o
  have h9 := h.le
  refine lp_for (fun j => (SI j fun k => if (decide (k = t) || (b t).testBit k) then M (50 + o) k else 0, iN j)) n (FU_lt h9) ?_ ?_
  · intro j hj k
    cases hb : (decide (j = t) || (b t).testBit j)
    · simp (disch := omega) only [g_X7_sumOf_L5, h.n, if_neg (show ¬ n ≤ j by omega), t_isUpTo h hj ht, SI, hb, Int32.add_zero, iN_le, iN_lt, chk_inb, chk_t, clamp_iN, bd_some, iN_add, iN_s, iN_and, iN_or, iN_shl, e10, e01, e00, bI_0, bI_1, bI_t, bI_f, has_iN, bitc, within_iN, mk_or1, xhas_iN, add_z, if_true, if_false, ite_true, ite_false, reduceCtorEq, Bool.false_eq_true, Bool.true_and, Bool.false_and, Bool.and_true, Bool.and_false, Bool.not_true, Bool.not_false]
    · simp (disch := omega) only [g_X7_sumOf_L5, h.n, if_neg (show ¬ n ≤ j by omega), t_isUpTo h hj ht, SI, hb, iN_le, iN_lt, chk_inb, chk_t, clamp_iN, bd_some, iN_add, iN_s, iN_and, iN_or, iN_shl, e10, e01, e00, bI_0, bI_1, bI_t, bI_f, has_iN, bitc, within_iN, mk_or1, xhas_iN, add_z, if_true, if_false, ite_true, ite_false, reduceCtorEq, Bool.false_eq_true, Bool.true_and, Bool.false_and, Bool.and_true, Bool.and_false, Bool.not_true, Bool.not_false]
  · intro k
    simp (disch := omega) only [g_X7_sumOf_L5, h.n, if_pos (Nat.le_refl n), iN_le, iN_lt, chk_inb, chk_t, clamp_iN, bd_some, iN_add, iN_s, iN_and, iN_or, iN_shl, e10, e01, e00, bI_0, bI_1, bI_t, bI_f, has_iN, bitc, within_iN, mk_or1, xhas_iN, add_z, if_true, if_false, ite_true, ite_false, reduceCtorEq, Bool.false_eq_true, Bool.true_and, Bool.false_and, Bool.and_true, Bool.and_false, Bool.not_true, Bool.not_false]
end MM
