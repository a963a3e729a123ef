/-! ===== rows by their places ===== -/
section KK
variable {n : Nat} {b : Nat → Nat}
theorem WL2_mono {s m m' : Nat} (h : m ≤ m') : WL2 b n s m ≤ WL2 b n s m' := by
  obtain ⟨d, rfl⟩ := Nat.exists_eq_add_of_le h
  unfold WL2
  rw [S_split]; omega
/-- the thing that the class takes: the last below m that can come with no more than l ways by lesser ones -/
def pk (b : Nat → Nat) (n s l : Nat) : Nat → Nat
  | 0 => 0
  | m + 1 => if cc b s m && decide (WL2 b n s m ≤ l) then m else pk b n s l m
theorem pk_spec {s l : Nat} (hl : l < WL2 b n s n) : pk b n s l n < n ∧ cc b s (pk b n s l n) = true ∧ WL2 b n s (pk b n s l n) ≤ l ∧ l < WL2 b n s (pk b n s l n + 1) := by
  have H : ∀ m, m ≤ n → l < WL2 b n s m → pk b n s l m < m ∧ cc b s (pk b n s l m) = true ∧ WL2 b n s (pk b n s l m) ≤ l ∧ l < WL2 b n s (pk b n s l m + 1) := by
    intro m
    induction m with
    | zero => intro _ h; cases h
    | succ m ih =>
      intro hm h
      rw [pk]
      rcases Nat.lt_or_ge l (WL2 b n s m) with h1 | h1
      · have := ih (by omega) h1
        rw [if_neg (by simp; intro _; omega)]
        exact ⟨by omega, this.2⟩
      · have hc : cc b s m = true := by
          cases hc : cc b s m
          · unfold WL2 at h h1
            rw [S, hc] at h
            simp at h; omega
          · rfl
        rw [if_pos (by simp [hc, h1])]
        exact ⟨by omega, hc, h1, h⟩
  exact H n (Nat.le_refl n) hl
/-- set and ways left after k things of the row of the place p -/
def wk (b : Nat → Nat) (n p : Nat) : Nat → Nat × Nat
  | 0 => (0, p)
  | k + 1 => ((wk b n p k).1 + 2 ^ pk b n (wk b n p k).1 (wk b n p k).2 n, (wk b n p k).2 - WL2 b n (wk b n p k).1 (pk b n (wk b n p k).1 (wk b n p k).2 n))
/-- the k-th thing of the row of the place p -/
def lt (b : Nat → Nat) (n p k : Nat) : Nat := pk b n (wk b n p k).1 (wk b n p k).2 n
theorem BC_WL (hn : n ≤ 9) {s : Nat} (hs : s < 2 ^ n) (h : pc s < n) : BC b n s = WL2 b n s n := BC_s hn hs (fun e => by rw [e, pc_all hn] at h; omega)
theorem wk_ok (hS : St b n) {p : Nat} (hp : p < RW b n) {k : Nat} (hk : k ≤ n) : (wk b n p k).1 < 2 ^ n ∧ pc (wk b n p k).1 = k ∧ cl b n (wk b n p k).1 = true ∧ (wk b n p k).2 < BC b n (wk b n p k).1 := by
  have hn := hS.1
  induction k with
  | zero => exact ⟨Nat.two_pow_pos n, show pc 0 = 0 from rfl, cl_0 hS.2.1 hn, hp⟩
  | succ k ih =>
    obtain ⟨h1, h2, h3, h4⟩ := ih (by omega)
    rw [BC_WL hn h1 (by omega)] at h4
    obtain ⟨h5, h6, h7, h8⟩ := pk_spec h4
    have hb := cc_W0 b _ _ h6
    simp only [wk]
    refine ⟨plus_lt h1 h5 hb, by rw [plus_pc h1 hn h5 hb, h2], cl_plus hS.2.1 hn h1 h5 h3 h6, ?_⟩
    unfold WL2 at h7 h8 ⊢
    rw [S, h6] at h8
    simp only [if_true] at h8
    omega
theorem lt_ok (hS : St b n) {p : Nat} (hp : p < RW b n) {k : Nat} (hk : k < n) : lt b n p k < n ∧ cc b (wk b n p k).1 (lt b n p k) = true ∧ WL2 b n (wk b n p k).1 (lt b n p k) ≤ (wk b n p k).2 ∧ (wk b n p k).2 < WL2 b n (wk b n p k).1 (lt b n p k + 1) := by
  obtain ⟨h1, h2, h3, h4⟩ := wk_ok hS hp (k := k) (by omega)
  rw [BC_WL hS.1 h1 (by omega)] at h4
  exact pk_spec h4
def nu (b : Nat → Nat) (n p : Nat) : Nat → Nat
  | 0 => 0
  | k + 1 => nu b n p k * 10 + lt b n p k + 1
end KK
section RT
variable {M : Mem} {q q1 n : Nat} {b : Nat → Nat}
theorem RF.w (hF : RF M q n b) (hS : St b n) {s : Nat} (hs : s < 2 ^ n) (hc : cl b n s = true) : ∀ k < n, cc b s k = true → M (q + 2) (s + 2 ^ k) = iN (BC b n (s + 2 ^ k)) := fun k hk hcc =>
  hF.2 _ (plus_lt hs hk (cc_W0 b s k hcc)) (cl_plus hS.2.1 hS.1 hs hk hc hcc)
theorem WL2_le (hn : n ≤ 9) {s m : Nat} (hs : s < 2 ^ n) (hm : m ≤ n) : WL2 b n s m ≤ 362880 * 9 := by
  have h1 : WL2 b n s m ≤ m * 362880 := by
    unfold WL2
    have : S m (fun k => if cc b s k = true then BC b n (s + 2 ^ k) else 0) ≤ ct m (fun _ => true) * 362880 := S_bits (fun k hk => by
      cases hc : cc b s k
      · simp
      · simp only [if_true]
        exact BC_le hn (plus_lt hs (by omega) (cc_W0 b s k hc)))
    rw [ct_true] at this
    exact this
  have : m * 362880 ≤ 9 * 362880 := Nat.mul_le_mul_right _ (by omega)
  omega
theorem s_thingFor (hS : St b n) (h : OR M q1 n b) (hF : RF M q n b) {s l : Nat} (hs : s < 2 ^ n) (hc : cl b n s = true) (hl : l < 2 ^ 31) : f_X4_thingFor M q q1 (iN s) (iN l) = some (iN (pk b n s l n)) := by
  have h9 := h.le
  have h8 := p2_le h9
  refine lp_for (fun j => (iN (pk b n s l j), iN j)) n (FU_lt h9) ?_ ?_
  · intro j hj k
    have hW := s_waysByLesser h hs (show j ≤ n by omega) (hF.w hS hs hc)
    have hle := WL2_le (b := b) h9 hs (show j ≤ n by omega)
    cases hcc : cc b s j
    · simp (disch := omega) only [g_X4_thingFor_L6, h.n, if_neg (show ¬ n ≤ j by omega), s_canCome h (show s < 512 by omega) hj, hcc, pk, iN_le, iN_lt, chk_inb, chk_t, clamp_iN, bd_some, iN_add, iN_s, iN_and, iN_or, iN_shl, e10, e01, e00, bI_0, bI_1, bI_t, bI_f, has_iN, bitc, within_iN, mk_or1, xhas_iN, add_z, if_true, if_false, ite_true, ite_false, reduceCtorEq, Bool.false_eq_true, Bool.true_and, Bool.false_and, Bool.and_true, Bool.and_false, Bool.not_true, Bool.not_false]
    · by_cases hx : WL2 b n s j ≤ l
      · simp (disch := omega) only [g_X4_thingFor_L6, h.n, if_neg (show ¬ n ≤ j by omega), s_canCome h (show s < 512 by omega) hj, hcc, pk, hW, hx, decide_true, if_neg (show ¬ l < WL2 b n s j by omega), iN_le, iN_lt, chk_inb, chk_t, clamp_iN, bd_some, iN_add, iN_s, iN_and, iN_or, iN_shl, e10, e01, e00, bI_0, bI_1, bI_t, bI_f, has_iN, bitc, within_iN, mk_or1, xhas_iN, add_z, if_true, if_false, ite_true, ite_false, reduceCtorEq, Bool.false_eq_true, Bool.true_and, Bool.false_and, Bool.and_true, Bool.and_false, Bool.not_true, Bool.not_false]
      · simp (disch := omega) only [g_X4_thingFor_L6, h.n, if_neg (show ¬ n ≤ j by omega), s_canCome h (show s < 512 by omega) hj, hcc, pk, hW, hx, decide_false, if_pos (show l < WL2 b n s j by omega), iN_le, iN_lt, chk_inb, chk_t, clamp_iN, bd_some, iN_add, iN_s, iN_and, iN_or, iN_shl, e10, e01, e00, bI_0, bI_1, bI_t, bI_f, has_iN, bitc, within_iN, mk_or1, xhas_iN, add_z, if_true, if_false, ite_true, ite_false, reduceCtorEq, Bool.false_eq_true, Bool.true_and, Bool.false_and, Bool.and_true, Bool.and_false, Bool.not_true, Bool.not_false]
  · intro k
    simp (disch := omega) only [g_X4_thingFor_L6, h.n, if_pos (Nat.le_refl n), iN_le, iN_lt, chk_inb, chk_t, clamp_iN, bd_some, iN_add, iN_s, iN_and, iN_or, iN_shl, e10, e01, e00, bI_0, bI_1, bI_t, bI_f, has_iN, bitc, within_iN, mk_or1, xhas_iN, add_z, if_true, if_false, ite_true, ite_false, reduceCtorEq, Bool.false_eq_true, Bool.true_and, Bool.false_and, Bool.and_true, Bool.and_false, Bool.not_true, Bool.not_false]
theorem RF.same {M' : Mem} (h : RF M q n b) (h1 : M' (q + 1) = M (q + 1)) (h2 : M' (q + 2) = M (q + 2)) : RF M' q n b := ⟨fun t ht => by rw [h1]; exact h.1 t ht, fun s hs hc => by rw [h2]; exact h.2 s hs hc⟩
theorem s_layOut (hS : St b n) (h : OR M q1 n b) (hq : q1 ≠ q + 3 ∧ q1 + 1 ≠ q + 3) (hF : RF M q n b) {p : Nat} (hp : p < RW b n) : ∃ M', f_X4_layOut M q q1 (iN p) = some M' ∧ (Fr M M' [q + 3] ∧ ∀ k < n, M' (q + 3) k = iN (lt b n p k)) := by
  have h9 := h.le
  have h8 := p2_le h9
  refine lp_to (fun j a => j ≤ n ∧ a.1 = iN (wk b n p j).1 ∧ a.2.1 = iN (wk b n p j).2 ∧ a.2.2.1 = iN j ∧ Fr M a.2.2.2 [q + 3] ∧ ∀ k < j, a.2.2.2 (q + 3) k = iN (lt b n p k)) n (FU_lt h9) ⟨by omega, rfl, rfl, rfl, Fr.refl _ _, fun k hk => by omega⟩ ?_
  rintro j ⟨a1, a2, a3, M1⟩ ⟨hj, h1, h2, h3, hf, hline⟩
  dsimp only at h1 h2 h3 hf hline
  subst h1 h2 h3
  have h' : OR M1 q1 n b := h.same (hf q1 (by simp [hq.1])) (hf (q1 + 1) (by simpa using hq.2))
  have hF' : RF M1 q n b := hF.same (hf _ (by simp)) (hf _ (by simp))
  obtain ⟨w1, w2, w3, w4⟩ := wk_ok hS hp hj
  have w5 := BC_le (b := b) h9 w1
  rcases Nat.lt_or_ge j n with hl | hl
  · left
    obtain ⟨t1, t2, t3, t4⟩ := lt_ok hS hp hl
    have tb := cc_W0 b _ _ t2
    have hT := s_thingFor hS h' hF' w1 w3 (show (wk b n p j).2 < 2 ^ 31 by omega)
    have hW := s_waysByLesser h' w1 (show lt b n p j ≤ n by omega) (hF'.w hS w1 w3)
    refine ⟨hl, (iN (wk b n p (j + 1)).1, iN (wk b n p (j + 1)).2, iN (j + 1), upM M1 (q + 3) j (iN (lt b n p j))), ⟨hl, rfl, rfl, rfl, hf.trans (Fr.up (by simp)), fun k hk => ?_⟩, fun k => ?_⟩
    · dsimp only
      rw [upM_at]
      split
      · next e => rw [e]
      · exact hline k (by omega)
    · have e1 : (wk b n p (j + 1)).1 = (wk b n p j).1 + 2 ^ lt b n p j := rfl
      have e2 : (wk b n p (j + 1)).2 = (wk b n p j).2 - WL2 b n (wk b n p j).1 (lt b n p j) := rfl
      rw [e1, e2]
      have hT' : f_X4_thingFor M1 q q1 (iN (wk b n p j).1) (iN (wk b n p j).2) = some (iN (lt b n p j)) := hT
      simp (disch := omega) only [g_X4_layOut_L8, h'.n, if_neg (show ¬ n ≤ j by omega), hT', hW, iN_sub t3, plus_or w1 t1 tb, iN_le, iN_lt, chk_inb, chk_t, clamp_iN, bd_some, iN_add, iN_s, iN_and, iN_or, iN_shl, e10, e01, e00, bI_0, bI_1, bI_t, bI_f, has_iN, bitc, within_iN, mk_or1, xhas_iN, add_z, if_true, if_false, ite_true, ite_false, reduceCtorEq, Bool.false_eq_true, Bool.true_and, Bool.false_and, Bool.and_true, Bool.and_false, Bool.not_true, Bool.not_false]
  · right
    have e : j = n := by omega
    subst e
    exact ⟨M1, ⟨hf, hline⟩, fun k => by simp (disch := omega) only [g_X4_layOut_L8, h'.n, if_pos (Nat.le_refl j), iN_le, iN_lt, chk_inb, chk_t, clamp_iN, bd_some, iN_add, iN_s, iN_and, iN_or, iN_shl, e10, e01, e00, bI_0, bI_1, bI_t, bI_f, has_iN, bitc, within_iN, mk_or1, xhas_iN, add_z, if_true, if_false, ite_true, ite_false, reduceCtorEq, Bool.false_eq_true, Bool.true_and, Bool.false_and, Bool.and_true, Bool.and_false, Bool.not_true, Bool.not_false]⟩
theorem s_lineAsNumber (h : OR M q1 n b) {p : Nat} (hl : ∀ k < n, M (q + 3) k = iN (lt b n p k)) : f_X4_lineAsNumber M q q1 = some (iN (nu b n p n)) := by
  have h9 := h.le
  have eT : (10 : Int32) = iN 10 := rfl
  refine lp_for (fun j => (iN (nu b n p j), iN j)) n (FU_lt h9) ?_ ?_
  · intro j hj k
    simp (disch := omega) only [g_X4_lineAsNumber_L4, h.n, if_neg (show ¬ n ≤ j by omega), hl j hj, nu, eT, iN_mul, iN_le, iN_lt, chk_inb, chk_t, clamp_iN, bd_some, iN_add, iN_s, iN_and, iN_or, iN_shl, e10, e01, e00, bI_0, bI_1, bI_t, bI_f, has_iN, bitc, within_iN, mk_or1, xhas_iN, add_z, if_true, if_false, ite_true, ite_false, reduceCtorEq, Bool.false_eq_true, Bool.true_and, Bool.false_and, Bool.and_true, Bool.and_false, Bool.not_true, Bool.not_false]
  · intro k
    simp (disch := omega) only [g_X4_lineAsNumber_L4, h.n, if_pos (Nat.le_refl n), iN_le, iN_lt, chk_inb, chk_t, clamp_iN, bd_some, iN_add, iN_s, iN_and, iN_or, iN_shl, e10, e01, e00, bI_0, bI_1, bI_t, bI_f, has_iN, bitc, within_iN, mk_or1, xhas_iN, add_z, if_true, if_false, ite_true, ite_false, reduceCtorEq, Bool.false_eq_true, Bool.true_and, Bool.false_and, Bool.and_true, Bool.and_false, Bool.not_true, Bool.not_false]
theorem iN_div10 {a : Nat} (ha : a < 2 ^ 31) : iN a / 10 = iN (a / 10) := by
  apply Int32.toInt_inj.mp
  rw [Int32.toInt_div, iN_toInt ha, iN_toInt (by omega), show (10 : Int32).toInt = ((10 : Nat) : Int) by decide, ← Int.ofNat_tdiv]
  rw [Int.bmod_eq_of_le] <;> omega
theorem s_withoutLast {r d : Nat} (hr : r < 2 ^ 31) (hd : d ≤ 9) : f_X4_withoutLast (iN r) (iN d) = some (iN (r / 10 ^ d)) := by
  have e : (iN r, (0 : Int32)) = (fun j => (iN (r / 10 ^ j), iN j)) 0 := by simp; rfl
  unfold f_X4_withoutLast
  rw [e]
  refine lp_for (fun j => (iN (r / 10 ^ j), iN j)) d (FU_lt hd) ?_ ?_
  · intro j hj k
    have : r / 10 ^ j < 2 ^ 31 := Nat.lt_of_le_of_lt (Nat.div_le_self _ _) hr
    simp (disch := omega) only [g_X4_withoutLast_L4, if_neg (show ¬ d ≤ j by omega), iN_div10 this, Nat.pow_succ, ← Nat.div_div_eq_div_mul, iN_le, iN_lt, chk_inb, chk_t, clamp_iN, bd_some, iN_add, iN_s, iN_and, iN_or, iN_shl, e10, e01, e00, bI_0, bI_1, bI_t, bI_f, has_iN, bitc, within_iN, mk_or1, xhas_iN, add_z, if_true, if_false, ite_true, ite_false, reduceCtorEq, Bool.false_eq_true, Bool.true_and, Bool.false_and, Bool.and_true, Bool.and_false, Bool.not_true, Bool.not_false]
  · intro k
    simp (disch := omega) only [g_X4_withoutLast_L4, if_pos (Nat.le_refl d), iN_le, iN_lt, chk_inb, chk_t, clamp_iN, bd_some, iN_add, iN_s, iN_and, iN_or, iN_shl, e10, e01, e00, bI_0, bI_1, bI_t, bI_f, has_iN, bitc, within_iN, mk_or1, xhas_iN, add_z, if_true, if_false, ite_true, ite_false, reduceCtorEq, Bool.false_eq_true, Bool.true_and, Bool.false_and, Bool.and_true, Bool.and_false, Bool.not_true, Bool.not_false]
end RT
/-! ===== the place of a row; restricted counts (the class) ===== -/
/-- set and place after k digits of r; none: no row -/
def fw (b : Nat → Nat) (n r : Nat) : Nat → Option (Nat × Nat)
  | 0 => some (0, 0)
  | k + 1 => match fw b n r k with
    | none => none
    | some z => if decide (r / 10 ^ (n - (k + 1)) % 10 ≠ 0) && (decide (r / 10 ^ (n - (k + 1)) % 10 - 1 < n) && cc b z.1 (r / 10 ^ (n - (k + 1)) % 10 - 1)) then some (z.1 + 2 ^ (r / 10 ^ (n - (k + 1)) % 10 - 1), z.2 + WL2 b n z.1 (r / 10 ^ (n - (k + 1)) % 10 - 1)) else none
def fp (b : Nat → Nat) (n r : Nat) : Option Nat := if r / 10 ^ n = 0 then (fw b n r n).map (·.2) else none
theorem fw_none {b : Nat → Nat} {n r k m : Nat} (h : fw b n r k = none) (hm : k ≤ m) : fw b n r m = none := by
  obtain ⟨d, rfl⟩ := Nat.exists_eq_add_of_le hm
  induction d with
  | zero => exact h
  | succ d ih => rw [← Nat.add_assoc, fw, ih (by omega)]
theorem fw_ok {b : Nat → Nat} {n r k : Nat} (hS : St b n) (hk : k ≤ n) {z : Nat × Nat} (h : fw b n r k = some z) : z.1 < 2 ^ n ∧ pc z.1 = k ∧ cl b n z.1 = true := by
  have hn := hS.1
  induction k generalizing z with
  | zero =>
    cases h
    exact ⟨Nat.two_pow_pos n, show pc 0 = 0 from rfl, cl_0 hS.2.1 hn⟩
  | succ k ih =>
    rw [fw] at h
    cases hz : fw b n r k with
    | none => rw [hz] at h; cases h
    | some y =>
      rw [hz] at h
      dsimp only at h
      obtain ⟨h1, h2, h3⟩ := ih (by omega) hz
      split at h
      · next hc =>
        cases h
        rw [Bool.and_eq_true, Bool.and_eq_true] at hc
        have h5 := of_decide_eq_true hc.2.1
        have hb := cc_W0 b _ _ hc.2.2
        exact ⟨plus_lt h1 h5 hb, by rw [plus_pc h1 hn h5 hb, h2], cl_plus hS.2.1 hn h1 h5 h3 hc.2.2⟩
      · cases h
section RT
variable {M : Mem} {q q1 n : Nat} {b : Nat → Nat}
theorem s_hasThing (h : OR M q n b) (x : Int32) : f_X3_hasThing M q x = some (bI (decide (∃ k, k < n ∧ x = iN k))) := by
  have h9 := h.le
  unfold f_X3_hasThing
  rw [h.n]
  by_cases hx : x < 0
  · have : ¬ ∃ k, k < n ∧ x = iN k := by
      rintro ⟨k, hk, rfl⟩
      rw [iN_n0 (by omega)] at hx
      exact hx
    simp [hx, this, bI]
  · obtain ⟨k, hk, rfl⟩ : ∃ k, k < 2 ^ 31 ∧ x = iN k := by
      have h0 : 0 ≤ x.toInt := by
        rw [Int32.lt_iff_toInt_lt] at hx
        have : (0 : Int32).toInt = 0 := by decide
        omega
      have h1 : x.toInt < 2 ^ 31 := Int32.toInt_lt x
      refine ⟨x.toInt.toNat, by omega, Int32.toInt_inj.mp ?_⟩
      rw [iN_toInt (by omega)]
      omega
    simp only [iN_n0 hk, if_false, iN_le (show n < 2 ^ 31 by omega) hk]
    by_cases hn : n ≤ k
    · have : ¬ ∃ j, j < n ∧ iN k = iN j := by
        rintro ⟨j, hj, e⟩
        rw [iN_eq hk (by omega)] at e
        omega
      simp [hn, this, bI]
    · have : ∃ j, j < n ∧ iN k = iN j := ⟨k, by omega, rfl⟩
      simp [hn, this, bI]
theorem nonneg {x : Int32} (hx : ¬ x < 0) : ∃ k, k < 2 ^ 31 ∧ x = iN k := by
  have h0 : 0 ≤ x.toInt := by
    rw [Int32.lt_iff_toInt_lt] at hx
    have : (0 : Int32).toInt = 0 := by decide
    omega
  have h1 : x.toInt < 2 ^ 31 := Int32.toInt_lt x
  refine ⟨x.toInt.toNat, by omega, Int32.toInt_inj.mp ?_⟩
  rw [iN_toInt (by omega)]
  omega
theorem hasThing_n (h : OR M q n b) {k : Nat} (hk : k < 2 ^ 31) : f_X3_hasThing M q (iN k) = some (bI (decide (k < n))) := by
  have h9 := h.le
  rw [s_hasThing h]
  congr 2
  rw [decide_eq_decide]
  constructor
  · rintro ⟨j, hj, e⟩
    rw [iN_eq hk (by omega)] at e
    omega
  · intro h; exact ⟨k, h, rfl⟩
set_option maxRecDepth 100000 in
theorem s_findPlace (hS : St b n) (h : OR M q1 n b) (hq : (q1 ≠ q + 1 ∧ q1 + 1 ≠ q + 1) ∧ q1 ≠ q + 2 ∧ q1 + 1 ≠ q + 2) {r : Nat} (hr : r < 2 ^ 31) : ∃ z, f_X4_findPlace M q q1 (iN r) = some z ∧ (z.1 = oI (fp b n r) ∧ Fr M z.2 [q + 1, q + 2]) := by
  have h9 := h.le
  have h8 := p2_le h9
  have hw := s_withoutLast hr h9
  have hdv : r / 10 ^ n < 2 ^ 31 := Nat.lt_of_le_of_lt (Nat.div_le_self _ _) hr
  unfold f_X4_findPlace fp
  by_cases hz : r / 10 ^ n = 0
  · obtain ⟨⟨r1, M1⟩, e1, hr1, hf, hF⟩ := s_fill hS h hq
    dsimp only at hr1 hf hF
    have h1 : OR M1 q1 n b := h.same (hf q1 (by simp [hq.1.1, hq.2.1])) (hf (q1 + 1) (by simp only [List.mem_cons, List.not_mem_nil, or_false, not_or]; exact ⟨hq.1.2, hq.2.2⟩))
    have e0 : ((iN 0) = 0) = True := by simp [iN_0]
    simp (disch := omega) only [h.n, iN_n0, hw, hz, e0, e1, iN_le, iN_lt, chk_inb, chk_t, clamp_iN, bd_some, iN_add, iN_s, iN_and, iN_or, iN_shl, e10, e01, e00, bI_0, bI_1, bI_t, bI_f, has_iN, bitc, within_iN, mk_or1, xhas_iN, add_z, if_true, if_false, ite_true, ite_false, reduceCtorEq, Bool.false_eq_true, Bool.true_and, Bool.false_and, Bool.and_true, Bool.and_false, Bool.not_true, Bool.not_false]
    refine lp_to (fun j a => j ≤ n ∧ a.2.2 = iN (j + 1) ∧ ∃ z, fw b n r j = some z ∧ a.1 = iN z.1 ∧ a.2.1 = iN z.2) n (FU_lt h9) ⟨by omega, rfl, (0, 0), rfl, rfl, rfl⟩ ?_
    rintro j ⟨a1, a2, a3⟩ ⟨hj, h3, z, hfw, h4, h5⟩
    dsimp only at h3 h4 h5
    subst h3 h4 h5
    obtain ⟨w1, w2, w3⟩ := fw_ok hS hj hfw
    rcases Nat.lt_or_ge j n with hl | hl
    · have hd := s_withoutLast (r := r) (d := n - (j + 1)) hr (by omega)
      have hdv2 : r / 10 ^ (n - (j + 1)) < 2 ^ 31 := Nat.lt_of_le_of_lt (Nat.div_le_self _ _) hr
      have eT : (10 : Int32) = iN 10 := rfl
      have hsub : iN n - iN (j + 1) = iN (n - (j + 1)) := iN_sub (by omega)
      have hmod : iN (r / 10 ^ (n - (j + 1))) - iN (r / 10 ^ (n - (j + 1))) / 10 * 10 = iN (r / 10 ^ (n - (j + 1)) % 10) := by
        rw [iN_div10 hdv2, eT, iN_mul, iN_sub (by omega)]
        congr 1; omega
      have hfs : fw b n r (j + 1) = if decide (r / 10 ^ (n - (j + 1)) % 10 ≠ 0) && (decide (r / 10 ^ (n - (j + 1)) % 10 - 1 < n) && cc b z.1 (r / 10 ^ (n - (j + 1)) % 10 - 1)) then some (z.1 + 2 ^ (r / 10 ^ (n - (j + 1)) % 10 - 1), z.2 + WL2 b n z.1 (r / 10 ^ (n - (j + 1)) % 10 - 1)) else none := by
        rw [fw, hfw]
      generalize hg : r / 10 ^ (n - (j + 1)) % 10 = g at *
      have hg9 : g < 10 := by omega
      by_cases hg0 : g = 0
      · right
        subst hg0
        have hno : fw b n r n = none := fw_none (k := j + 1) (by rw [hfs]; simp) (by omega)
        have hht : f_X3_hasThing M1 q1 (iN 0 - 1) = some 0 := by
          rw [s_hasThing h1]
          have : ¬ ∃ k, k < n ∧ iN 0 - 1 = iN k := by
            rintro ⟨k, hk, e⟩
            have e2 : (iN 0 - 1 : Int32) = -1 := by decide
            rw [e2] at e
            have := oI_n (c := k) (by omega)
            rw [← e] at this
            simp at this
          simp [this, bI]
        refine ⟨(-1, M1), ⟨by rw [hno]; rfl, hf⟩, fun k => ?_⟩
        simp (disch := omega) only [g_X4_findPlace_L31, h1.n, if_neg (show ¬ n < j + 1 by omega), hsub, hd, hmod, hht, iN_le, iN_lt, chk_inb, chk_t, clamp_iN, bd_some, iN_add, iN_s, iN_and, iN_or, iN_shl, e10, e01, e00, bI_0, bI_1, bI_t, bI_f, has_iN, bitc, within_iN, mk_or1, xhas_iN, add_z, if_true, if_false, ite_true, ite_false, reduceCtorEq, Bool.false_eq_true, Bool.true_and, Bool.false_and, Bool.and_true, Bool.and_false, Bool.not_true, Bool.not_false]
      · have hg1 : iN g - 1 = iN (g - 1) := by rw [iN_1, iN_sub (by omega)]
        have hht := hasThing_n h1 (k := g - 1) (by omega)
        by_cases hgn : g - 1 < n
        · cases hcc : cc b z.1 (g - 1)
          · right
            have hno : fw b n r n = none := fw_none (k := j + 1) (by rw [hfs]; simp [hcc]) (by omega)
            refine ⟨(-1, M1), ⟨by rw [hno]; rfl, hf⟩, fun k => ?_⟩
            simp (disch := omega) only [g_X4_findPlace_L31, h1.n, if_neg (show ¬ n < j + 1 by omega), hsub, hd, hmod, hg1, hht, hgn, decide_true, s_canCome h1 (show z.1 < 512 by omega) hgn, hcc, iN_le, iN_lt, chk_inb, chk_t, clamp_iN, bd_some, iN_add, iN_s, iN_and, iN_or, iN_shl, e10, e01, e00, bI_0, bI_1, bI_t, bI_f, has_iN, bitc, within_iN, mk_or1, xhas_iN, add_z, if_true, if_false, ite_true, ite_false, reduceCtorEq, Bool.false_eq_true, Bool.true_and, Bool.false_and, Bool.and_true, Bool.and_false, Bool.not_true, Bool.not_false]
          · left
            have hW := s_waysByLesser h1 w1 (show g - 1 ≤ n by omega) (hF.w hS w1 w3)
            refine ⟨hl, (iN (z.1 + 2 ^ (g - 1)), iN (z.2 + WL2 b n z.1 (g - 1)), iN (j + 1 + 1)), ⟨hl, rfl, _, by rw [hfs, if_pos (by simp [hg0, hgn, hcc])], rfl, rfl⟩, fun k => ?_⟩
            simp (disch := omega) only [g_X4_findPlace_L31, h1.n, if_neg (show ¬ n < j + 1 by omega), hsub, hd, hmod, hg1, hht, hgn, decide_true, s_canCome h1 (show z.1 < 512 by omega) hgn, hcc, hW, plus_or w1 hgn (cc_W0 b _ _ hcc), iN_le, iN_lt, chk_inb, chk_t, clamp_iN, bd_some, iN_add, iN_s, iN_and, iN_or, iN_shl, e10, e01, e00, bI_0, bI_1, bI_t, bI_f, has_iN, bitc, within_iN, mk_or1, xhas_iN, add_z, if_true, if_false, ite_true, ite_false, reduceCtorEq, Bool.false_eq_true, Bool.true_and, Bool.false_and, Bool.and_true, Bool.and_false, Bool.not_true, Bool.not_false]
        · right
          have hno : fw b n r n = none := fw_none (k := j + 1) (by rw [hfs]; simp [hgn]) (by omega)
          refine ⟨(-1, M1), ⟨by rw [hno]; rfl, hf⟩, fun k => ?_⟩
          simp (disch := omega) only [g_X4_findPlace_L31, h1.n, if_neg (show ¬ n < j + 1 by omega), hsub, hd, hmod, hg1, hht, hgn, decide_false, iN_le, iN_lt, chk_inb, chk_t, clamp_iN, bd_some, iN_add, iN_s, iN_and, iN_or, iN_shl, e10, e01, e00, bI_0, bI_1, bI_t, bI_f, has_iN, bitc, within_iN, mk_or1, xhas_iN, add_z, if_true, if_false, ite_true, ite_false, reduceCtorEq, Bool.false_eq_true, Bool.true_and, Bool.false_and, Bool.and_true, Bool.and_false, Bool.not_true, Bool.not_false]
    · right
      have e : j = n := by omega
      subst e
      refine ⟨(iN z.2, M1), ⟨by rw [hfw]; rfl, hf⟩, fun k => ?_⟩
      simp (disch := omega) only [g_X4_findPlace_L31, h1.n, if_pos (show j < j + 1 by omega), iN_le, iN_lt, chk_inb, chk_t, clamp_iN, bd_some, iN_add, iN_s, iN_and, iN_or, iN_shl, e10, e01, e00, bI_0, bI_1, bI_t, bI_f, has_iN, bitc, within_iN, mk_or1, xhas_iN, add_z, if_true, if_false, ite_true, ite_false, reduceCtorEq, Bool.false_eq_true, Bool.true_and, Bool.false_and, Bool.and_true, Bool.and_false, Bool.not_true, Bool.not_false]
  · simp (disch := omega) only [h.n, iN_n0, hw, iN_ne0, hz, iN_le, iN_lt, chk_inb, chk_t, clamp_iN, bd_some, iN_add, iN_s, iN_and, iN_or, iN_shl, e10, e01, e00, bI_0, bI_1, bI_t, bI_f, has_iN, bitc, within_iN, mk_or1, xhas_iN, add_z, if_true, if_false, ite_true, ite_false, reduceCtorEq, Bool.false_eq_true, Bool.true_and, Bool.false_and, Bool.and_true, Bool.and_false, Bool.not_true, Bool.not_false]
    exact ⟨_, rfl, rfl, Fr.refl _ _⟩
/-- rows that come through s with t next -/
def wt (b : Nat → Nat) (n s t : Nat) : Nat := if cc b s t then FC b n s * BC b n (s + 2 ^ t) else 0
theorem s_waysThrough (hS : St b n) (h : OR M q1 n b) (hF : RF M q n b) {s t : Nat} (hs : s < 2 ^ n) (ht : t < n) : f_X4_waysThrough M q q1 (iN s) (iN t) = some (iN (wt b n s t)) := by
  have h9 := h.le
  have h8 := p2_le h9
  have hle := FC_le (b := b) h9 hs
  unfold f_X4_waysThrough wt
  cases hc : cc b s t
  · simp (disch := omega) only [s_canCome h (show s < 512 by omega) ht, hc, iN_le, iN_lt, chk_inb, chk_t, clamp_iN, bd_some, iN_add, iN_s, iN_and, iN_or, iN_shl, e10, e01, e00, bI_0, bI_1, bI_t, bI_f, has_iN, bitc, within_iN, mk_or1, xhas_iN, add_z, if_true, if_false, ite_true, ite_false, reduceCtorEq, Bool.false_eq_true, Bool.true_and, Bool.false_and, Bool.and_true, Bool.and_false, Bool.not_true, Bool.not_false]; rfl
  · have hb := cc_W0 b _ _ hc
    have h2 := plus_lt hs ht hb
    by_cases hz : FC b n s = 0
    · simp (disch := omega) only [s_canCome h (show s < 512 by omega) ht, hc, hF.1 s hs, iN_ne0, hz, Nat.zero_mul, iN_le, iN_lt, chk_inb, chk_t, clamp_iN, bd_some, iN_add, iN_s, iN_and, iN_or, iN_shl, e10, e01, e00, bI_0, bI_1, bI_t, bI_f, has_iN, bitc, within_iN, mk_or1, xhas_iN, add_z, if_true, if_false, ite_true, ite_false, reduceCtorEq, Bool.false_eq_true, Bool.true_and, Bool.false_and, Bool.and_true, Bool.and_false, Bool.not_true, Bool.not_false]; rfl
    · have hcl := (FC_pos hS hs).mp hz
      simp (disch := omega) only [s_canCome h (show s < 512 by omega) ht, hc, hF.1 s hs, iN_ne0, hz, plus_or hs ht hb, hF.w hS hs hcl t ht hc, iN_mul, iN_le, iN_lt, chk_inb, chk_t, clamp_iN, bd_some, iN_add, iN_s, iN_and, iN_or, iN_shl, e10, e01, e00, bI_0, bI_1, bI_t, bI_f, has_iN, bitc, within_iN, mk_or1, xhas_iN, add_z, if_true, if_false, ite_true, ite_false, reduceCtorEq, Bool.false_eq_true, Bool.true_and, Bool.false_and, Bool.and_true, Bool.and_false, Bool.not_true, Bool.not_false]
theorem s_countAhead' (hS : St b n) (h : OR M q1 n b) (hF : RF M q n b) {u t : Nat} (hu : u < n) (ht : t < n) : f_X4_countAhead M q q1 (iN u) (iN t) = some (iN (S (2 ^ n) fun s => if s.testBit u then wt b n s t else 0)) := by
  have h9 := h.le
  have h8 := p2_le h9
  refine lp_for (fun j => (iN (S j fun s => if s.testBit u then wt b n s t else 0), iN j)) (2 ^ n) (FU_lt2 h8) ?_ ?_
  · intro j hj k
    cases hb : j.testBit u
    · simp (disch := omega) only [g_X4_countAhead_L6, s_setLimit h, if_neg (show ¬ 2 ^ n ≤ j by omega), hb, S, Nat.add_zero, iN_le, iN_lt, chk_inb, chk_t, clamp_iN, bd_some, iN_add, iN_s, iN_and, iN_or, iN_shl, e10, e01, e00, bI_0, bI_1, bI_t, bI_f, has_iN, bitc, within_iN, mk_or1, xhas_iN, add_z, if_true, if_false, ite_true, ite_false, reduceCtorEq, Bool.false_eq_true, Bool.true_and, Bool.false_and, Bool.and_true, Bool.and_false, Bool.not_true, Bool.not_false]
    · simp (disch := omega) only [g_X4_countAhead_L6, s_setLimit h, if_neg (show ¬ 2 ^ n ≤ j by omega), hb, S, s_waysThrough hS h hF hj ht, iN_le, iN_lt, chk_inb, chk_t, clamp_iN, bd_some, iN_add, iN_s, iN_and, iN_or, iN_shl, e10, e01, e00, bI_0, bI_1, bI_t, bI_f, has_iN, bitc, within_iN, mk_or1, xhas_iN, add_z, if_true, if_false, ite_true, ite_false, reduceCtorEq, Bool.false_eq_true, Bool.true_and, Bool.false_and, Bool.and_true, Bool.and_false, Bool.not_true, Bool.not_false]
  · intro k
    simp (disch := omega) only [g_X4_countAhead_L6, s_setLimit h, if_pos (Nat.le_refl (2 ^ n)), iN_le, iN_lt, chk_inb, chk_t, clamp_iN, bd_some, iN_add, iN_s, iN_and, iN_or, iN_shl, e10, e01, e00, bI_0, bI_1, bI_t, bI_f, has_iN, bitc, within_iN, mk_or1, xhas_iN, add_z, if_true, if_false, ite_true, ite_false, reduceCtorEq, Bool.false_eq_true, Bool.true_and, Bool.false_and, Bool.and_true, Bool.and_false, Bool.not_true, Bool.not_false]
theorem s_countAtPlace (hS : St b n) (h : OR M q1 n b) (hF : RF M q n b) {t : Nat} (ht : t < n) (x : Int32) : f_X4_countAtPlace M q q1 (iN t) x = some (iN (S (2 ^ n) fun s => if iN (pc s) = x then wt b n s t else 0)) := by
  have h9 := h.le
  have h8 := p2_le h9
  refine lp_for (fun j => (iN (S j fun s => if iN (pc s) = x then wt b n s t else 0), iN j)) (2 ^ n) (FU_lt2 h8) ?_ ?_
  · intro j hj k
    by_cases hb : iN (pc j) = x
    · simp (disch := omega) only [g_X4_countAtPlace_L6, s_setLimit h, if_neg (show ¬ 2 ^ n ≤ j by omega), hb, S, s_waysThrough hS h hF hj ht, iN_le, iN_lt, chk_inb, chk_t, clamp_iN, bd_some, iN_add, iN_s, iN_and, iN_or, iN_shl, e10, e01, e00, bI_0, bI_1, bI_t, bI_f, has_iN, bitc, within_iN, mk_or1, xhas_iN, add_z, if_true, if_false, ite_true, ite_false, reduceCtorEq, Bool.false_eq_true, Bool.true_and, Bool.false_and, Bool.and_true, Bool.and_false, Bool.not_true, Bool.not_false]
    · simp (disch := omega) only [g_X4_countAtPlace_L6, s_setLimit h, if_neg (show ¬ 2 ^ n ≤ j by omega), hb, S, Nat.add_zero, iN_le, iN_lt, chk_inb, chk_t, clamp_iN, bd_some, iN_add, iN_s, iN_and, iN_or, iN_shl, e10, e01, e00, bI_0, bI_1, bI_t, bI_f, has_iN, bitc, within_iN, mk_or1, xhas_iN, add_z, if_true, if_false, ite_true, ite_false, reduceCtorEq, Bool.false_eq_true, Bool.true_and, Bool.false_and, Bool.and_true, Bool.and_false, Bool.not_true, Bool.not_false]
  · intro k
    simp (disch := omega) only [g_X4_countAtPlace_L6, s_setLimit h, if_pos (Nat.le_refl (2 ^ n)), iN_le, iN_lt, chk_inb, chk_t, clamp_iN, bd_some, iN_add, iN_s, iN_and, iN_or, iN_shl, e10, e01, e00, bI_0, bI_1, bI_t, bI_f, has_iN, bitc, within_iN, mk_or1, xhas_iN, add_z, if_true, if_false, ite_true, ite_false, reduceCtorEq, Bool.false_eq_true, Bool.true_and, Bool.false_and, Bool.and_true, Bool.and_false, Bool.not_true, Bool.not_false]
theorem s_sumOfPlaces (hS : St b n) (h : OR M q1 n b) (hF : RF M q n b) {t : Nat} (ht : t < n) : f_X4_sumOfPlaces M q q1 (iN t) = some (iN (S (2 ^ n) fun s => pc s * wt b n s t)) := by
  have h9 := h.le
  have h8 := p2_le h9
  refine lp_for (fun j => (iN (S j fun s => pc s * wt b n s t), iN j)) (2 ^ n) (FU_lt2 h8) ?_ ?_
  · intro j hj k
    simp (disch := omega) only [g_X4_sumOfPlaces_L5, s_setLimit h, if_neg (show ¬ 2 ^ n ≤ j by omega), S, s_waysThrough hS h hF hj ht, iN_mul, iN_le, iN_lt, chk_inb, chk_t, clamp_iN, bd_some, iN_add, iN_s, iN_and, iN_or, iN_shl, e10, e01, e00, bI_0, bI_1, bI_t, bI_f, has_iN, bitc, within_iN, mk_or1, xhas_iN, add_z, if_true, if_false, ite_true, ite_false, reduceCtorEq, Bool.false_eq_true, Bool.true_and, Bool.false_and, Bool.and_true, Bool.and_false, Bool.not_true, Bool.not_false]
  · intro k
    simp (disch := omega) only [g_X4_sumOfPlaces_L5, s_setLimit h, if_pos (Nat.le_refl (2 ^ n)), iN_le, iN_lt, chk_inb, chk_t, clamp_iN, bd_some, iN_add, iN_s, iN_and, iN_or, iN_shl, e10, e01, e00, bI_0, bI_1, bI_t, bI_f, has_iN, bitc, within_iN, mk_or1, xhas_iN, add_z, if_true, if_false, ite_true, ite_false, reduceCtorEq, Bool.false_eq_true, Bool.true_and, Bool.false_and, Bool.and_true, Bool.and_false, Bool.not_true, Bool.not_false]
end RT
