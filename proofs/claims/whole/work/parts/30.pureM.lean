/-! ===== orders that change: copied, linked, cut ===== -/
theorem upM_self {M : Mem} {a i : Nat} : upM M a i (M a i) = M := by
  funext x j
  simp only [upM]
  split
  · next h =>
    split
    · next h2 => rw [h, h2]
    · rfl
  · rfl
theorem upM_v {M : Mem} {a i : Nat} {x : Int32} (h : x = M a i) : upM M a i x = M := by rw [h, upM_self]
/-- two orders' cells have nothing in common -/
def dj (q0 q1 : Nat) : Prop := q0 + 2 < q1 ∨ q1 + 2 < q0
section RT
variable {M : Mem} {q q0 q1 n : Nat} {b : Nat → Nat}
theorem s_become (hd : dj q0 q1) : ∃ M', f_X3_become M q0 q1 = some M' ∧ (Fr M M' [q0, q0 + 1, q0 + 2] ∧ M' q0 0 = M q1 0 ∧ ∀ k < 9, M' (q0 + 1) k = M (q1 + 1) k ∧ M' (q0 + 2) k = M (q1 + 2) k) := by
  have e9 : (9 : Int32) = iN 9 := rfl
  unfold dj at hd
  unfold f_X3_become
  rw [bd_some]
  refine lp_to (fun j a => j ≤ 9 ∧ a.1 = iN j ∧ Fr M a.2 [q0, q0 + 1, q0 + 2] ∧ a.2 q0 0 = M q1 0 ∧ ∀ k < j, a.2 (q0 + 1) k = M (q1 + 1) k ∧ a.2 (q0 + 2) k = M (q1 + 2) k) 9 (FU_lt (Nat.le_refl 9)) ⟨by omega, rfl, Fr.up (by simp), upM_eq, fun k hk => by omega⟩ ?_
  rintro j ⟨a, M1⟩ ⟨hj, h0, hf, hn, hv⟩
  dsimp only at h0 hf hn hv
  subst h0
  rcases Nat.lt_or_ge j 9 with hl | hl
  · left
    refine ⟨hl, (iN (j + 1), upM (upM M1 (q0 + 1) j (M (q1 + 1) j)) (q0 + 2) j (M (q1 + 2) j)), ⟨hl, rfl, (hf.trans (Fr.up (by simp))).trans (Fr.up (by simp)), ?_, fun k hk => ?_⟩, fun k => ?_⟩
    · dsimp only
      rw [upM_ne2 (by omega), upM_ne2 (by omega)]; exact hn
    · dsimp only
      rw [upM_ne2 (by omega), upM_at, upM_at, upM_ne2 (by omega)]
      by_cases e : k = j
      · simp [e]
      · simp only [if_neg e]; exact hv k (by omega)
    · have h1 : M1 (q1 + 1) j = M (q1 + 1) j := by rw [hf (q1 + 1) (by simp only [List.mem_cons, List.not_mem_nil, or_false, not_or]; omega)]
      have h2 : upM M1 (q0 + 1) j (M (q1 + 1) j) (q1 + 2) j = M (q1 + 2) j := by
        rw [upM_ne2 (by omega), hf (q1 + 2) (by simp only [List.mem_cons, List.not_mem_nil, or_false, not_or]; omega)]
      simp (disch := omega) only [g_X3_become_L10, e9, if_neg (show ¬ 9 ≤ j by omega), h1, h2, iN_le, iN_lt, chk_inb, chk_t, clamp_iN, bd_some, iN_add, iN_s, iN_and, iN_or, iN_shl, e10, e01, e00, bI_0, bI_1, bI_t, bI_f, has_iN, bitc, within_iN, mk_or1, xhas_iN, add_z, if_true, if_false, ite_true, ite_false, reduceCtorEq, Bool.false_eq_true, Bool.true_and, Bool.false_and, Bool.and_true, Bool.and_false, Bool.not_true, Bool.not_false]
  · right
    refine ⟨M1, ⟨hf, hn, fun k hk => hv k (by omega)⟩, fun k => ?_⟩
    simp (disch := omega) only [g_X3_become_L10, e9, if_pos (show 9 ≤ j by omega), iN_le, iN_lt, chk_inb, chk_t, clamp_iN, bd_some, iN_add, iN_s, iN_and, iN_or, iN_shl, e10, e01, e00, bI_0, bI_1, bI_t, bI_f, has_iN, bitc, within_iN, mk_or1, xhas_iN, add_z, if_true, if_false, ite_true, ite_false, reduceCtorEq, Bool.false_eq_true, Bool.true_and, Bool.false_and, Bool.and_true, Bool.and_false, Bool.not_true, Bool.not_false]
theorem s_become_self : f_X3_become M q q = some M := by
  have e9 : (9 : Int32) = iN 9 := rfl
  unfold f_X3_become
  rw [bd_some, upM_self]
  refine lp_for (fun j => (iN j, M)) 9 (FU_lt (Nat.le_refl 9)) ?_ ?_
  · intro j hj k
    simp (disch := omega) only [g_X3_become_L10, e9, if_neg (show ¬ 9 ≤ j by omega), upM_self, iN_le, iN_lt, chk_inb, chk_t, clamp_iN, bd_some, iN_add, iN_s, iN_and, iN_or, iN_shl, e10, e01, e00, bI_0, bI_1, bI_t, bI_f, has_iN, bitc, within_iN, mk_or1, xhas_iN, add_z, if_true, if_false, ite_true, ite_false, reduceCtorEq, Bool.false_eq_true, Bool.true_and, Bool.false_and, Bool.and_true, Bool.and_false, Bool.not_true, Bool.not_false]
  · intro k
    simp (disch := omega) only [g_X3_become_L10, e9, if_pos (Nat.le_refl 9), iN_le, iN_lt, chk_inb, chk_t, clamp_iN, bd_some, iN_add, iN_s, iN_and, iN_or, iN_shl, e10, e01, e00, bI_0, bI_1, bI_t, bI_f, has_iN, bitc, within_iN, mk_or1, xhas_iN, add_z, if_true, if_false, ite_true, ite_false, reduceCtorEq, Bool.false_eq_true, Bool.true_and, Bool.false_and, Bool.and_true, Bool.and_false, Bool.not_true, Bool.not_false]
theorem OR.of {M' : Mem} (h : OR M q1 n b) (h0 : M' q0 0 = M q1 0) (h1 : ∀ k < n, M' (q0 + 1) k = M (q1 + 1) k) : OR M' q0 n b := ⟨h.1, by rw [h0]; exact h.2.1, fun k hk => by rw [h1 k hk]; exact h.2.2 k hk⟩
theorem OR.ext {b' : Nat → Nat} (h : OR M q n b) (e : ∀ k < n, b k = b' k) : OR M q n b' := ⟨h.1, h.2.1, fun k hk => by rw [← e k hk]; exact h.2.2 k hk⟩
theorem St.ext {b' : Nat → Nat} (h : St b n) (e : ∀ k < n, b k = b' k) : St b' n := ⟨h.1, fun k hk => by rw [← e k hk]; exact h.2.1 k hk, fun k hk => by rw [← e k hk]; exact h.2.2.1 k hk, fun k hk j hj hb i hi hbi => by rw [← e k hk] at hb ⊢; rw [← e j hj] at hbi; exact h.2.2.2 k hk j hj hb i hi hbi⟩
/-- below k once low stands below high -/
def lk (b : Nat → Nat) (l h k : Nat) : Nat := if ub b h k then b k ||| (b l ||| 2 ^ l) else b k
theorem pow_bit {l i : Nat} : (2 ^ l).testBit i = decide (i = l) := by
  rw [Nat.testBit_two_pow, decide_eq_decide]; exact eq_comm
theorem lk_bit {l h k i : Nat} : (lk b l h k).testBit i = ((b k).testBit i || (ub b h k && ub b i l)) := by
  unfold lk
  cases ub b h k
  · simp
  · simp only [if_true, Nat.testBit_or, pow_bit, Bool.true_and]
    unfold ub
    rw [Bool.or_comm ((b l).testBit i)]
theorem pow_lt {l : Nat} (hl : l < n) : 2 ^ l < 2 ^ n := Nat.pow_lt_pow_right (by decide) hl
theorem lk_lt (hb : ∀ k < n, b k < 2 ^ n) {l h k : Nat} (hl : l < n) (hk : k < n) : lk b l h k < 2 ^ n := by
  unfold lk
  split
  · exact or_lt (hb k hk) (or_lt (hb l hl) (pow_lt hl))
  · exact hb k hk
theorem ub_trans (hS : St b n) {i j k : Nat} (hi : i < n) (hj : j < n) (hk : k < n) (h1 : ub b i j = true) (h2 : ub b j k = true) : ub b i k = true := by
  unfold ub at *
  rw [Bool.or_eq_true, decide_eq_true_eq] at *
  rcases h1 with e | h1
  · rw [e]; exact h2
  · rcases h2 with e | h2
    · rw [← e]; exact Or.inr h1
    · exact Or.inr (hS.2.2.2 k hk j hj h2 i hi h1)
theorem ub_lt' (hS : St b n) {i j k : Nat} (hi : i < n) (hj : j < n) (hk : k < n) (h1 : ub b i j = true) (h2 : (b k).testBit j = true) : (b k).testBit i = true := by
  unfold ub at h1
  rw [Bool.or_eq_true, decide_eq_true_eq] at h1
  rcases h1 with e | h1
  · rw [e]; exact h2
  · exact hS.2.2.2 k hk j hj h2 i hi h1
theorem lt_ub' (hS : St b n) {i j k : Nat} (hi : i < n) (hj : j < n) (hk : k < n) (h1 : (b j).testBit i = true) (h2 : ub b j k = true) : (b k).testBit i = true := by
  unfold ub at h2
  rw [Bool.or_eq_true, decide_eq_true_eq] at h2
  rcases h2 with e | h2
  · rw [← e]; exact h1
  · exact hS.2.2.2 k hk j hj h2 i hi h1
theorem bit_ub {i j : Nat} (h : (b j).testBit i = true) : ub b i j = true := by unfold ub; rw [h]; simp
/-- what put() makes of a strict order is one -/
theorem lk_St (hS : St b n) {l h : Nat} (hl : l < n) (hh : h < n) (hr : ub b h l = false) : St (lk b l h) n := by
  have hno : ∀ i < n, ub b h i = true → ub b i l = true → False := fun i hi h1 h2 => by
    have := ub_trans hS hh hi hl h1 h2
    rw [hr] at this; cases this
  refine ⟨hS.1, fun k hk => lk_lt hS.2.1 hl hk, fun k hk => ?_, fun k hk j hj hb i hi hbi => ?_⟩
  · rw [lk_bit, hS.2.2.1 k hk, Bool.false_or]
    cases h1 : ub b h k
    · rfl
    · cases h2 : ub b k l
      · rfl
      · exact (hno k hk h1 h2).elim
  · rw [lk_bit, Bool.or_eq_true, Bool.and_eq_true] at *
    rcases hb with hb | ⟨hb1, hb2⟩
    · rcases hbi with hbi | ⟨hi1, hi2⟩
      · exact Or.inl (hS.2.2.2 k hk j hj hb i hi hbi)
      · exact Or.inr ⟨bit_ub (ub_lt' hS hh hj hk hi1 hb), hi2⟩
    · rcases hbi with hbi | ⟨hi1, hi2⟩
      · exact Or.inr ⟨hb1, bit_ub (lt_ub' hS hi hj hl hbi hb2)⟩
      · exact Or.inr ⟨hb1, hi2⟩
theorem s_link_no (h : OR M q n b) {l t : Nat} (hl : l < n) (ht : t < n) (hr : ub b t l = true) : f_X3_link M q (iN l) (iN t) = some (-9, M) := by
  have h9 := h.le
  unfold f_X3_link
  unfold ub at hr
  by_cases e : l = t
  · simp (disch := omega) only [e, iN_le, iN_lt, chk_inb, chk_t, clamp_iN, bd_some, iN_add, iN_s, iN_and, iN_or, iN_shl, e10, e01, e00, bI_0, bI_1, bI_t, bI_f, has_iN, bitc, within_iN, mk_or1, xhas_iN, add_z, if_true, if_false, ite_true, ite_false, reduceCtorEq, Bool.false_eq_true, Bool.true_and, Bool.false_and, Bool.and_true, Bool.and_false, Bool.not_true, Bool.not_false]
  · have e1 : (iN l = iN t) = False := by rw [iN_eq (by omega) (by omega)]; exact eq_false e
    have hb : (b l).testBit t = true := by simpa [Ne.symm e] using hr
    simp (disch := omega) only [e1, s_isBelow h, hb, iN_le, iN_lt, chk_inb, chk_t, clamp_iN, bd_some, iN_add, iN_s, iN_and, iN_or, iN_shl, e10, e01, e00, bI_0, bI_1, bI_t, bI_f, has_iN, bitc, within_iN, mk_or1, xhas_iN, add_z, if_true, if_false, ite_true, ite_false, reduceCtorEq, Bool.false_eq_true, Bool.true_and, Bool.false_and, Bool.and_true, Bool.and_false, Bool.not_true, Bool.not_false]
theorem s_link (h : OR M q n b) {l t : Nat} (hl : l < n) (ht : t < n) (hr : ub b t l = false) : ∃ r, f_X3_link M q (iN l) (iN t) = some r ∧ (r.1 = iN (S n fun k => pc (lk b l t k)) - iN (S n fun k => pc (b k)) ∧ Fr M r.2 [q + 1] ∧ OR r.2 q n (lk b l t)) := by
  have h9 := h.le
  have hlt := pow_lt hl
  unfold f_X3_link
  have hr2 := hr
  unfold ub at hr
  rw [Bool.or_eq_false_iff, decide_eq_false_iff_not] at hr
  have e1 : (iN l = iN t) = False := by rw [iN_eq (by omega) (by omega)]; exact eq_false (Ne.symm hr.1)
  simp (disch := omega) only [e1, s_isBelow h, hr.2, s_pairCount h, h.b hl, iN_le, iN_lt, chk_inb, chk_t, clamp_iN, bd_some, iN_add, iN_s, iN_and, iN_or, iN_shl, e10, e01, e00, bI_0, bI_1, bI_t, bI_f, has_iN, bitc, within_iN, mk_or1, xhas_iN, add_z, if_true, if_false, ite_true, ite_false, reduceCtorEq, Bool.false_eq_true, Bool.true_and, Bool.false_and, Bool.and_true, Bool.and_false, Bool.not_true, Bool.not_false]
  refine lp_to (fun j a => j ≤ n ∧ a.1 = iN j ∧ Fr M a.2 [q + 1] ∧ ∀ k < n, a.2 (q + 1) k = iN (if k < j then lk b l t k else b k)) n (FU_lt h9) ⟨by omega, rfl, Fr.refl _ _, fun k hk => by dsimp only; rw [if_neg (by omega)]; exact h.b hk⟩ ?_
  rintro j ⟨a, M1⟩ ⟨hj, h0, hf, hv⟩
  dsimp only at h0 hf hv
  subst h0
  have hn1 : M1 q 0 = iN n := by rw [hf q (by simp)]; exact h.n
  have h1 : OR M1 q n (fun k => if k < j then lk b l t k else b k) := ⟨h9, hn1, fun k hk => ⟨hv k hk, by
    dsimp only
    split
    · exact lk_lt (fun k hk => h.lt hk) hl hk
    · exact h.lt hk⟩⟩
  rcases Nat.lt_or_ge j n with hlj | hlj
  · left
    have hvj : M1 (q + 1) j = iN (b j) := by rw [hv j hlj, if_neg (by omega)]
    have hbb := s_isBelow h1 (j := t) (show t < 31 by omega) hlj
    simp only [if_neg (show ¬ j < j by omega)] at hbb
    have hstep : ∀ M2 : Mem, Fr M1 M2 [q + 1] → (∀ k < n, M2 (q + 1) k = if k = j then iN (lk b l t j) else M1 (q + 1) k) → (fun j (a : Int32 × Mem) => j ≤ n ∧ a.1 = iN j ∧ Fr M a.2 [q + 1] ∧ ∀ k < n, a.2 (q + 1) k = iN (if k < j then lk b l t k else b k)) (j + 1) (iN (j + 1), M2) := by
      intro M2 hf2 hv2
      refine ⟨hlj, rfl, hf.trans hf2, fun k hk => ?_⟩
      dsimp only
      rw [hv2 k hk]
      by_cases e : k = j
      · subst e; rw [if_pos rfl, if_pos (by omega)]
      · rw [if_neg e, hv k hk]
        by_cases e2 : k < j
        · rw [if_pos e2, if_pos (by omega)]
        · rw [if_neg e2, if_neg (by omega)]
    have hup : (∀ k < n, upM M1 (q + 1) j (iN (b j ||| (b l ||| 2 ^ l))) (q + 1) k = if k = j then iN (b j ||| (b l ||| 2 ^ l)) else M1 (q + 1) k) := fun k hk => upM_at
    refine ⟨hlj, ?_⟩
    by_cases e : j = t
    · have hu : ub b t j = true := by unfold ub; simp [e]
      refine ⟨(iN (j + 1), upM M1 (q + 1) j (iN (b j ||| (b l ||| 2 ^ l)))), hstep _ (Fr.up (by simp)) (by unfold lk; rw [hu, if_pos rfl]; exact hup), fun k => ?_⟩
      subst e
      simp (disch := omega) only [g_X3_link_L37, hn1, if_neg (show ¬ n ≤ j by omega), hvj, iN_le, iN_lt, chk_inb, chk_t, clamp_iN, bd_some, iN_add, iN_s, iN_and, iN_or, iN_shl, e10, e01, e00, bI_0, bI_1, bI_t, bI_f, has_iN, bitc, within_iN, mk_or1, xhas_iN, add_z, if_true, if_false, ite_true, ite_false, reduceCtorEq, Bool.false_eq_true, Bool.true_and, Bool.false_and, Bool.and_true, Bool.and_false, Bool.not_true, Bool.not_false]
    · have e1 : (iN j = iN t) = False := by rw [iN_eq (by omega) (by omega)]; exact eq_false e
      cases hb : (b j).testBit t
      · have hu : ub b t j = false := by unfold ub; simp [Ne.symm e, hb]
        refine ⟨(iN (j + 1), M1), hstep _ (Fr.refl _ _) (fun k hk => ?_), fun k => ?_⟩
        · split
          · next e2 => rw [e2, hvj]; unfold lk; rw [hu]; rfl
          · rfl
        · rw [hb] at hbb
          simp (disch := omega) only [g_X3_link_L37, hn1, if_neg (show ¬ n ≤ j by omega), e1, hbb, iN_le, iN_lt, chk_inb, chk_t, clamp_iN, bd_some, iN_add, iN_s, iN_and, iN_or, iN_shl, e10, e01, e00, bI_0, bI_1, bI_t, bI_f, has_iN, bitc, within_iN, mk_or1, xhas_iN, add_z, if_true, if_false, ite_true, ite_false, reduceCtorEq, Bool.false_eq_true, Bool.true_and, Bool.false_and, Bool.and_true, Bool.and_false, Bool.not_true, Bool.not_false]
      · have hu : ub b t j = true := by unfold ub; simp [hb]
        refine ⟨(iN (j + 1), upM M1 (q + 1) j (iN (b j ||| (b l ||| 2 ^ l)))), hstep _ (Fr.up (by simp)) (by unfold lk; rw [hu, if_pos rfl]; exact hup), fun k => ?_⟩
        rw [hb] at hbb
        simp (disch := omega) only [g_X3_link_L37, hn1, if_neg (show ¬ n ≤ j by omega), e1, hbb, hvj, iN_le, iN_lt, chk_inb, chk_t, clamp_iN, bd_some, iN_add, iN_s, iN_and, iN_or, iN_shl, e10, e01, e00, bI_0, bI_1, bI_t, bI_f, has_iN, bitc, within_iN, mk_or1, xhas_iN, add_z, if_true, if_false, ite_true, ite_false, reduceCtorEq, Bool.false_eq_true, Bool.true_and, Bool.false_and, Bool.and_true, Bool.and_false, Bool.not_true, Bool.not_false]
  · right
    have e : j = n := by omega
    subst e
    have h2 : OR M1 q j (lk b l t) := h1.ext (fun k hk => if_pos hk)
    refine ⟨(iN (S j fun k => pc (lk b l t k)) - iN (S j fun k => pc (b k)), M1), ⟨rfl, hf, h2⟩, fun k => ?_⟩
    simp (disch := omega) only [g_X3_link_L37, hn1, if_pos (Nat.le_refl j), s_pairCount h2, iN_le, iN_lt, chk_inb, chk_t, clamp_iN, bd_some, iN_add, iN_s, iN_and, iN_or, iN_shl, e10, e01, e00, bI_0, bI_1, bI_t, bI_f, has_iN, bitc, within_iN, mk_or1, xhas_iN, add_z, if_true, if_false, ite_true, ite_false, reduceCtorEq, Bool.false_eq_true, Bool.true_and, Bool.false_and, Bool.and_true, Bool.and_false, Bool.not_true, Bool.not_false]
/-- the looks whether something is an order -/
theorem s_isOrdered (hS : St b n) (h : OR M q n b) : f_X5_isOrdered M q = some 1 := by
  have h9 := h.le
  have h8 := p2_le h9
  refine lp_for (fun j => iN j) n (FU_lt h9) ?_ ?_
  · intro j hj k
    have h1 := hS.2.1 j hj
    have h2 : un b (b j) n < 2 ^ n := un_lt (fun k hk => hS.2.1 k hk)
    have h3 : sb (un b (b j) n) (b j) = true := (sb_iff h2 h9).mpr (fun i hi hb => by
      obtain ⟨x, hx, hx1, hx2⟩ := un_bit.mp hb
      exact hS.2.2.2 j hj x hx hx1 i hi hx2)
    simp (disch := omega) only [g_X5_isOrdered_L2, h.n, if_neg (show ¬ n ≤ j by omega), s_isBelow h, hS.2.2.1 j hj, h.b hj, s_allBelow h, within_iN, h3, iN_le, iN_lt, chk_inb, chk_t, clamp_iN, bd_some, iN_add, iN_s, iN_and, iN_or, iN_shl, e10, e01, e00, bI_0, bI_1, bI_t, bI_f, has_iN, bitc, within_iN, mk_or1, xhas_iN, add_z, if_true, if_false, ite_true, ite_false, reduceCtorEq, Bool.false_eq_true, Bool.true_and, Bool.false_and, Bool.and_true, Bool.and_false, Bool.not_true, Bool.not_false]
  · intro k
    simp (disch := omega) only [g_X5_isOrdered_L2, h.n, if_pos (Nat.le_refl n), iN_le, iN_lt, chk_inb, chk_t, clamp_iN, bd_some, iN_add, iN_s, iN_and, iN_or, iN_shl, e10, e01, e00, bI_0, bI_1, bI_t, bI_f, has_iN, bitc, within_iN, mk_or1, xhas_iN, add_z, if_true, if_false, ite_true, ite_false, reduceCtorEq, Bool.false_eq_true, Bool.true_and, Bool.false_and, Bool.and_true, Bool.and_false, Bool.not_true, Bool.not_false]
theorem s_hasPairs_eq (h : OR M q n b) (h' : OR M q1 n b) : f_X3_hasPairsOf M q q1 = some 1 := by
  rw [s_hasPairsOf h h']
  have : (decide (n = n) && al n fun k => decide (b k = b k)) = true := by
    rw [Bool.and_eq_true, al_iff]
    exact ⟨decide_eq_true rfl, fun k _ => decide_eq_true rfl⟩
  rw [this]; rfl
/-- put() on any two things -/
theorem s_linksLeast1 (hS : St b n) (h : OR M q1 n b) (hd : dj 27 q1) {l t : Nat} (hl : l < n) (ht : t < n) : ∃ r, f_X5_linksLeastFor M q1 (iN l) (iN t) = some r ∧ (r.1 = 1 ∧ Fr M r.2 [27, 28, 29]) := by
  have h9 := h.le
  have h8 := p2_le h9
  obtain ⟨M1, e1, hf1, hn1, hv1⟩ := s_become (M := M) hd
  unfold dj at hd
  have h1 : OR M1 27 n b := h.of hn1 (fun k hk => (hv1 k (by omega)).1)
  have h1' : OR M1 q1 n b := h.same (hf1 _ (by simp; omega)) (hf1 _ (by simp; omega))
  unfold f_X5_linksLeastFor
  rw [e1, bd_some]
  cases hr : ub b t l
  · obtain ⟨⟨r2, M2⟩, e2, hr2, hf2, h2⟩ := s_link h1 hl ht hr
    dsimp only at hr2 hf2 h2
    have h2' : OR M2 q1 n b := h1'.same (hf2 _ (by simp; omega)) (hf2 _ (by simp; omega))
    rw [e2, bd_some]
    have hr2n : (r2 = -9) = False := by
      rw [hr2]
      have hle : (S n fun k => pc (b k)) ≤ S n fun k => pc (lk b l t k) := S_le (fun k hk => by
        rw [pc_ct (hS.2.1 k hk) h9, pc_ct (lk_lt hS.2.1 hl hk) h9]
        refine S_le (fun i hi => ?_)
        rw [lk_bit]
        cases (b k).testBit i
        · exact Nat.zero_le _
        · simp)
      have hle2 : (S n fun k => pc (lk b l t k)) ≤ n * 9 := S_pc_le (fun k _ => pc_le _)
      rw [iN_sub hle]
      apply eq_false
      intro e
      have := congrArg Int32.toInt e
      rw [iN_toInt (by omega)] at this
      have e9 : (-9 : Int32).toInt = -9 := by decide
      omega
    have hr' := hr
    unfold ub at hr'
    rw [Bool.or_eq_false_iff, decide_eq_false_iff_not] at hr'
    have en : (iN l = iN t) = False := by rw [iN_eq (by omega) (by omega)]; exact eq_false (Ne.symm hr'.1)
    refine ⟨(1, M2), ?_, rfl, (hf1.trans (hf2.mono (by simp)))⟩
    have hL : f_X5_linksLeastFor_L84 M2 q1 (iN t) (iN (b l ||| 2 ^ l)) FU 0 = some (1, M2) := by
      refine lp_for (fun j => iN j) n (FU_lt h9) ?_ ?_
      · intro j hj k
        by_cases e : j = t
        · have hu : lk b l t j = b j ||| (b l ||| 2 ^ l) := by unfold lk ub; simp [e]
          subst e
          simp (disch := omega) only [g_X5_linksLeastFor_L84, h2'.n, if_neg (show ¬ n ≤ j by omega), f_X5_linksLeastFor_L109, f_X5_linksLeastFor_L114, h2.b hj, h2'.b hj, hu, iN_le, iN_lt, chk_inb, chk_t, clamp_iN, bd_some, iN_add, iN_s, iN_and, iN_or, iN_shl, e10, e01, e00, bI_0, bI_1, bI_t, bI_f, has_iN, bitc, within_iN, mk_or1, xhas_iN, add_z, if_true, if_false, ite_true, ite_false, reduceCtorEq, Bool.false_eq_true, Bool.true_and, Bool.false_and, Bool.and_true, Bool.and_false, Bool.not_true, Bool.not_false]
        · have e1 : (iN j = iN t) = False := by rw [iN_eq (by omega) (by omega)]; exact eq_false e
          cases hb : (b j).testBit t
          · have hu : lk b l t j = b j := by unfold lk ub; simp [Ne.symm e, hb]
            simp (disch := omega) only [g_X5_linksLeastFor_L84, h2'.n, if_neg (show ¬ n ≤ j by omega), e1, s_isBelow h2', hb, f_X5_linksLeastFor_L114, h2.b hj, h2'.b hj, hu, iN_le, iN_lt, chk_inb, chk_t, clamp_iN, bd_some, iN_add, iN_s, iN_and, iN_or, iN_shl, e10, e01, e00, bI_0, bI_1, bI_t, bI_f, has_iN, bitc, within_iN, mk_or1, xhas_iN, add_z, if_true, if_false, ite_true, ite_false, reduceCtorEq, Bool.false_eq_true, Bool.true_and, Bool.false_and, Bool.and_true, Bool.and_false, Bool.not_true, Bool.not_false]
          · have hu : lk b l t j = b j ||| (b l ||| 2 ^ l) := by unfold lk ub; simp [hb]
            simp (disch := omega) only [g_X5_linksLeastFor_L84, h2'.n, if_neg (show ¬ n ≤ j by omega), e1, s_isBelow h2', hb, f_X5_linksLeastFor_L109, f_X5_linksLeastFor_L114, h2.b hj, h2'.b hj, hu, iN_le, iN_lt, chk_inb, chk_t, clamp_iN, bd_some, iN_add, iN_s, iN_and, iN_or, iN_shl, e10, e01, e00, bI_0, bI_1, bI_t, bI_f, has_iN, bitc, within_iN, mk_or1, xhas_iN, add_z, if_true, if_false, ite_true, ite_false, reduceCtorEq, Bool.false_eq_true, Bool.true_and, Bool.false_and, Bool.and_true, Bool.and_false, Bool.not_true, Bool.not_false]
      · intro k
        have hst := s_isOrdered (lk_St hS hl ht hr) h2
        simp (disch := omega) only [g_X5_linksLeastFor_L84, h2'.n, if_pos (Nat.le_refl n), hst, iN_le, iN_lt, chk_inb, chk_t, clamp_iN, bd_some, iN_add, iN_s, iN_and, iN_or, iN_shl, e10, e01, e00, bI_0, bI_1, bI_t, bI_f, has_iN, bitc, within_iN, mk_or1, xhas_iN, add_z, if_true, if_false, ite_true, ite_false, reduceCtorEq, Bool.false_eq_true, Bool.true_and, Bool.false_and, Bool.and_true, Bool.and_false, Bool.not_true, Bool.not_false]
        rfl
    simp (disch := omega) only [hr2n, f_X5_linksLeastFor_L27, en, s_isBelow h2', hr'.2, f_X5_linksLeastFor_L50, h2'.b hl, hL, iN_le, iN_lt, chk_inb, chk_t, clamp_iN, bd_some, iN_add, iN_s, iN_and, iN_or, iN_shl, e10, e01, e00, bI_0, bI_1, bI_t, bI_f, has_iN, bitc, within_iN, mk_or1, xhas_iN, add_z, if_true, if_false, ite_true, ite_false, reduceCtorEq, Bool.false_eq_true, Bool.true_and, Bool.false_and, Bool.and_true, Bool.and_false, Bool.not_true, Bool.not_false]
  · rw [s_link_no h1 hl ht hr, bd_some]
    refine ⟨(1, M1), ?_, rfl, hf1⟩
    have hhp := s_hasPairs_eq h1 h1'
    have hr' := hr
    unfold ub at hr'
    by_cases e : l = t
    · simp (disch := omega) only [e, f_X5_linksLeastFor_L27, f_X5_linksLeastFor_L45, f_X5_linksLeastFor_L50, hhp, iN_le, iN_lt, chk_inb, chk_t, clamp_iN, bd_some, iN_add, iN_s, iN_and, iN_or, iN_shl, e10, e01, e00, bI_0, bI_1, bI_t, bI_f, has_iN, bitc, within_iN, mk_or1, xhas_iN, add_z, if_true, if_false, ite_true, ite_false, reduceCtorEq, Bool.false_eq_true, Bool.true_and, Bool.false_and, Bool.and_true, Bool.and_false, Bool.not_true, Bool.not_false]; rfl
    · have en : (iN l = iN t) = False := by rw [iN_eq (by omega) (by omega)]; exact eq_false e
      have hb : (b l).testBit t = true := by simpa [Ne.symm e] using hr'
      simp (disch := omega) only [en, s_isBelow h1', hb, f_X5_linksLeastFor_L27, f_X5_linksLeastFor_L45, f_X5_linksLeastFor_L50, hhp, iN_le, iN_lt, chk_inb, chk_t, clamp_iN, bd_some, iN_add, iN_s, iN_and, iN_or, iN_shl, e10, e01, e00, bI_0, bI_1, bI_t, bI_f, has_iN, bitc, within_iN, mk_or1, xhas_iN, add_z, if_true, if_false, ite_true, ite_false, reduceCtorEq, Bool.false_eq_true, Bool.true_and, Bool.false_and, Bool.and_true, Bool.and_false, Bool.not_true, Bool.not_false]; rfl
end RT
