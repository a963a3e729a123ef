/-! ===== the NUMBERS undo the sums ===== -/
theorem SI_add {n : Nat} {f g : Nat → Int32} : SI n (fun k => f k + g k) = SI n f + SI n g := by
  induction n with
  | zero => rfl
  | succ n ih =>
    simp only [SI, ih]
    rw [Int32.add_assoc, Int32.add_assoc, ← Int32.add_assoc (SI n g), Int32.add_comm (SI n g), Int32.add_assoc]
theorem SI_mul {n : Nat} {c : Int32} {f : Nat → Int32} : SI n (fun k => c * f k) = c * SI n f := by
  induction n with
  | zero => simp [SI]
  | succ n ih => simp only [SI, ih, Int32.mul_add]
theorem SI_mulr {n : Nat} {c : Int32} {f : Nat → Int32} : SI n (fun k => f k * c) = SI n f * c := by
  induction n with
  | zero => simp [SI]
  | succ n ih => simp only [SI, ih, Int32.add_mul]
theorem SI_comm {n m : Nat} {f : Nat → Nat → Int32} : SI n (fun i => SI m (fun j => f i j)) = SI m (fun j => SI n (fun i => f i j)) := by
  induction n with
  | zero => simp only [SI]; exact (SI_0 (fun _ _ => rfl)).symm
  | succ n ih => simp only [SI, ih, SI_add]
theorem SI_one {n k : Nat} (hk : k < n) (f : Nat → Int32) : SI n (fun j => if j = k then f j else 0) = f k := by
  induction n with
  | zero => omega
  | succ n ih =>
    simp only [SI]
    rcases Nat.lt_succ_iff_lt_or_eq.mp hk with h | h
    · rw [ih h, if_neg (by omega), Int32.add_zero]
    · rw [if_pos h.symm, SI_0 (fun j hj => if_neg (by omega)), Int32.zero_add, h]
theorem SI_neg {n : Nat} {f : Nat → Int32} : SI n (fun k => -(f k)) = -(SI n f) := by
  induction n with
  | zero => simp only [SI, Int32.neg_zero]
  | succ n ih => simp only [SI, ih, Int32.neg_add, Int32.sub_eq_add_neg]
/-- up to -/
def ub (b : Nat → Nat) (k l : Nat) : Bool := decide (k = l) || (b l).testBit k
section NN
variable {n : Nat} {b : Nat → Nat}
theorem ub_split (hS : St b n) {t : Nat} (ht : t < n) (f : Nat → Int32) : SI n (fun k => if ub b k t then f k else 0) = f t + SI n (fun k => if (b t).testBit k then f k else 0) := by
  rw [← SI_one ht f, ← SI_add]
  refine SI_congr (fun k hk => ?_)
  unfold ub
  by_cases e : k = t
  · subst e
    rw [hS.2.2.1 k hk]; simp
  · simp [e]
theorem MU_up (hS : St b n) {l h : Nat} (hl : l < n) (hh : h < n) : (if ub b l h then MU b n l h else 0) = MU b n l h := by
  unfold ub
  by_cases e : l = h
  · simp [e]
  · cases hb : (b h).testBit l
    · simp [e, MU_0 hS 10 h hh (by have := pc_le (b h); omega) (Ne.symm e) hb]
    · simp
theorem MU_r (hS : St b n) {l h : Nat} (hl : l < n) (hh : h < n) : SI n (fun k => if ub b k h then MU b n l k else 0) = if l = h then 1 else 0 := by
  rw [ub_split hS hh]
  by_cases e : h = l
  · subst e
    rw [if_pos rfl, MU_s hS hh, if_pos rfl, SI_0 (fun k hk => ?_), Int32.add_zero]
    cases hb : (b h).testBit k
    · rfl
    · have hkl : k ≠ h := fun e => by rw [e, hS.2.2.1 h hh] at hb; cases hb
      have hx : (b k).testBit h = false := by
        cases hx : (b k).testBit h
        · rfl
        · have := hS.2.2.2 h hh k hk hb h hh hx
          rw [hS.2.2.1 h hh] at this; cases this
      simp [MU_0 hS 10 k hk (by have := pc_le (b k); omega) hkl hx]
  · rw [if_neg (Ne.symm e), MU_s hS hh, if_neg e, Int32.add_left_neg]
theorem MU_l (hS : St b n) {k h : Nat} (hk : k < n) (hh : h < n) : SI n (fun l => if ub b k l then MU b n l h else 0) = if k = h then 1 else 0 := by
  have key : ∀ h < n, SI n (fun l => if ub b l h then (SI n (fun j => if ub b k j then MU b n j l else 0) + -(if k = l then 1 else 0)) else 0) = 0 := by
    intro h hh
    have e1 : SI n (fun l => if ub b l h then (SI n (fun j => if ub b k j then MU b n j l else 0) + -(if k = l then 1 else 0)) else 0) = SI n (fun l => if ub b l h then SI n (fun j => if ub b k j then MU b n j l else 0) else 0) + -(SI n (fun l => if l = k then (if ub b l h then 1 else 0) else 0)) := by
      rw [← SI_neg, ← SI_add]
      refine SI_congr (fun l hl => ?_)
      by_cases e : l = k
      · subst e; cases ub b l h <;> simp
      · cases ub b l h <;> simp [e, Ne.symm e]
    have e2 : SI n (fun l => if ub b l h then SI n (fun j => if ub b k j then MU b n j l else 0) else 0) = SI n (fun j => if ub b k j then SI n (fun l => if ub b l h then MU b n j l else 0) else 0) := by
      have a1 : SI n (fun l => if ub b l h then SI n (fun j => if ub b k j then MU b n j l else 0) else 0) = SI n (fun l => SI n (fun j => if ub b l h then (if ub b k j then MU b n j l else 0) else 0)) := SI_congr (fun l _ => by
        cases ub b l h
        · simp only [Bool.false_eq_true, if_false]; exact (SI_0 (fun _ _ => rfl)).symm
        · rfl)
      have a2 : SI n (fun j => if ub b k j then SI n (fun l => if ub b l h then MU b n j l else 0) else 0) = SI n (fun j => SI n (fun l => if ub b l h then (if ub b k j then MU b n j l else 0) else 0)) := SI_congr (fun j _ => by
        cases ub b k j
        · simp only [Bool.false_eq_true, if_false]; exact (SI_0 (fun l _ => by cases ub b l h <;> rfl)).symm
        · simp only [if_true])
      rw [a1, a2, SI_comm]
    have e3 : SI n (fun j => if ub b k j then SI n (fun l => if ub b l h then MU b n j l else 0) else 0) = SI n (fun j => if j = h then (if ub b k j then 1 else 0) else 0) := SI_congr (fun j hj => by
      rw [MU_r hS hj hh]
      by_cases e : j = h
      · simp [e]
      · simp [e])
    rw [e1, e2, e3, SI_one hh (fun j => if ub b k j then 1 else 0), SI_one hk (fun l => if ub b l h then 1 else 0), Int32.add_right_neg]
  have H : ∀ d, ∀ h < n, pc (b h) < d → SI n (fun j => if ub b k j then MU b n j h else 0) + -(if k = h then 1 else 0) = 0 := by
    intro d
    induction d with
    | zero => intro h _ h1; omega
    | succ d ih =>
      intro h hh hd
      have e1 := key h hh
      have e4 : SI n (fun l => if (b h).testBit l then SI n (fun j => if ub b k j then MU b n j l else 0) + -(if k = l then 1 else 0) else 0) = 0 := SI_0 (fun l hl => by
        cases hb : (b h).testBit l
        · rfl
        · have := pc_b_lt hS hh hl hb
          simp only [if_true]
          exact ih l hl (by omega))
      rw [ub_split hS hh, e4, Int32.add_zero] at e1
      exact e1
  have h1 := H 10 h hh (by have := pc_le (b h); omega)
  have h2 : SI n (fun j => if ub b k j then MU b n j h else 0) + -(if k = h then 1 else 0) + (if k = h then 1 else 0) = 0 + (if k = h then 1 else 0) := by rw [h1]
  rw [Int32.add_assoc, Int32.add_left_neg, Int32.add_zero, Int32.zero_add] at h2
  exact h2
/-- the sums, undone -/
theorem un_sum (hS : St b n) (v : Nat → Int32) {t : Nat} (ht : t < n) : SI n (fun l => if ub b l t then SI n (fun k => if ub b k l then v k else 0) * MU b n l t else 0) = v t := by
  have e1 : SI n (fun l => if ub b l t then SI n (fun k => if ub b k l then v k else 0) * MU b n l t else 0) = SI n (fun l => SI n (fun k => v k * (if ub b k l then MU b n l t else 0))) := SI_congr (fun l hl => by
    have a1 : (if ub b l t then SI n (fun k => if ub b k l then v k else 0) * MU b n l t else 0) = SI n (fun k => if ub b k l then v k else 0) * MU b n l t := by
      have := MU_up hS hl ht
      cases hu : ub b l t
      · rw [hu] at this
        rw [← this]; simp
      · rfl
    rw [a1, ← SI_mulr]
    exact SI_congr (fun k _ => by cases ub b k l <;> simp))
  rw [e1, SI_comm]
  have e2 : SI n (fun k => SI n (fun l => v k * (if ub b k l then MU b n l t else 0))) = SI n (fun k => if k = t then v k else 0) := SI_congr (fun k hk => by
    rw [SI_mul, MU_l hS hk ht]
    by_cases e : k = t
    · simp [e]
    · simp [e])
  rw [e2, SI_one ht v]
end NN
section RT
variable {M : Mem} {q q1 n : Nat} {b : Nat → Nat}
theorem s_between (hS : St b n) (h : OR M q1 n b) (hq : q1 ≠ q + 1 ∧ q1 + 1 ≠ q + 1) {l t : Nat} (hl : l < n) (ht : t < n) : ∃ r, f_X2_between M q q1 (iN l) (iN t) = some r ∧ (r.1 = MU b n l t ∧ Fr M r.2 [q + 1]) := by
  have h9 := h.le
  obtain ⟨M', e, hf, hv⟩ := s_fillFrom hS h hq hl
  unfold f_X2_between
  simp (disch := omega) only [e, hv t ht, iN_le, iN_lt, chk_inb, chk_t, clamp_iN, bd_some, iN_add, iN_s, iN_and, iN_or, iN_shl, e10, e01, e00, bI_0, bI_1, bI_t, bI_f, has_iN, bitc, within_iN, mk_or1, xhas_iN, add_z, if_true, if_false, ite_true, ite_false, reduceCtorEq, Bool.false_eq_true, Bool.true_and, Bool.false_and, Bool.and_true, Bool.and_false, Bool.not_true, Bool.not_false]
  exact ⟨_, rfl, rfl, hf⟩
theorem s_sumUpTo' (hS : St b n) (h : OR M q1 n b) {t : Nat} (ht : t < n) : f_X3_sumUpTo M q1 (iN t) = some (SI n (fun k => if ub b k t then M (q1 + 2) k else 0)) := by
  rw [s_sumUpTo h ht, ub_split hS ht]
theorem s_undoSums (hS : St b n) (h : OR M q1 n b) (hq : (q1 ≠ q + 1 ∧ q1 + 1 ≠ q + 1) ∧ q1 + 2 ≠ q + 1) {t : Nat} (ht : t < n) : ∃ r, f_X2_undoSums M q q1 (iN t) = some r ∧ (r.1 = M (q1 + 2) t ∧ Fr M r.2 [q + 1]) := by
  have h9 := h.le
  refine lp_to (fun j a => j ≤ n ∧ a.1 = SI j (fun l => if ub b l t then SI n (fun k => if ub b k l then M (q1 + 2) k else 0) * MU b n l t else 0) ∧ a.2.1 = iN j ∧ Fr M a.2.2 [q + 1]) n (FU_lt h9) ⟨by omega, rfl, rfl, Fr.refl _ _⟩ ?_
  rintro j ⟨a1, a2, M1⟩ ⟨hj, h1, h2, hf⟩
  dsimp only at h1 h2 hf
  subst h1 h2
  have h' : OR M1 q1 n b := h.same (hf q1 (by simp [hq.1.1])) (hf (q1 + 1) (by simpa using hq.1.2))
  rcases Nat.lt_or_ge j n with hl | hl
  · left
    refine ⟨hl, ?_⟩
    obtain ⟨M2, e2, hf2, hv2⟩ := s_fillFrom hS h' hq.1 hl
    have hvt := hv2 t ht
    have h'' : OR M2 q1 n b := h'.same (hf2 q1 (by simp [hq.1.1])) (hf2 (q1 + 1) (by simpa using hq.1.2))
    have hval : ∀ k, M2 (q1 + 2) k = M (q1 + 2) k := fun k => by rw [hf2 (q1 + 2) (by simpa using hq.2), hf (q1 + 2) (by simpa using hq.2)]
    have hsu := s_sumUpTo' hS h'' hl
    simp only [hval] at hsu
    by_cases e : j = t
    · refine ⟨(SI (j + 1) (fun l => if ub b l t then SI n (fun k => if ub b k l then M (q1 + 2) k else 0) * MU b n l t else 0), iN (j + 1), M2), ⟨hl, rfl, rfl, hf.trans hf2⟩, fun k => ?_⟩
      subst e
      have hu : ub b j j = true := by simp [ub]
      simp (disch := omega) only [g_X2_undoSums_L5, h'.n, if_neg (show ¬ n ≤ j by omega), f_X2_undoSums_L30, e2, hsu, hvt, SI, hu, iN_le, iN_lt, chk_inb, chk_t, clamp_iN, bd_some, iN_add, iN_s, iN_and, iN_or, iN_shl, e10, e01, e00, bI_0, bI_1, bI_t, bI_f, has_iN, bitc, within_iN, mk_or1, xhas_iN, add_z, if_true, if_false, ite_true, ite_false, reduceCtorEq, Bool.false_eq_true, Bool.true_and, Bool.false_and, Bool.and_true, Bool.and_false, Bool.not_true, Bool.not_false]
    · have e1 : (iN j = iN t) = False := by rw [iN_eq (by omega) (by omega)]; exact eq_false e
      cases hb : (b t).testBit j
      · have hu : ub b j t = false := by simp [ub, e, hb]
        refine ⟨(SI (j + 1) (fun l => if ub b l t then SI n (fun k => if ub b k l then M (q1 + 2) k else 0) * MU b n l t else 0), iN (j + 1), M1), ⟨hl, rfl, rfl, hf⟩, fun k => ?_⟩
        simp (disch := omega) only [g_X2_undoSums_L5, h'.n, if_neg (show ¬ n ≤ j by omega), e1, s_isBelow h', hb, SI, hu, Int32.add_zero, iN_le, iN_lt, chk_inb, chk_t, clamp_iN, bd_some, iN_add, iN_s, iN_and, iN_or, iN_shl, e10, e01, e00, bI_0, bI_1, bI_t, bI_f, has_iN, bitc, within_iN, mk_or1, xhas_iN, add_z, if_true, if_false, ite_true, ite_false, reduceCtorEq, Bool.false_eq_true, Bool.true_and, Bool.false_and, Bool.and_true, Bool.and_false, Bool.not_true, Bool.not_false]
      · have hu : ub b j t = true := by simp [ub, hb]
        refine ⟨(SI (j + 1) (fun l => if ub b l t then SI n (fun k => if ub b k l then M (q1 + 2) k else 0) * MU b n l t else 0), iN (j + 1), M2), ⟨hl, rfl, rfl, hf.trans hf2⟩, fun k => ?_⟩
        simp (disch := omega) only [g_X2_undoSums_L5, h'.n, if_neg (show ¬ n ≤ j by omega), f_X2_undoSums_L30, e1, s_isBelow h', hb, e2, hsu, hvt, SI, hu, iN_le, iN_lt, chk_inb, chk_t, clamp_iN, bd_some, iN_add, iN_s, iN_and, iN_or, iN_shl, e10, e01, e00, bI_0, bI_1, bI_t, bI_f, has_iN, bitc, within_iN, mk_or1, xhas_iN, add_z, if_true, if_false, ite_true, ite_false, reduceCtorEq, Bool.false_eq_true, Bool.true_and, Bool.false_and, Bool.and_true, Bool.and_false, Bool.not_true, Bool.not_false]
  · right
    have e : j = n := by omega
    subst e
    refine ⟨(M (q1 + 2) t, M1), ⟨rfl, hf⟩, fun k => ?_⟩
    simp (disch := omega) only [g_X2_undoSums_L5, h'.n, if_pos (Nat.le_refl j), un_sum hS (M (q1 + 2)) ht, iN_le, iN_lt, chk_inb, chk_t, clamp_iN, bd_some, iN_add, iN_s, iN_and, iN_or, iN_shl, e10, e01, e00, bI_0, bI_1, bI_t, bI_f, has_iN, bitc, within_iN, mk_or1, xhas_iN, add_z, if_true, if_false, ite_true, ite_false, reduceCtorEq, Bool.false_eq_true, Bool.true_and, Bool.false_and, Bool.and_true, Bool.and_false, Bool.not_true, Bool.not_false]
/-- together 0 -/
theorem MU_van (hS : St b n) {l t : Nat} (hl : l < n) (ht : t < n) (hb : (b t).testBit l = true) : MU b n l l + MU b n l t + SI n (fun k => if (b k).testBit l && (b t).testBit k then MU b n l k else 0) = 0 := by
  have hlt : l ≠ t := fun e => by rw [e, hS.2.2.1 t ht] at hb; cases hb
  have e1 := MU_r hS hl ht
  rw [if_neg hlt, ub_split hS ht] at e1
  have e2 : SI n (fun k => if (b t).testBit k then MU b n l k else 0) = MU b n l l + SI n (fun k => if (b k).testBit l && (b t).testBit k then MU b n l k else 0) := by
    rw [← SI_one hl (fun k => MU b n l k), ← SI_add]
    refine SI_congr (fun k hk => ?_)
    by_cases e : k = l
    · subst e; rw [hb, hS.2.2.1 k hk]; simp
    · cases hbk : (b k).testBit l
      · simp [e, MU_0 hS 10 k hk (by have := pc_le (b k); omega) e hbk]
      · simp [e]
  rw [e2, ← Int32.add_assoc, Int32.add_comm (MU b n l t)] at e1
  exact e1
theorem s_vanishFrom (hS : St b n) (h : OR M q1 n b) (hq : q1 ≠ q + 1 ∧ q1 + 1 ≠ q + 1) {l : Nat} (hl : l < n) : ∃ r, f_X2_vanishFrom M q q1 (iN l) = some r ∧ (r.1 = 1 ∧ Fr M r.2 [q + 1]) := by
  have h9 := h.le
  obtain ⟨M1, e, hf, hv⟩ := s_fillFrom hS h hq hl
  have h' : OR M1 q1 n b := h.same (hf q1 (by simp [hq.1])) (hf (q1 + 1) (by simpa using hq.2))
  unfold f_X2_vanishFrom
  rw [e, bd_some]
  refine ⟨(1, M1), ?_, rfl, hf⟩
  refine lp_for (fun j => iN j) n (FU_lt h9) ?_ ?_
  · intro j hj k
    cases hb : (b j).testBit l
    · simp (disch := omega) only [g_X2_vanishFrom_L8, h'.n, if_neg (show ¬ n ≤ j by omega), s_isBelow h', hb, iN_le, iN_lt, chk_inb, chk_t, clamp_iN, bd_some, iN_add, iN_s, iN_and, iN_or, iN_shl, e10, e01, e00, bI_0, bI_1, bI_t, bI_f, has_iN, bitc, within_iN, mk_or1, xhas_iN, add_z, if_true, if_false, ite_true, ite_false, reduceCtorEq, Bool.false_eq_true, Bool.true_and, Bool.false_and, Bool.and_true, Bool.and_false, Bool.not_true, Bool.not_false]
    · simp (disch := omega) only [g_X2_vanishFrom_L8, h'.n, if_neg (show ¬ n ≤ j by omega), s_isBelow h', hb, hv l hl, hv j hj, iN_le, iN_lt, chk_inb, chk_t, clamp_iN, bd_some, iN_add, iN_s, iN_and, iN_or, iN_shl, e10, e01, e00, bI_0, bI_1, bI_t, bI_f, has_iN, bitc, within_iN, mk_or1, xhas_iN, add_z, if_true, if_false, ite_true, ite_false, reduceCtorEq, Bool.false_eq_true, Bool.true_and, Bool.false_and, Bool.and_true, Bool.and_false, Bool.not_true, Bool.not_false]
      have e0 : (MU b n l l + MU b n l j, (0 : Int32)) = (fun i => (MU b n l l + MU b n l j + SI i (fun k => if (b k).testBit l && (b j).testBit k then MU b n l k else 0), iN i)) 0 := by
        simp only [SI, Int32.add_zero]; rfl
      rw [e0]
      refine lp_for (fun i => (MU b n l l + MU b n l j + SI i (fun k => if (b k).testBit l && (b j).testBit k then MU b n l k else 0), iN i)) n (FU_lt h9) ?_ ?_
      · intro i hi f
        cases h1 : (b i).testBit l
        · simp (disch := omega) only [g_X2_vanishFrom_L43, h'.n, if_neg (show ¬ n ≤ i by omega), s_isBelow h', h1, SI, Int32.add_zero, iN_le, iN_lt, chk_inb, chk_t, clamp_iN, bd_some, iN_add, iN_s, iN_and, iN_or, iN_shl, e10, e01, e00, bI_0, bI_1, bI_t, bI_f, has_iN, bitc, within_iN, mk_or1, xhas_iN, add_z, if_true, if_false, ite_true, ite_false, reduceCtorEq, Bool.false_eq_true, Bool.true_and, Bool.false_and, Bool.and_true, Bool.and_false, Bool.not_true, Bool.not_false]
        · cases h2 : (b j).testBit i
          · simp (disch := omega) only [g_X2_vanishFrom_L43, h'.n, if_neg (show ¬ n ≤ i by omega), s_isBelow h', h1, h2, SI, Int32.add_zero, iN_le, iN_lt, chk_inb, chk_t, clamp_iN, bd_some, iN_add, iN_s, iN_and, iN_or, iN_shl, e10, e01, e00, bI_0, bI_1, bI_t, bI_f, has_iN, bitc, within_iN, mk_or1, xhas_iN, add_z, if_true, if_false, ite_true, ite_false, reduceCtorEq, Bool.false_eq_true, Bool.true_and, Bool.false_and, Bool.and_true, Bool.and_false, Bool.not_true, Bool.not_false]
          · simp (disch := omega) only [g_X2_vanishFrom_L43, h'.n, if_neg (show ¬ n ≤ i by omega), s_isBelow h', h1, h2, SI, hv i hi, Int32.add_assoc, iN_le, iN_lt, chk_inb, chk_t, clamp_iN, bd_some, iN_add, iN_s, iN_and, iN_or, iN_shl, e10, e01, e00, bI_0, bI_1, bI_t, bI_f, has_iN, bitc, within_iN, mk_or1, xhas_iN, add_z, if_true, if_false, ite_true, ite_false, reduceCtorEq, Bool.false_eq_true, Bool.true_and, Bool.false_and, Bool.and_true, Bool.and_false, Bool.not_true, Bool.not_false]
      · intro f
        simp (disch := omega) only [g_X2_vanishFrom_L43, h'.n, if_pos (Nat.le_refl n), MU_van hS hl hj hb, iN_le, iN_lt, chk_inb, chk_t, clamp_iN, bd_some, iN_add, iN_s, iN_and, iN_or, iN_shl, e10, e01, e00, bI_0, bI_1, bI_t, bI_f, has_iN, bitc, within_iN, mk_or1, xhas_iN, add_z, if_true, if_false, ite_true, ite_false, reduceCtorEq, Bool.false_eq_true, Bool.true_and, Bool.false_and, Bool.and_true, Bool.and_false, Bool.not_true, Bool.not_false]
  · intro k
    simp (disch := omega) only [g_X2_vanishFrom_L8, h'.n, if_pos (Nat.le_refl n), iN_le, iN_lt, chk_inb, chk_t, clamp_iN, bd_some, iN_add, iN_s, iN_and, iN_or, iN_shl, e10, e01, e00, bI_0, bI_1, bI_t, bI_f, has_iN, bitc, within_iN, mk_or1, xhas_iN, add_z, if_true, if_false, ite_true, ite_false, reduceCtorEq, Bool.false_eq_true, Bool.true_and, Bool.false_and, Bool.and_true, Bool.and_false, Bool.not_true, Bool.not_false]
/-- the last of the theorem's looks on the NUMBERS -/
theorem s_sumsAreUndone (hS : St b n) (h : OR M q1 n b) (hq : (q1 ≠ 45 ∧ q1 + 1 ≠ 45) ∧ q1 + 2 ≠ 45) : ∃ r, f_X5_sumsAreUndone M q1 = some r ∧ (r.1 = 1 ∧ Fr M r.2 [45]) := by
  have h9 := h.le
  refine lp_to (fun j a => j ≤ n ∧ a.1 = iN j ∧ Fr M a.2 [45]) n (FU_lt h9) ⟨by omega, rfl, Fr.refl _ _⟩ ?_
  rintro j ⟨a1, M1⟩ ⟨hj, h1, hf⟩
  dsimp only at h1 hf
  subst h1
  have h' : OR M1 q1 n b := h.same (hf q1 (by simp [hq.1.1])) (hf (q1 + 1) (by simpa using hq.1.2))
  rcases Nat.lt_or_ge j n with hl | hl
  · left
    obtain ⟨⟨r1, M2⟩, e2, hr1, hf2⟩ := s_undoSums (q := 44) hS h' hq hl
    dsimp only at hr1 hf2
    subst hr1
    have h'' : OR M2 q1 n b := h'.same (hf2 q1 (by simp [hq.1.1])) (hf2 (q1 + 1) (by simpa using hq.1.2))
    obtain ⟨⟨r2, M3⟩, e3, hr2, hf3⟩ := s_vanishFrom (q := 44) hS h'' hq.1 hl
    dsimp only at hr2 hf3
    subst hr2
    have hval : M2 (q1 + 2) j = M1 (q1 + 2) j := by rw [hf2 (q1 + 2) (by simpa using hq.2)]
    refine ⟨hl, (iN (j + 1), M3), ⟨hl, rfl, (hf.trans hf2).trans hf3⟩, fun k => ?_⟩
    simp (disch := omega) only [g_X5_sumsAreUndone_L2, h'.n, if_neg (show ¬ n ≤ j by omega), e2, hval, e3, iN_le, iN_lt, chk_inb, chk_t, clamp_iN, bd_some, iN_add, iN_s, iN_and, iN_or, iN_shl, e10, e01, e00, bI_0, bI_1, bI_t, bI_f, has_iN, bitc, within_iN, mk_or1, xhas_iN, add_z, if_true, if_false, ite_true, ite_false, reduceCtorEq, Bool.false_eq_true, Bool.true_and, Bool.false_and, Bool.and_true, Bool.and_false, Bool.not_true, Bool.not_false]
  · right
    refine ⟨(1, M1), ⟨rfl, hf⟩, fun k => ?_⟩
    simp (disch := omega) only [g_X5_sumsAreUndone_L2, h'.n, if_pos hl, iN_le, iN_lt, chk_inb, chk_t, clamp_iN, bd_some, iN_add, iN_s, iN_and, iN_or, iN_shl, e10, e01, e00, bI_0, bI_1, bI_t, bI_f, has_iN, bitc, within_iN, mk_or1, xhas_iN, add_z, if_true, if_false, ite_true, ite_false, reduceCtorEq, Bool.false_eq_true, Bool.true_and, Bool.false_and, Bool.and_true, Bool.and_false, Bool.not_true, Bool.not_false]
end RT
