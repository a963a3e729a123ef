/-! ===== the reference's own loops in its answers ===== -/
theorem scrL {l : List Nat} (h : l.all (fun a => decide (a < 2) || (decide (14 ≤ a) && decide (a < 48)) || decide (a = 54) || decide (96 ≤ a)) = true) : ∀ a ∈ l, scr a := by
  intro a ha
  have := List.all_eq_true.mp h a ha
  simp only [Bool.or_eq_true, Bool.and_eq_true, decide_eq_true_eq] at this
  unfold scr; omega
theorem cd_fr {M M' : Mem} {x : Int32} {c : List Nat} (hf : Fr (upM M 47 3 x) M' c) (h : 47 ∉ c) : M' 47 3 = x := by
  rw [hf 47 h]; exact upM_eq
section OO
variable {M : Mem} {o n : Nat} {b : Nat → Nat}
theorem t_nexts (h : MR M o n b) : f_X7_nexts_L18 M (iN o) FU (0, 0) = some (iN (S n fun k => ct n fun j => nx b n k j), M) := by
  have ho := h.o
  have h9 := h.le
  refine lp_for (fun k => (iN (S k fun k => ct n fun j => nx b n k j), iN k)) n (FU_lt h9) ?_ ?_
  · intro k hk f
    simp (disch := omega) only [g_X7_nexts_L18, h.n, if_neg (show ¬ n ≤ k by omega), iN_le, iN_lt, chk_inb, chk_t, clamp_iN, bd_some, iN_add, iN_s, iN_and, iN_or, iN_shl, e10, e01, e00, bI_0, bI_1, bI_t, bI_f, has_iN, bitc, within_iN, mk_or1, xhas_iN, add_z, if_true, if_false, ite_true, ite_false, reduceCtorEq, Bool.false_eq_true, Bool.true_and, Bool.false_and, Bool.and_true, Bool.and_false, Bool.not_true, Bool.not_false]
    refine lp_for (fun j => (iN ((S k fun k => ct n fun j => nx b n k j) + ct j fun j => nx b n k j), iN j)) n (FU_lt h9) ?_ ?_
    · intro j hj g
      cases hx : nx b n k j
      · simp (disch := omega) only [g_X7_nexts_L31, h.n, if_neg (show ¬ n ≤ j by omega), t_next h hk hj, hx, ct_s, Bool.toNat_false, Nat.add_zero, iN_le, iN_lt, chk_inb, chk_t, clamp_iN, bd_some, iN_add, iN_s, iN_and, iN_or, iN_shl, e10, e01, e00, bI_0, bI_1, bI_t, bI_f, has_iN, bitc, within_iN, mk_or1, xhas_iN, add_z, if_true, if_false, ite_true, ite_false, reduceCtorEq, Bool.false_eq_true, Bool.true_and, Bool.false_and, Bool.and_true, Bool.and_false, Bool.not_true, Bool.not_false]
      · simp (disch := omega) only [g_X7_nexts_L31, h.n, if_neg (show ¬ n ≤ j by omega), t_next h hk hj, hx, ct_s, Bool.toNat_true, ← Nat.add_assoc, iN_le, iN_lt, chk_inb, chk_t, clamp_iN, bd_some, iN_add, iN_s, iN_and, iN_or, iN_shl, e10, e01, e00, bI_0, bI_1, bI_t, bI_f, has_iN, bitc, within_iN, mk_or1, xhas_iN, add_z, if_true, if_false, ite_true, ite_false, reduceCtorEq, Bool.false_eq_true, Bool.true_and, Bool.false_and, Bool.and_true, Bool.and_false, Bool.not_true, Bool.not_false]
    · intro g
      simp (disch := omega) only [g_X7_nexts_L31, h.n, if_pos (Nat.le_refl n), S, iN_le, iN_lt, chk_inb, chk_t, clamp_iN, bd_some, iN_add, iN_s, iN_and, iN_or, iN_shl, e10, e01, e00, bI_0, bI_1, bI_t, bI_f, has_iN, bitc, within_iN, mk_or1, xhas_iN, add_z, if_true, if_false, ite_true, ite_false, reduceCtorEq, Bool.false_eq_true, Bool.true_and, Bool.false_and, Bool.and_true, Bool.and_false, Bool.not_true, Bool.not_false]
  · intro f
    simp (disch := omega) only [g_X7_nexts_L18, h.n, if_pos (Nat.le_refl n), iN_le, iN_lt, chk_inb, chk_t, clamp_iN, bd_some, iN_add, iN_s, iN_and, iN_or, iN_shl, e10, e01, e00, bI_0, bI_1, bI_t, bI_f, has_iN, bitc, within_iN, mk_or1, xhas_iN, add_z, if_true, if_false, ite_true, ite_false, reduceCtorEq, Bool.false_eq_true, Bool.true_and, Bool.false_and, Bool.and_true, Bool.and_false, Bool.not_true, Bool.not_false]
theorem nexts_eq (hS : St b n) : (S n fun k => pc (gr b n (b k))) = S n fun k => ct n fun j => nx b n k j := by
  have hn := hS.1
  have e : (S n fun k => ct n fun j => nx b n k j) = S n fun j => ct n fun k => nx b n k j := by
    unfold ct; exact S_comm
  rw [e]
  refine S_congr (fun j hj => ?_)
  rw [pc_ct (gr_lt (hS.2.1 j hj)) hn]
  refine ct_congr (fun k hk => ?_)
  rw [Bool.eq_iff_iff, gr_iff hS.2.1 hn (hS.2.1 j hj)]
  unfold nx
  rw [Bool.and_eq_true, al_iff]
  constructor
  · rintro ⟨h1, h2⟩
    refine ⟨h1, fun i hi => ?_⟩
    cases h3 : (b j).testBit i
    · simp
    · rw [h2 i hi h3]; rfl
  · rintro ⟨h1, h2⟩
    refine ⟨h1, fun i hi h3 => ?_⟩
    have := h2 i hi
    rw [h3] at this
    simpa using this
theorem mk_0 {n : Nat} {p : Nat → Bool} : mk n p = 0 ↔ ∀ k < n, p k = false := by
  constructor
  · intro h k hk
    have := mk_bit n p k
    rw [h] at this
    simpa [hk] using this.symm
  · intro h
    exact set_ext (mk_lt n p) (Nat.two_pow_pos n) (fun k hk => by rw [mk_bit, h k hk]; simp)
theorem iN_z {a : Nat} (ha : a < 2 ^ 31) : (iN a = 0) = (a = 0) := iN_ne0 ha
theorem t_ends (h : MR M o n b) (c : Bool) : f_X7_ends_L19 M (iN o) (bI c) FU (0, 0) = some (iN (mk n fun k => decide ((if c then mk n (fun i => (b i).testBit k) else b k) = 0)), M) := by
  have ho := h.o
  have h9 := h.le
  have h8 := p2_le h9
  refine lp_for (fun j => (iN (mk j fun k => decide ((if c then mk n (fun i => (b i).testBit k) else b k) = 0)), iN j)) n (FU_lt h9) ?_ ?_
  · intro j hj k
    cases c
    · have hb := h.lt9 hj
      simp only [Bool.false_eq_true, if_false]
      by_cases e : b j = 0
      · simp (disch := omega) only [g_X7_ends_L19, h.n, if_neg (show ¬ n ≤ j by omega), t_lowerOf h hj, iN_z, e, decide_true, mk, iN_le, iN_lt, chk_inb, chk_t, clamp_iN, bd_some, iN_add, iN_s, iN_and, iN_or, iN_shl, e10, e01, e00, bI_0, bI_1, bI_t, bI_f, has_iN, bitc, within_iN, mk_or1, xhas_iN, add_z, if_true, if_false, ite_true, ite_false, reduceCtorEq, Bool.false_eq_true, Bool.true_and, Bool.false_and, Bool.and_true, Bool.and_false, Bool.not_true, Bool.not_false]
      · simp (disch := omega) only [g_X7_ends_L19, h.n, if_neg (show ¬ n ≤ j by omega), t_lowerOf h hj, iN_z, e, decide_false, mk, Nat.add_zero, iN_le, iN_lt, chk_inb, chk_t, clamp_iN, bd_some, iN_add, iN_s, iN_and, iN_or, iN_shl, e10, e01, e00, bI_0, bI_1, bI_t, bI_f, has_iN, bitc, within_iN, mk_or1, xhas_iN, add_z, if_true, if_false, ite_true, ite_false, reduceCtorEq, Bool.false_eq_true, Bool.true_and, Bool.false_and, Bool.and_true, Bool.and_false, Bool.not_true, Bool.not_false]
    · have hb := mk_lt n (fun i => (b i).testBit j)
      simp only [if_true]
      by_cases e : mk n (fun i => (b i).testBit j) = 0
      · simp (disch := omega) only [g_X7_ends_L19, h.n, if_neg (show ¬ n ≤ j by omega), t_upperOf h hj, iN_z, e, decide_true, mk, iN_le, iN_lt, chk_inb, chk_t, clamp_iN, bd_some, iN_add, iN_s, iN_and, iN_or, iN_shl, e10, e01, e00, bI_0, bI_1, bI_t, bI_f, has_iN, bitc, within_iN, mk_or1, xhas_iN, add_z, if_true, if_false, ite_true, ite_false, reduceCtorEq, Bool.false_eq_true, Bool.true_and, Bool.false_and, Bool.and_true, Bool.and_false, Bool.not_true, Bool.not_false]
      · simp (disch := omega) only [g_X7_ends_L19, h.n, if_neg (show ¬ n ≤ j by omega), t_upperOf h hj, iN_z, e, decide_false, mk, Nat.add_zero, iN_le, iN_lt, chk_inb, chk_t, clamp_iN, bd_some, iN_add, iN_s, iN_and, iN_or, iN_shl, e10, e01, e00, bI_0, bI_1, bI_t, bI_f, has_iN, bitc, within_iN, mk_or1, xhas_iN, add_z, if_true, if_false, ite_true, ite_false, reduceCtorEq, Bool.false_eq_true, Bool.true_and, Bool.false_and, Bool.and_true, Bool.and_false, Bool.not_true, Bool.not_false]
  · intro k
    simp (disch := omega) only [g_X7_ends_L19, h.n, if_pos (Nat.le_refl n), iN_le, iN_lt, chk_inb, chk_t, clamp_iN, bd_some, iN_add, iN_s, iN_and, iN_or, iN_shl, e10, e01, e00, bI_0, bI_1, bI_t, bI_f, has_iN, bitc, within_iN, mk_or1, xhas_iN, add_z, if_true, if_false, ite_true, ite_false, reduceCtorEq, Bool.false_eq_true, Bool.true_and, Bool.false_and, Bool.and_true, Bool.and_false, Bool.not_true, Bool.not_false]
theorem ends_gr (hS : St b n) : gr b n (2 ^ n - 1) = mk n fun k => decide ((if true then mk n (fun i => (b i).testBit k) else b k) = 0) := by
  refine mk_eq (gr_lt all_lt) (fun k hk => ?_)
  rw [Bool.eq_iff_iff, gr_iff hS.2.1 hS.1 all_lt, if_pos rfl, decide_eq_true_eq, mk_0]
  constructor
  · intro h i hi
    exact h.2 i hi (by rw [all_bit]; simp [hi])
  · intro h
    exact ⟨by rw [all_bit]; simp [hk], fun i hi _ => h i hi⟩
theorem ends_ls (hS : St b n) : ls b n (2 ^ n - 1) = mk n fun k => decide ((if false then mk n (fun i => (b i).testBit k) else b k) = 0) := by
  refine mk_congr (fun k hk => ?_)
  rw [all_bit, decide_eq_true hk, Bool.true_and]
  have hb := hS.2.1 k hk
  unfold no
  have : b k &&& (2 ^ n - 1) = b k := (and_self_iff hb hS.1).mpr (sb_all hb hS.1)
  rw [this]
  simp
theorem t_aparts (h : MR M o n b) : f_X7_aparts_L18 M (iN o) FU (0, 0) = some (iN (ct (2 ^ n) fun s => ia b n s false), M) := by
  have ho := h.o
  have h9 := h.le
  have h8 := p2_le h9
  have hia : ∀ s, s < 512 → f_X7_isAll M (iN o) (iN s) 0 = some (bI (ia b n s false)) := fun s hs => t_isAll h hs false
  refine lp_for (fun j => (iN (ct j fun s => ia b n s false), iN j)) (2 ^ n) (FU_lt2 h8) ?_ ?_
  · intro j hj k
    cases hc : ia b n j false
    · simp (disch := omega) only [g_X7_aparts_L18, h.n, if_neg (show ¬ 2 ^ n ≤ j by omega), ct_s, hc, hia j (by omega), Bool.toNat_false, Nat.add_zero, iN_le, iN_lt, chk_inb, chk_t, clamp_iN, bd_some, iN_add, iN_s, iN_and, iN_or, iN_shl, e10, e01, e00, bI_0, bI_1, bI_t, bI_f, has_iN, bitc, within_iN, mk_or1, xhas_iN, add_z, if_true, if_false, ite_true, ite_false, reduceCtorEq, Bool.false_eq_true, Bool.true_and, Bool.false_and, Bool.and_true, Bool.and_false, Bool.not_true, Bool.not_false]
    · simp (disch := omega) only [g_X7_aparts_L18, h.n, if_neg (show ¬ 2 ^ n ≤ j by omega), ct_s, hc, hia j (by omega), Bool.toNat_true, iN_le, iN_lt, chk_inb, chk_t, clamp_iN, bd_some, iN_add, iN_s, iN_and, iN_or, iN_shl, e10, e01, e00, bI_0, bI_1, bI_t, bI_f, has_iN, bitc, within_iN, mk_or1, xhas_iN, add_z, if_true, if_false, ite_true, ite_false, reduceCtorEq, Bool.false_eq_true, Bool.true_and, Bool.false_and, Bool.and_true, Bool.and_false, Bool.not_true, Bool.not_false]
  · intro k
    simp (disch := omega) only [g_X7_aparts_L18, h.n, if_pos (Nat.le_refl (2 ^ n)), iN_le, iN_lt, chk_inb, chk_t, clamp_iN, bd_some, iN_add, iN_s, iN_and, iN_or, iN_shl, e10, e01, e00, bI_0, bI_1, bI_t, bI_f, has_iN, bitc, within_iN, mk_or1, xhas_iN, add_z, if_true, if_false, ite_true, ite_false, reduceCtorEq, Bool.false_eq_true, Bool.true_and, Bool.false_and, Bool.and_true, Bool.and_false, Bool.not_true, Bool.not_false]
theorem t_isSame (h : MR M o n b) {o' : Nat} {b' : Nat → Nat} (h' : MR M o' n b') (g : Bool) : f_X7_isSame_L53 M (iN o) (iN o') FU (bI g, 0) = some (bI (g && al n fun k => al n fun j => (b j).testBit k == (b' j).testBit k), M) := by
  have ho := h.o
  have ho' := h'.o
  have h9 := h.le
  have e0 : (bI g, (0 : Int32)) = (fun k => (bI (g && al k fun k => al n fun j => (b j).testBit k == (b' j).testBit k), iN k)) 0 := by
    simp only [al, Bool.and_true]; rfl
  rw [e0]
  refine lp_for (fun k => (bI (g && al k fun k => al n fun j => (b j).testBit k == (b' j).testBit k), iN k)) n (FU_lt h9) ?_ ?_
  · intro k hk f
    simp (disch := omega) only [g_X7_isSame_L53, h.n, if_neg (show ¬ n ≤ k by omega), iN_le, iN_lt, chk_inb, chk_t, clamp_iN, bd_some, iN_add, iN_s, iN_and, iN_or, iN_shl, e10, e01, e00, bI_0, bI_1, bI_t, bI_f, has_iN, bitc, within_iN, mk_or1, xhas_iN, add_z, if_true, if_false, ite_true, ite_false, reduceCtorEq, Bool.false_eq_true, Bool.true_and, Bool.false_and, Bool.and_true, Bool.and_false, Bool.not_true, Bool.not_false]
    generalize hg : (g && al k fun k => al n fun j => (b j).testBit k == (b' j).testBit k) = g1
    have e2 : (g && al (k + 1) fun k => al n fun j => (b j).testBit k == (b' j).testBit k) = (g1 && al n fun j => (b j).testBit k == (b' j).testBit k) := by rw [← hg, al, Bool.and_assoc]
    rw [e2]
    have e1 : (bI g1, (0 : Int32)) = (fun j => (bI (g1 && al j fun j => (b j).testBit k == (b' j).testBit k), iN j)) 0 := by
      simp only [al, Bool.and_true]; rfl
    rw [e1]
    refine lp_for (fun j => (bI (g1 && al j fun j => (b j).testBit k == (b' j).testBit k), iN j)) n (FU_lt h9) ?_ ?_
    · intro j hj f
      have e3 : (g1 && al (j + 1) fun j => (b j).testBit k == (b' j).testBit k) = ((g1 && al j fun j => (b j).testBit k == (b' j).testBit k) && ((b j).testBit k == (b' j).testBit k)) := by rw [al, Bool.and_assoc]
      rw [e3]
      cases hx : (g1 && al j fun j => (b j).testBit k == (b' j).testBit k)
      · simp (disch := omega) only [g_X7_isSame_L67, h.n, if_neg (show ¬ n ≤ j by omega), hx, iN_le, iN_lt, chk_inb, chk_t, clamp_iN, bd_some, iN_add, iN_s, iN_and, iN_or, iN_shl, e10, e01, e00, bI_0, bI_1, bI_t, bI_f, has_iN, bitc, within_iN, mk_or1, xhas_iN, add_z, if_true, if_false, ite_true, ite_false, reduceCtorEq, Bool.false_eq_true, Bool.true_and, Bool.false_and, Bool.and_true, Bool.and_false, Bool.not_true, Bool.not_false]
      · have c1 := h.b hj hk
        have c2 := h'.b hj hk
        cases x1 : (b j).testBit k <;> cases x2 : (b' j).testBit k <;> rw [x1] at c1 <;> rw [x2] at c2 <;> simp (disch := omega) only [g_X7_isSame_L67, h.n, if_neg (show ¬ n ≤ j by omega), hx, c1, c2, e01, beq_self_eq_true, iN_le, iN_lt, chk_inb, chk_t, clamp_iN, bd_some, iN_add, iN_s, iN_and, iN_or, iN_shl, e10, e01, e00, bI_0, bI_1, bI_t, bI_f, has_iN, bitc, within_iN, mk_or1, xhas_iN, add_z, if_true, if_false, ite_true, ite_false, reduceCtorEq, Bool.false_eq_true, Bool.true_and, Bool.false_and, Bool.and_true, Bool.and_false, Bool.not_true, Bool.not_false] <;> rfl
    · intro f
      simp (disch := omega) only [g_X7_isSame_L67, h.n, if_pos (Nat.le_refl n), iN_le, iN_lt, chk_inb, chk_t, clamp_iN, bd_some, iN_add, iN_s, iN_and, iN_or, iN_shl, e10, e01, e00, bI_0, bI_1, bI_t, bI_f, has_iN, bitc, within_iN, mk_or1, xhas_iN, add_z, if_true, if_false, ite_true, ite_false, reduceCtorEq, Bool.false_eq_true, Bool.true_and, Bool.false_and, Bool.and_true, Bool.and_false, Bool.not_true, Bool.not_false]
  · intro f
    simp (disch := omega) only [g_X7_isSame_L53, h.n, if_pos (Nat.le_refl n), isb_bI, iN_le, iN_lt, chk_inb, chk_t, clamp_iN, bd_some, iN_add, iN_s, iN_and, iN_or, iN_shl, e10, e01, e00, bI_0, bI_1, bI_t, bI_f, has_iN, bitc, within_iN, mk_or1, xhas_iN, add_z, if_true, if_false, ite_true, ite_false, reduceCtorEq, Bool.false_eq_true, Bool.true_and, Bool.false_and, Bool.and_true, Bool.and_false, Bool.not_true, Bool.not_false]
theorem t_inner (h : MR M o n b) (hS : St b n) {s : Nat} (hs : s < 2 ^ n) : f_X7_inner_L33 M (iN o) (iN s) FU (0, 0) = some (iN (mk n fun k => s.testBit k && sb (b k) s), M) := by
  have ho := h.o
  have h9 := h.le
  have h8 := p2_le h9
  refine lp_for (fun j => (iN (mk j fun k => s.testBit k && sb (b k) s), iN j)) n (FU_lt h9) ?_ ?_
  · intro j hj k
    have hb := hS.2.1 j hj
    have hpl := plus_lt hb hj (hS.2.2.1 j hj)
    have hand : (b j + 2 ^ j) &&& s < 512 := and_lt9 (by omega)
    have e1 : ((iN (b j + 2 ^ j) &&& iN s) = iN (b j + 2 ^ j)) = ((s.testBit j && sb (b j) s) = true) := by
      rw [iN_and, iN_eq (by omega) (by omega)]
      apply propext
      rw [and_self_iff hpl h9, sb_iff hpl h9, Bool.and_eq_true, sb_iff hb h9]
      constructor
      · intro H
        refine ⟨H j hj (by rw [plus_bit hb hj (hS.2.2.1 j hj)]; simp), fun i hi hbi => H i hi (by rw [plus_bit hb hj (hS.2.2.1 j hj), hbi]; rfl)⟩
      · rintro ⟨H1, H2⟩ i hi hbi
        rw [plus_bit hb hj (hS.2.2.1 j hj), Bool.or_eq_true, decide_eq_true_eq] at hbi
        rcases hbi with hbi | hbi
        · exact H2 i hi hbi
        · rw [hbi]; exact H1
    have e2 : iN (b j) + iN (2 ^ j) = iN (b j + 2 ^ j) := iN_add _ _
    unfold f_X7_lowerOf at *
    have hlo := t_lowerOf h hj
    unfold f_X7_lowerOf at hlo
    cases hx : (s.testBit j && sb (b j) s)
    · rw [hx] at e1
      simp (disch := omega) only [g_X7_inner_L33, chk_inb, clamp_iN, h.n, iN_le, if_neg (show ¬ n ≤ j by omega), f_X7_lowerOf, hlo, bd_some, iN_shl, e2, e1, Bool.false_eq_true, if_false, mk, hx, Nat.add_zero, add_z, iN_s]
    · rw [hx] at e1
      simp (disch := omega) only [g_X7_inner_L33, chk_inb, clamp_iN, h.n, iN_le, if_neg (show ¬ n ≤ j by omega), f_X7_lowerOf, hlo, bd_some, iN_shl, e2, e1, if_true, mk, hx, iN_add, iN_s]
  · intro k
    simp (disch := omega) only [g_X7_inner_L33, h.n, if_pos (Nat.le_refl n), iN_le, iN_lt, chk_inb, chk_t, clamp_iN, bd_some, iN_add, iN_s, iN_and, iN_or, iN_shl, e10, e01, e00, bI_0, bI_1, bI_t, bI_f, has_iN, bitc, within_iN, mk_or1, xhas_iN, add_z, if_true, if_false, ite_true, ite_false, reduceCtorEq, Bool.false_eq_true, Bool.true_and, Bool.false_and, Bool.and_true, Bool.and_false, Bool.not_true, Bool.not_false]
theorem t_tops (h : MR M o n b) (hS : St b n) {s : Nat} (hs : s < 2 ^ n) : f_X7_tops_L45 M (iN o) (iN s) FU (0, 0) = some (iN (gr b n s), M) := by
  have ho := h.o
  have h9 := h.le
  have h8 := p2_le h9
  have eg : gr b n s = mk n fun k => s.testBit k && no (mk n fun i => (b i).testBit k) s := by
    refine mk_eq (gr_lt hs) (fun k hk => ?_)
    rw [Bool.eq_iff_iff, gr_iff hS.2.1 h9 hs, Bool.and_eq_true, no_iff (mk_lt n _)]
    constructor
    · rintro ⟨h1, h2⟩
      refine ⟨h1, fun i hi h3 => ?_⟩
      rw [mk_bit] at h3
      have h3 : (b i).testBit k = true := by simpa [hi] using h3
      cases h4 : s.testBit i
      · rfl
      · rw [h2 i hi h4] at h3; cases h3
    · rintro ⟨h1, h2⟩
      refine ⟨h1, fun i hi h3 => ?_⟩
      cases h4 : (b i).testBit k
      · rfl
      · have := h2 i hi (by rw [mk_bit]; simp [hi, h4])
        rw [h3] at this; cases this
  rw [eg]
  refine lp_for (fun j => (iN (mk j fun k => s.testBit k && no (mk n fun i => (b i).testBit k) s), iN j)) n (FU_lt h9) ?_ ?_
  · intro j hj k
    have hu := mk_lt n (fun i => (b i).testBit j)
    cases h1 : s.testBit j
    · simp (disch := omega) only [g_X7_tops_L45, h.n, if_neg (show ¬ n ≤ j by omega), h1, mk, Nat.add_zero, iN_le, iN_lt, chk_inb, chk_t, clamp_iN, bd_some, iN_add, iN_s, iN_and, iN_or, iN_shl, e10, e01, e00, bI_0, bI_1, bI_t, bI_f, has_iN, bitc, within_iN, mk_or1, xhas_iN, add_z, if_true, if_false, ite_true, ite_false, reduceCtorEq, Bool.false_eq_true, Bool.true_and, Bool.false_and, Bool.and_true, Bool.and_false, Bool.not_true, Bool.not_false]
    · cases h2 : no (mk n fun i => (b i).testBit j) s
      · simp (disch := omega) only [g_X7_tops_L45, h.n, if_neg (show ¬ n ≤ j by omega), h1, mk, t_upperOf h hj, and_0, h2, Nat.add_zero, iN_le, iN_lt, chk_inb, chk_t, clamp_iN, bd_some, iN_add, iN_s, iN_and, iN_or, iN_shl, e10, e01, e00, bI_0, bI_1, bI_t, bI_f, has_iN, bitc, within_iN, mk_or1, xhas_iN, add_z, if_true, if_false, ite_true, ite_false, reduceCtorEq, Bool.false_eq_true, Bool.true_and, Bool.false_and, Bool.and_true, Bool.and_false, Bool.not_true, Bool.not_false]
      · simp (disch := omega) only [g_X7_tops_L45, h.n, if_neg (show ¬ n ≤ j by omega), h1, mk, t_upperOf h hj, and_0, h2, iN_le, iN_lt, chk_inb, chk_t, clamp_iN, bd_some, iN_add, iN_s, iN_and, iN_or, iN_shl, e10, e01, e00, bI_0, bI_1, bI_t, bI_f, has_iN, bitc, within_iN, mk_or1, xhas_iN, add_z, if_true, if_false, ite_true, ite_false, reduceCtorEq, Bool.false_eq_true, Bool.true_and, Bool.false_and, Bool.and_true, Bool.and_false, Bool.not_true, Bool.not_false]
  · intro k
    simp (disch := omega) only [g_X7_tops_L45, h.n, if_pos (Nat.le_refl n), iN_le, iN_lt, chk_inb, chk_t, clamp_iN, bd_some, iN_add, iN_s, iN_and, iN_or, iN_shl, e10, e01, e00, bI_0, bI_1, bI_t, bI_f, has_iN, bitc, within_iN, mk_or1, xhas_iN, add_z, if_true, if_false, ite_true, ite_false, reduceCtorEq, Bool.false_eq_true, Bool.true_and, Bool.false_and, Bool.and_true, Bool.and_false, Bool.not_true, Bool.not_false]
theorem t_shared (h : MR M o n b) {o' : Nat} {b' : Nat → Nat} (h' : MR M o' n b') : f_X7_shared_L52 M (iN o) (iN o') FU (0, 0) = some (iN (ct (2 ^ n) fun s => cl b n s && cl b' n s), M) := by
  have ho := h.o
  have ho' := h'.o
  have h9 := h.le
  have h8 := p2_le h9
  refine lp_for (fun j => (iN (ct j fun s => cl b n s && cl b' n s), iN j)) (2 ^ n) (FU_lt2 h8) ?_ ?_
  · intro j hj k
    cases h1 : cl b n j
    · simp (disch := omega) only [g_X7_shared_L52, h.n, if_neg (show ¬ 2 ^ n ≤ j by omega), ct_s, h1, t_isClosed h hj, Bool.toNat_false, Nat.add_zero, iN_le, iN_lt, chk_inb, chk_t, clamp_iN, bd_some, iN_add, iN_s, iN_and, iN_or, iN_shl, e10, e01, e00, bI_0, bI_1, bI_t, bI_f, has_iN, bitc, within_iN, mk_or1, xhas_iN, add_z, if_true, if_false, ite_true, ite_false, reduceCtorEq, Bool.false_eq_true, Bool.true_and, Bool.false_and, Bool.and_true, Bool.and_false, Bool.not_true, Bool.not_false]
    · cases h2 : cl b' n j
      · simp (disch := omega) only [g_X7_shared_L52, h.n, if_neg (show ¬ 2 ^ n ≤ j by omega), ct_s, h1, h2, t_isClosed h hj, t_isClosed h' hj, Bool.toNat_false, Nat.add_zero, iN_le, iN_lt, chk_inb, chk_t, clamp_iN, bd_some, iN_add, iN_s, iN_and, iN_or, iN_shl, e10, e01, e00, bI_0, bI_1, bI_t, bI_f, has_iN, bitc, within_iN, mk_or1, xhas_iN, add_z, if_true, if_false, ite_true, ite_false, reduceCtorEq, Bool.false_eq_true, Bool.true_and, Bool.false_and, Bool.and_true, Bool.and_false, Bool.not_true, Bool.not_false]
      · simp (disch := omega) only [g_X7_shared_L52, h.n, if_neg (show ¬ 2 ^ n ≤ j by omega), ct_s, h1, h2, t_isClosed h hj, t_isClosed h' hj, Bool.toNat_true, iN_le, iN_lt, chk_inb, chk_t, clamp_iN, bd_some, iN_add, iN_s, iN_and, iN_or, iN_shl, e10, e01, e00, bI_0, bI_1, bI_t, bI_f, has_iN, bitc, within_iN, mk_or1, xhas_iN, add_z, if_true, if_false, ite_true, ite_false, reduceCtorEq, Bool.false_eq_true, Bool.true_and, Bool.false_and, Bool.and_true, Bool.and_false, Bool.not_true, Bool.not_false]
  · intro k
    simp (disch := omega) only [g_X7_shared_L52, h.n, if_pos (Nat.le_refl (2 ^ n)), iN_le, iN_lt, chk_inb, chk_t, clamp_iN, bd_some, iN_add, iN_s, iN_and, iN_or, iN_shl, e10, e01, e00, bI_0, bI_1, bI_t, bI_f, has_iN, bitc, within_iN, mk_or1, xhas_iN, add_z, if_true, if_false, ite_true, ite_false, reduceCtorEq, Bool.false_eq_true, Bool.true_and, Bool.false_and, Bool.and_true, Bool.and_false, Bool.not_true, Bool.not_false]
theorem t_undone (h : MR M o n b) (hS : St b n) {t : Nat} (ht : t < n) : f_X7_undone_L21 M (iN o) (iN t) FU (0, 0) = some (M (50 + o) t, M) := by
  have ho := h.o
  have h9 := h.le
  have e := un_sum hS (M (50 + o)) ht
  rw [← e]
  refine lp_for (fun j => (SI j (fun l => if ub b l t then SI n (fun k => if ub b k l then M (50 + o) k else 0) * MU b n l t else 0), iN j)) n (FU_lt h9) ?_ ?_
  · intro j hj k
    have hsu : f_X7_sumOf M (iN o) (iN j) = some (SI n (fun k => if ub b k j then M (50 + o) k else 0)) := t_sumOf h hj
    have hnu := t_numberOf hS h hj RD t ht (by have := pc_le (b t); unfold RD; omega)
    cases hu : ub b j t
    · have hu' : (decide (j = t) || (b t).testBit j) = false := hu
      simp (disch := omega) only [g_X7_undone_L21, h.n, if_neg (show ¬ n ≤ j by omega), t_isUpTo h hj ht, hu', SI, hu, Int32.add_zero, iN_le, iN_lt, chk_inb, chk_t, clamp_iN, bd_some, iN_add, iN_s, iN_and, iN_or, iN_shl, e10, e01, e00, bI_0, bI_1, bI_t, bI_f, has_iN, bitc, within_iN, mk_or1, xhas_iN, add_z, if_true, if_false, ite_true, ite_false, reduceCtorEq, Bool.false_eq_true, Bool.true_and, Bool.false_and, Bool.and_true, Bool.and_false, Bool.not_true, Bool.not_false]
    · have hu' : (decide (j = t) || (b t).testBit j) = true := hu
      simp (disch := omega) only [g_X7_undone_L21, h.n, if_neg (show ¬ n ≤ j by omega), t_isUpTo h hj ht, hu', SI, hu, hsu, hnu, iN_le, iN_lt, chk_inb, chk_t, clamp_iN, bd_some, iN_add, iN_s, iN_and, iN_or, iN_shl, e10, e01, e00, bI_0, bI_1, bI_t, bI_f, has_iN, bitc, within_iN, mk_or1, xhas_iN, add_z, if_true, if_false, ite_true, ite_false, reduceCtorEq, Bool.false_eq_true, Bool.true_and, Bool.false_and, Bool.and_true, Bool.and_false, Bool.not_true, Bool.not_false]
  · intro k
    simp (disch := omega) only [g_X7_undone_L21, h.n, if_pos (Nat.le_refl n), iN_le, iN_lt, chk_inb, chk_t, clamp_iN, bd_some, iN_add, iN_s, iN_and, iN_or, iN_shl, e10, e01, e00, bI_0, bI_1, bI_t, bI_f, has_iN, bitc, within_iN, mk_or1, xhas_iN, add_z, if_true, if_false, ite_true, ite_false, reduceCtorEq, Bool.false_eq_true, Bool.true_and, Bool.false_and, Bool.and_true, Bool.and_false, Bool.not_true, Bool.not_false]
end OO
