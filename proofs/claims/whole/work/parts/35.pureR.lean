/-! ===== (7) of the theorem: turned round ===== -/
section KK
variable {n : Nat} {b : Nat → Nat}
theorem s_clearTo {M : Mem} {q : Nat} (x : Int32) : ∃ M', f_X3_clearTo M q x = some M' ∧ (Fr M M' [q, q + 1, q + 2] ∧ M' q 0 = x ∧ ∀ k < 9, M' (q + 1) k = 0 ∧ M' (q + 2) k = 0) := by
  have e9 : (9 : Int32) = iN 9 := rfl
  unfold f_X3_clearTo
  rw [bd_some]
  refine lp_to (fun j a => j ≤ 9 ∧ a.1 = iN j ∧ Fr M a.2 [q, q + 1, q + 2] ∧ a.2 q 0 = x ∧ ∀ k < j, a.2 (q + 1) k = 0 ∧ a.2 (q + 2) k = 0) 9 (FU_lt (Nat.le_refl 9)) ⟨by omega, rfl, Fr.up (by simp), upM_eq, fun k hk => by omega⟩ ?_
  rintro j ⟨a, M1⟩ ⟨hj, h0, hf, hn, hv⟩
  dsimp only at h0 hf hn hv
  subst h0
  rcases Nat.lt_or_ge j 9 with hl | hl
  · left
    refine ⟨hl, (iN (j + 1), upM (upM M1 (q + 1) j 0) (q + 2) j 0), ⟨hl, rfl, (hf.trans (Fr.up (by simp))).trans (Fr.up (by simp)), ?_, fun k hk => ?_⟩, fun k => ?_⟩
    · dsimp only
      rw [upM_ne2 (by omega), upM_ne2 (by omega)]; exact hn
    · dsimp only
      rw [upM_ne2 (by omega), upM_at, upM_at, upM_ne2 (by omega)]
      by_cases e : k = j
      · simp [e]
      · simp only [if_neg e]; exact hv k (by omega)
    · simp (disch := omega) only [g_X3_clearTo_L7, e9, if_neg (show ¬ 9 ≤ j by omega), iN_le, iN_lt, chk_inb, chk_t, clamp_iN, bd_some, iN_add, iN_s, iN_and, iN_or, iN_shl, e10, e01, e00, bI_0, bI_1, bI_t, bI_f, has_iN, bitc, within_iN, mk_or1, xhas_iN, add_z, if_true, if_false, ite_true, ite_false, reduceCtorEq, Bool.false_eq_true, Bool.true_and, Bool.false_and, Bool.and_true, Bool.and_false, Bool.not_true, Bool.not_false]
  · right
    refine ⟨M1, ⟨hf, hn, fun k hk => hv k (by omega)⟩, fun k => ?_⟩
    simp (disch := omega) only [g_X3_clearTo_L7, e9, if_pos (show 9 ≤ j by omega), iN_le, iN_lt, chk_inb, chk_t, clamp_iN, bd_some, iN_add, iN_s, iN_and, iN_or, iN_shl, e10, e01, e00, bI_0, bI_1, bI_t, bI_f, has_iN, bitc, within_iN, mk_or1, xhas_iN, add_z, if_true, if_false, ite_true, ite_false, reduceCtorEq, Bool.false_eq_true, Bool.true_and, Bool.false_and, Bool.and_true, Bool.and_false, Bool.not_true, Bool.not_false]
/-- the order turned round -/
def op (b : Nat → Nat) (n k : Nat) : Nat := mk n (fun j => (b j).testBit k)
theorem op_bit {k j : Nat} (hj : j < n) : (op b n k).testBit j = (b j).testBit k := by
  unfold op
  rw [mk_bit]; simp [hj]
theorem op_St (hS : St b n) : St (op b n) n := by
  refine ⟨hS.1, fun k hk => mk_lt _ _, fun k hk => ?_, fun k hk j hj hb i hi hbi => ?_⟩
  · rw [op_bit hk]; exact hS.2.2.1 k hk
  · rw [op_bit hj] at hb
    rw [op_bit hi] at hbi ⊢
    exact hS.2.2.2 i hi j hj hbi k hk hb
theorem op_op (hb : ∀ k < n, b k < 2 ^ n) : ∀ k < n, op (op b n) n k = b k := fun k hk => by
  refine set_ext (mk_lt _ _) (hb k hk) (fun j hj => ?_)
  rw [op_bit hj, op_bit hk]
theorem s_becomeTurned {M : Mem} {q0 q1 : Nat} (h : OR M q1 n b) (hd : dj q0 q1) : ∃ M', f_X3_becomeTurned M q0 q1 = some M' ∧ (Fr M M' [q0, q0 + 1, q0 + 2] ∧ OR M' q0 n (op b n) ∧ ∀ k < n, M' (q0 + 2) k = M (q1 + 2) k) := by
  have h9 := h.le
  unfold dj at hd
  obtain ⟨M1, e1, hf1, hn1, hv1⟩ := s_clearTo (M := M) (q := q0) (iN n)
  unfold f_X3_becomeTurned
  rw [h.n, e1, bd_some]
  refine lp_to (fun j a => j ≤ n ∧ a.1 = iN j ∧ Fr M a.2 [q0, q0 + 1, q0 + 2] ∧ a.2 q0 0 = iN n ∧ ∀ k < j, a.2 (q0 + 1) k = iN (op b n k) ∧ a.2 (q0 + 2) k = M (q1 + 2) k) n (FU_lt h9) ⟨by omega, rfl, hf1, hn1, fun k hk => by omega⟩ ?_
  rintro j ⟨a, M2⟩ ⟨hj, h0, hf, hn, hv⟩
  dsimp only at h0 hf hn hv
  subst h0
  have h2 : OR M2 q1 n b := h.fr hf (by simp only [List.mem_cons, List.not_mem_nil, or_false, not_or]; omega) (by simp only [List.mem_cons, List.not_mem_nil, or_false, not_or]; omega)
  rcases Nat.lt_or_ge j n with hl | hl
  · left
    have hval : upM M2 (q0 + 1) j (iN (op b n j)) (q1 + 2) j = M (q1 + 2) j := by
      rw [upM_ne2 (by omega), hf (q1 + 2) (by simp only [List.mem_cons, List.not_mem_nil, or_false, not_or]; omega)]
    have hab : f_X3_aboveOf M2 q1 (iN j) = some (iN (op b n j)) := s_aboveOf h2 hl
    refine ⟨hl, (iN (j + 1), upM (upM M2 (q0 + 1) j (iN (op b n j))) (q0 + 2) j (M (q1 + 2) j)), ⟨hl, rfl, (hf.trans (Fr.up (by simp))).trans (Fr.up (by simp)), ?_, fun k hk => ?_⟩, fun k => ?_⟩
    · dsimp only
      rw [upM_ne2 (by omega), upM_ne2 (by omega)]; exact hn
    · dsimp only
      rw [upM_ne2 (by omega), upM_at, upM_at, upM_ne2 (by omega)]
      by_cases e : k = j
      · simp [e]
      · simp only [if_neg e]; exact hv k (by omega)
    · simp (disch := omega) only [g_X3_becomeTurned_L10, hn, if_neg (show ¬ n ≤ j by omega), hab, hval, iN_le, iN_lt, chk_inb, chk_t, clamp_iN, bd_some, iN_add, iN_s, iN_and, iN_or, iN_shl, e10, e01, e00, bI_0, bI_1, bI_t, bI_f, has_iN, bitc, within_iN, mk_or1, xhas_iN, add_z, if_true, if_false, ite_true, ite_false, reduceCtorEq, Bool.false_eq_true, Bool.true_and, Bool.false_and, Bool.and_true, Bool.and_false, Bool.not_true, Bool.not_false]
  · right
    have e : j = n := by omega
    subst e
    refine ⟨M2, ⟨hf, ⟨h9, hn, fun k hk => ⟨(hv k hk).1, mk_lt _ _⟩⟩, fun k hk => (hv k hk).2⟩, fun k => ?_⟩
    simp (disch := omega) only [g_X3_becomeTurned_L10, hn, if_pos (Nat.le_refl j), iN_le, iN_lt, chk_inb, chk_t, clamp_iN, bd_some, iN_add, iN_s, iN_and, iN_or, iN_shl, e10, e01, e00, bI_0, bI_1, bI_t, bI_f, has_iN, bitc, within_iN, mk_or1, xhas_iN, add_z, if_true, if_false, ite_true, ite_false, reduceCtorEq, Bool.false_eq_true, Bool.true_and, Bool.false_and, Bool.and_true, Bool.and_false, Bool.not_true, Bool.not_false]
/-- all but s -/
def co (n s : Nat) : Nat := mk n (fun k => !s.testBit k)
theorem co_lt {s : Nat} : co n s < 2 ^ n := mk_lt _ _
theorem co_bit {s k : Nat} (hk : k < n) : (co n s).testBit k = !s.testBit k := by
  unfold co
  rw [mk_bit]; simp [hk]
theorem co_co {s : Nat} (hs : s < 2 ^ n) : co n (co n s) = s := set_ext co_lt hs (fun k hk => by rw [co_bit hk, co_bit hk, Bool.not_not])
theorem co_pc {s : Nat} (hs : s < 2 ^ n) (hn : n ≤ 9) : pc (co n s) + pc s = n := by
  rw [pc_ct co_lt hn, pc_ct hs hn, ct_congr (p := (co n s).testBit) (q := fun k => !s.testBit k) (fun k hk => co_bit hk)]
  exact ct_not
theorem op_cl (hS : St b n) {s : Nat} (hs : s < 2 ^ n) : cl (op b n) n (co n s) = cl b n s := by
  rw [Bool.eq_iff_iff, cl_iff (op_St hS).2.1 hS.1, cl_iff hS.2.1 hS.1]
  constructor
  · intro h k hk h1 j hj h2
    cases h3 : s.testBit j
    · have := h j hj (by rw [co_bit hj, h3]; rfl) k hk (by rw [op_bit hk]; exact h2)
      rw [co_bit hk, h1] at this; cases this
    · rfl
  · intro h k hk h1 j hj h2
    rw [co_bit hk, Bool.not_eq_true'] at h1
    rw [op_bit hj] at h2
    rw [co_bit hj]
    cases h3 : s.testBit j
    · rfl
    · rw [h j hj h3 k hk h2] at h1; cases h1
theorem co_plus {s k : Nat} (hs : s < 2 ^ n) (hk : k < n) (h : s.testBit k = false) : co n (s + 2 ^ k) = co n s - 2 ^ k := by
  have h1 : (co n s).testBit k = true := by rw [co_bit hk, h]; rfl
  refine set_ext co_lt (minus_lt co_lt) (fun j hj => ?_)
  rw [co_bit hj, plus_bit hs hk h, minus_bit co_lt h1, co_bit hj, Bool.not_or]
theorem op_BC (hS : St b n) (d : Nat) : ∀ s, s < 2 ^ n → pc s + d = n → cl b n s = true → BC b n s = FC (op b n) n (co n s) := by
  have hn := hS.1
  have hSo := op_St hS
  induction d with
  | zero =>
    intro s hs hp _
    have e := (pc_n hs hn).mp (by omega)
    have e0 : co n (2 ^ n - 1) = 0 := set_ext co_lt (Nat.two_pow_pos n) (fun k hk => by rw [co_bit hk, all_bit]; simp [hk])
    rw [e, e0, FC_0, BC_all hn]
  | succ d ih =>
    intro s hs hp hc
    have hcl := (cl_iff hS.2.1 hn).mp hc
    have hsa : s ≠ 2 ^ n - 1 := fun e => by rw [e, pc_all hn] at hp; omega
    have hco := co_pc hs hn
    have hc0 : co n s ≠ 0 := fun e => by
      have := (pc_0 co_lt hn).mpr e
      omega
    rw [BC_s hn hs hsa, FC_s co_lt hn hc0]
    refine S_congr (fun k hk => ?_)
    rw [co_bit hk]
    cases hb : s.testBit k
    · have e1 := co_plus hs hk hb
      have hlt := plus_lt hs hk hb
      have hpl := plus_pc hs hn hk hb
      have hcc : cc (op b n) (co n s - 2 ^ k) k = true := by
        rw [cc_iff (n := n) (mk_lt _ _) hn, ← e1]
        refine ⟨by rw [co_bit hk, plus_bit hs hk hb]; simp, fun j hj h1 => ?_⟩
        rw [op_bit hj] at h1
        rw [co_bit hj, plus_bit hs hk hb]
        have hjk : j ≠ k := fun e => by rw [e, hS.2.2.1 k hk] at h1; cases h1
        cases h2 : s.testBit j
        · simp [hjk]
        · rw [hcl j hj h2 k hk h1] at hb; cases hb
      simp only [Bool.not_false, hcc, Bool.and_self, if_true]
      cases hcb : cc b s k
      · simp only [Bool.false_eq_true, if_false]
        rw [← e1]
        rcases Classical.em (FC (op b n) n (co n (s + 2 ^ k)) = 0) with h | h
        · exact h.symm
        · have h1 := (FC_pos hSo co_lt).mp h
          rw [op_cl hS hlt] at h1
          have h2 := (cl_iff hS.2.1 hn).mp h1 k hk (by rw [plus_bit hs hk hb]; simp)
          have h3 : cc b s k = true := (cc_iff (hS.2.1 k hk) hn).mpr ⟨hb, fun j hj hbj => by
            have := h2 j hj hbj
            rw [plus_bit hs hk hb] at this
            have hjk : j ≠ k := fun e => by rw [e, hS.2.2.1 k hk] at hbj; cases hbj
            simpa [hjk] using this⟩
          rw [hcb] at h3; cases h3
      · simp only [if_true]
        rw [← e1]
        exact ih _ hlt (by omega) (cl_plus hS.2.1 hn hs hk hc hcb)
    · have hcb : cc b s k = false := by unfold cc; rw [hb]; rfl
      rw [hcb]; simp
theorem RW_op (hS : St b n) : RW (op b n) n = RW b n := by
  have h1 := op_BC hS n 0 (Nat.two_pow_pos n) (by show 0 + n = n; omega) (cl_0 hS.2.1 hS.1)
  have e0 : co n 0 = 2 ^ n - 1 := set_ext co_lt all_lt (fun k hk => by rw [co_bit hk, all_bit]; simp [hk])
  rw [e0, FC_all hS.1] at h1
  exact h1.symm
theorem ia_congr {b' : Nat → Nat} {s : Nat} {c : Bool} (h : ∀ k < n, ∀ j < n, cm b k j = cm b' k j) : ia b n s c = ia b' n s c := by
  rw [Bool.eq_iff_iff, ia_iff, ia_iff]
  constructor
  · intro H k hk j hj h1 h2
    rw [← h k hk j (by omega)]; exact H k hk j hj h1 h2
  · intro H k hk j hj h1 h2
    rw [h k hk j (by omega)]; exact H k hk j hj h1 h2
theorem ia_op {s : Nat} {c : Bool} : ia (op b n) n s c = ia b n s c := ia_congr (fun k hk j hj => by
  unfold cm
  rw [op_bit hk, op_bit hj, Bool.or_comm])
theorem wd_eq (hS : St b n) : wd b n = mx (2 ^ n) (fun s => if ia b n s false then pc s else 0) := mx_congr (fun s _ => by rw [ap_ia hS])
theorem hh_eq (hS : St b n) : hh b n = mx (2 ^ n) (fun s => if ia b n s true then pc s else 0) := mx_congr (fun s hs => by rw [sb_all hs hS.1, Bool.true_and, il_ia hS hs])
theorem wd_op (hS : St b n) : wd (op b n) n = wd b n := by
  rw [wd_eq hS, wd_eq (op_St hS)]
  exact mx_congr (fun s _ => by rw [ia_op])
theorem hh_op (hS : St b n) : hh (op b n) n = hh b n := by
  rw [hh_eq hS, hh_eq (op_St hS)]
  exact mx_congr (fun s _ => by rw [ia_op])
theorem sizes_op (hS : St b n) (j : Nat) : ct (2 ^ n) (fun s => decide (n - pc s = j) && cl b n s) = ct (2 ^ n) (fun s => decide (pc s = j) && cl (op b n) n s) := by
  have hn := hS.1
  refine ct_bij (f := co n) (g := co n) (fun s hs h => ?_) (fun t ht h => ?_)
  · have := co_pc hs hn
    rw [Bool.and_eq_true, decide_eq_true_eq] at h ⊢
    exact ⟨co_lt, ⟨by omega, by rw [op_cl hS hs]; exact h.2⟩, co_co hs⟩
  · have := co_pc ht hn
    rw [Bool.and_eq_true, decide_eq_true_eq] at h ⊢
    refine ⟨co_lt, ⟨by omega, ?_⟩, co_co ht⟩
    rw [← op_cl hS co_lt, co_co ht]
    exact h.2
def tw (M : Mem) (x y : Nat) (c1 c2 : Bool) : Mem := upM (upM M 46 x (M 46 x + bI c1)) 46 y (upM M 46 x (M 46 x + bI c1) 46 y - bI c2)
theorem s_sizesTurn {M : Mem} {q1 : Nat} (hS : St b n) (h : OR M q1 n b) (hd : q1 + 1 < 46 ∨ 46 < q1) (ho : OR M 30 n (op b n)) : ∃ r, f_X5_sizesTurn M q1 = some r ∧ (r.1 = 1 ∧ Fr M r.2 [46]) := by
  have h9 := h.le
  have h8 := p2_le h9
  have e9 : (9 : Int32) = iN 9 := rfl
  have hc : q1 ∉ [46] ∧ q1 + 1 ∉ [46] := by simp only [List.mem_cons, List.not_mem_nil, or_false]; omega
  refine lp_to (fun j a => j ≤ 10 ∧ a.1 = iN j ∧ Fr M a.2 [46] ∧ ∀ k < j, a.2 46 k = 0) 10 (by decide) ⟨by omega, rfl, Fr.refl _ _, fun k hk => by omega⟩ ?_
  rintro j ⟨a, M1⟩ ⟨hj, h0, hf, hz⟩
  dsimp only at h0 hf hz
  subst h0
  rcases Nat.lt_or_ge j 10 with hl | hl
  · left
    refine ⟨hl, (iN (j + 1), upM M1 46 j 0), ⟨hl, rfl, hf.trans (Fr.up (by simp)), fun k hk => ?_⟩, fun k => ?_⟩
    · dsimp only
      rw [upM_at]
      split
      · rfl
      · exact hz k (by omega)
    · simp (disch := omega) only [g_X5_sizesTurn_L2, e9, if_neg (show ¬ 9 < j by omega), iN_le, iN_lt, chk_inb, chk_t, clamp_iN, bd_some, iN_add, iN_s, iN_and, iN_or, iN_shl, e10, e01, e00, bI_0, bI_1, bI_t, bI_f, has_iN, bitc, within_iN, mk_or1, xhas_iN, add_z, if_true, if_false, ite_true, ite_false, reduceCtorEq, Bool.false_eq_true, Bool.true_and, Bool.false_and, Bool.and_true, Bool.and_false, Bool.not_true, Bool.not_false]
  · right
    have ej : j = 10 := by omega
    subst ej
    have key : ∃ r, f_X5_sizesTurn_L23 q1 FU (0, M1) = some r ∧ (r.1 = 1 ∧ Fr M r.2 [46]) := by
      refine lp_to (fun i a => i ≤ 2 ^ n ∧ a.1 = iN i ∧ Fr M a.2 [46] ∧ ∀ k < 10, a.2 46 k = iN (ct i (fun s => decide (n - pc s = k) && cl b n s)) - iN (ct i (fun s => decide (pc s = k) && cl (op b n) n s))) (2 ^ n) (FU_lt2 h8) ⟨Nat.zero_le _, rfl, hf, fun k hk => by show M1 46 k = iN 0 - iN 0; rw [hz k hk]; decide⟩ ?_
      rintro i ⟨a, M2⟩ ⟨hi, h0, hf2, hv⟩
      dsimp only at h0 hf2 hv
      subst h0
      have h2 := h.fr hf2 hc.1 hc.2
      have ho2 := ho.fr hf2 (by simp) (by simp)
      rcases Nat.lt_or_ge i (2 ^ n) with hl2 | hl2
      · left
        have hpn := pc_le_n hl2 h9
        have hsub : iN n - iN (pc i) = iN (n - pc i) := iN_sub hpn
        have hv1 := hv (n - pc i) (by omega)
        have hv2 := hv (pc i) (by omega)
        have hcl1 := s_isClosedBelow h2 (show i < 512 by omega)
        -- the step as one update of both
        have step : ∀ c1 c2 : Bool, cl b n i = c1 → cl (op b n) n i = c2 → ∀ k < 10, upM (upM M2 46 (n - pc i) (M2 46 (n - pc i) + bI c1)) 46 (pc i) (upM M2 46 (n - pc i) (M2 46 (n - pc i) + bI c1) 46 (pc i) - bI c2) 46 k = iN (ct (i + 1) (fun s => decide (n - pc s = k) && cl b n s)) - iN (ct (i + 1) (fun s => decide (pc s = k) && cl (op b n) n s)) := by
          intro c1 c2 hc1 hc2 k hk
          have a1 : iN (ct (i + 1) (fun s => decide (n - pc s = k) && cl b n s)) = iN (ct i (fun s => decide (n - pc s = k) && cl b n s)) + bI (decide (n - pc i = k) && c1) := by
            rw [ct_s, ← iN_add, hc1, bI_iN]
          have a2 : iN (ct (i + 1) (fun s => decide (pc s = k) && cl (op b n) n s)) = iN (ct i (fun s => decide (pc s = k) && cl (op b n) n s)) + bI (decide (pc i = k) && c2) := by
            rw [ct_s, ← iN_add, hc2, bI_iN]
          have ring1 : ∀ x y z w : Int32, x + z - (y + w) = x - y + z - w := fun x y z w => by
            rw [Int32.sub_eq_add_neg, Int32.neg_add, Int32.sub_eq_add_neg, Int32.sub_eq_add_neg, Int32.sub_eq_add_neg]
            rw [Int32.add_assoc x z, Int32.add_assoc x (-y), Int32.add_assoc x, ← Int32.add_assoc z, Int32.add_comm z (-y), Int32.add_assoc (-y)]
          rw [a1, a2, ring1, ← hv k hk, upM_at]
          by_cases k1 : k = pc i
          · rw [if_pos k1, decide_eq_true k1.symm, Bool.true_and, upM_at]
            by_cases k2 : pc i = n - pc i
            · rw [if_pos k2, k1, decide_eq_true k2.symm, Bool.true_and, ← k2]
            · rw [if_neg k2, k1, decide_eq_false (Ne.symm k2), Bool.false_and, bI_f, Int32.add_zero]
          · rw [if_neg k1, decide_eq_false (Ne.symm k1), Bool.false_and, bI_f, Int32.sub_zero, upM_at]
            by_cases k2 : k = n - pc i
            · rw [if_pos k2, decide_eq_true k2.symm, Bool.true_and, ← k2]
            · rw [if_neg k2, decide_eq_false (Ne.symm k2), Bool.false_and, bI_f, Int32.add_zero]
        have hfo : ∀ x : Int32, OR (upM M2 46 (n - pc i) x) 30 n (op b n) := fun x => ho2.fr (c := [46]) (Fr.up (by simp)) (by simp) (by simp)
        have hco : ∀ x : Int32, f_X3_isClosedBelow (upM M2 46 (n - pc i) x) 30 (iN i) = some (bI (cl (op b n) n i)) := fun x => s_isClosedBelow (hfo x) (show i < 512 by omega)
        cases hc1 : cl b n i
        · cases hc2 : cl (op b n) n i
          · refine ⟨hl2, (iN (i + 1), tw M2 (n - pc i) (pc i) false false), ⟨hl2, rfl, (hf2.trans (Fr.up (by simp))).trans (Fr.up (by simp)), step false false hc1 hc2⟩, fun k => ?_⟩
            rw [hc2] at hco
            simp (disch := omega) only [g_X5_sizesTurn_L23, s_setLimit h2, if_neg (show ¬ 2 ^ n ≤ i by omega), bitc, h2.n, hsub, hcl1, hc1, f_X5_sizesTurn_L61, hco, Int32.add_zero, tw, iN_le, iN_lt, chk_inb, chk_t, clamp_iN, bd_some, iN_add, iN_s, iN_and, iN_or, iN_shl, e10, e01, e00, bI_0, bI_1, bI_t, bI_f, has_iN, bitc, within_iN, mk_or1, xhas_iN, add_z, if_true, if_false, ite_true, ite_false, reduceCtorEq, Bool.false_eq_true, Bool.true_and, Bool.false_and, Bool.and_true, Bool.and_false, Bool.not_true, Bool.not_false]
          · refine ⟨hl2, (iN (i + 1), tw M2 (n - pc i) (pc i) false true), ⟨hl2, rfl, (hf2.trans (Fr.up (by simp))).trans (Fr.up (by simp)), step false true hc1 hc2⟩, fun k => ?_⟩
            rw [hc2] at hco
            simp (disch := omega) only [g_X5_sizesTurn_L23, s_setLimit h2, if_neg (show ¬ 2 ^ n ≤ i by omega), bitc, h2.n, hsub, hcl1, hc1, f_X5_sizesTurn_L61, hco, Int32.add_zero, tw, iN_le, iN_lt, chk_inb, chk_t, clamp_iN, bd_some, iN_add, iN_s, iN_and, iN_or, iN_shl, e10, e01, e00, bI_0, bI_1, bI_t, bI_f, has_iN, bitc, within_iN, mk_or1, xhas_iN, add_z, if_true, if_false, ite_true, ite_false, reduceCtorEq, Bool.false_eq_true, Bool.true_and, Bool.false_and, Bool.and_true, Bool.and_false, Bool.not_true, Bool.not_false]
        · cases hc2 : cl (op b n) n i
          · refine ⟨hl2, (iN (i + 1), tw M2 (n - pc i) (pc i) true false), ⟨hl2, rfl, (hf2.trans (Fr.up (by simp))).trans (Fr.up (by simp)), step true false hc1 hc2⟩, fun k => ?_⟩
            rw [hc2] at hco
            simp (disch := omega) only [g_X5_sizesTurn_L23, s_setLimit h2, if_neg (show ¬ 2 ^ n ≤ i by omega), bitc, h2.n, hsub, hcl1, hc1, f_X5_sizesTurn_L61, hco, Int32.add_zero, tw, iN_le, iN_lt, chk_inb, chk_t, clamp_iN, bd_some, iN_add, iN_s, iN_and, iN_or, iN_shl, e10, e01, e00, bI_0, bI_1, bI_t, bI_f, has_iN, bitc, within_iN, mk_or1, xhas_iN, add_z, if_true, if_false, ite_true, ite_false, reduceCtorEq, Bool.false_eq_true, Bool.true_and, Bool.false_and, Bool.and_true, Bool.and_false, Bool.not_true, Bool.not_false]
          · refine ⟨hl2, (iN (i + 1), tw M2 (n - pc i) (pc i) true true), ⟨hl2, rfl, (hf2.trans (Fr.up (by simp))).trans (Fr.up (by simp)), step true true hc1 hc2⟩, fun k => ?_⟩
            rw [hc2] at hco
            simp (disch := omega) only [g_X5_sizesTurn_L23, s_setLimit h2, if_neg (show ¬ 2 ^ n ≤ i by omega), bitc, h2.n, hsub, hcl1, hc1, f_X5_sizesTurn_L61, hco, Int32.add_zero, tw, iN_le, iN_lt, chk_inb, chk_t, clamp_iN, bd_some, iN_add, iN_s, iN_and, iN_or, iN_shl, e10, e01, e00, bI_0, bI_1, bI_t, bI_f, has_iN, bitc, within_iN, mk_or1, xhas_iN, add_z, if_true, if_false, ite_true, ite_false, reduceCtorEq, Bool.false_eq_true, Bool.true_and, Bool.false_and, Bool.and_true, Bool.and_false, Bool.not_true, Bool.not_false]
      · right
        have ei : i = 2 ^ n := by omega
        subst ei
        have e2 : f_X5_sizesTurn_L96 M2 FU 0 = some (1, M2) := by
          refine lp_for (fun j => iN j) 10 (by decide) ?_ ?_
          · intro k hk f
            have := hv k hk
            rw [sizes_op hS, Int32.sub_self] at this
            simp (disch := omega) only [g_X5_sizesTurn_L96, e9, if_neg (show ¬ 9 < k by omega), this, iN_le, iN_lt, chk_inb, chk_t, clamp_iN, bd_some, iN_add, iN_s, iN_and, iN_or, iN_shl, e10, e01, e00, bI_0, bI_1, bI_t, bI_f, has_iN, bitc, within_iN, mk_or1, xhas_iN, add_z, if_true, if_false, ite_true, ite_false, reduceCtorEq, Bool.false_eq_true, Bool.true_and, Bool.false_and, Bool.and_true, Bool.and_false, Bool.not_true, Bool.not_false]
          · intro f
            simp (disch := omega) only [g_X5_sizesTurn_L96, e9, if_pos (show 9 < 10 by omega), iN_le, iN_lt, chk_inb, chk_t, clamp_iN, bd_some, iN_add, iN_s, iN_and, iN_or, iN_shl, e10, e01, e00, bI_0, bI_1, bI_t, bI_f, has_iN, bitc, within_iN, mk_or1, xhas_iN, add_z, if_true, if_false, ite_true, ite_false, reduceCtorEq, Bool.false_eq_true, Bool.true_and, Bool.false_and, Bool.and_true, Bool.and_false, Bool.not_true, Bool.not_false]
        refine ⟨(1, M2), ⟨rfl, hf2⟩, fun k => ?_⟩
        simp (disch := omega) only [g_X5_sizesTurn_L23, s_setLimit h2, if_pos (Nat.le_refl (2 ^ n)), e2, iN_le, iN_lt, chk_inb, chk_t, clamp_iN, bd_some, iN_add, iN_s, iN_and, iN_or, iN_shl, e10, e01, e00, bI_0, bI_1, bI_t, bI_f, has_iN, bitc, within_iN, mk_or1, xhas_iN, add_z, if_true, if_false, ite_true, ite_false, reduceCtorEq, Bool.false_eq_true, Bool.true_and, Bool.false_and, Bool.and_true, Bool.and_false, Bool.not_true, Bool.not_false]
    obtain ⟨r, er, hr⟩ := key
    refine ⟨r, hr, fun k => ?_⟩
    simp (disch := omega) only [g_X5_sizesTurn_L2, e9, if_pos (show 9 < 10 by omega), er, iN_le, iN_lt, chk_inb, chk_t, clamp_iN, bd_some, iN_add, iN_s, iN_and, iN_or, iN_shl, e10, e01, e00, bI_0, bI_1, bI_t, bI_f, has_iN, bitc, within_iN, mk_or1, xhas_iN, add_z, if_true, if_false, ite_true, ite_false, reduceCtorEq, Bool.false_eq_true, Bool.true_and, Bool.false_and, Bool.and_true, Bool.and_false, Bool.not_true, Bool.not_false]
theorem s_turnsRound {M : Mem} {q1 : Nat} (hS : St b n) (h : OR M q1 n b) (hd : q1 + 2 < 27 ∨ 46 < q1) : ∃ r, f_X5_turnsRound M q1 = some r ∧ (r.1 = 1 ∧ Fr M r.2 [27, 28, 29, 30, 31, 32, 34, 38, 46]) := by
  have h9 := h.le
  have h8 := p2_le h9
  have h7 := Nat.two_pow_pos n
  have hSo := op_St hS
  obtain ⟨M1, e1, hf1, ho1, -⟩ := s_becomeTurned (q0 := 30) h (by unfold dj; omega)
  obtain ⟨M2, e2, hf2, hoo2, -⟩ := s_becomeTurned (q0 := 27) ho1 (by unfold dj; omega)
  have ho2 : OR M2 30 n (op b n) := ho1.fr hf2 (by simp) (by simp)
  have h2 : OR M2 q1 n b := (h.fr hf1 (by simp; omega) (by simp; omega)).fr hf2 (by simp; omega) (by simp; omega)
  have h27 : OR M2 27 n b := hoo2.ext (op_op hS.2.1)
  have hio := s_isOrdered hSo ho2
  have hhp := s_hasPairs_eq h27 h2
  obtain ⟨⟨r3, M3⟩, e3, hr3, hf3, -⟩ := s_rcount' (q := 37) hSo ho2 (by omega)
  dsimp only at hr3 hf3
  subst hr3
  have h3 : OR M3 q1 n b := h2.fr hf3 (by simp; omega) (by simp; omega)
  obtain ⟨⟨r4, M4⟩, e4, hr4, hf4, -⟩ := s_rcount' (q := 33) hS h3 (by omega)
  dsimp only at hr4 hf4
  subst hr4
  have h4 : OR M4 q1 n b := h3.fr hf4 (by simp; omega) (by simp; omega)
  have ho4 : OR M4 30 n (op b n) := (ho2.fr hf3 (by simp) (by simp)).fr hf4 (by simp) (by simp)
  obtain ⟨⟨r5, M5⟩, e5, hr5, hf5⟩ := s_sizesTurn hS h4 (by omega) ho4
  dsimp only at hr5 hf5
  subst hr5
  have hl1 : f_X0_longestWithin M4 30 (iN (2 ^ n - 1)) = some (iN (hh (op b n) n)) := s_longestWithin ho4 (by omega)
  have hl2 : f_X0_longestWithin M4 q1 (iN (2 ^ n - 1)) = some (iN (hh b n)) := s_longestWithin h4 (by omega)
  unfold f_X5_turnsRound
  refine ⟨(1, M5), ?_, rfl, ((((hf1.mono (by simp)).trans (hf2.mono (by simp))).trans (hf3.mono (by simp))).trans (hf4.mono (by simp))).trans (hf5.mono (by simp))⟩
  simp (disch := omega) only [e1, e2, hio, hhp, e3, e4, RW_op hS, s_all ho4, s_all h4, hl1, hl2, hh_op hS, s_mostApart ho4, s_mostApart h4, wd_op hS, e5, iN_le, iN_lt, chk_inb, chk_t, clamp_iN, bd_some, iN_add, iN_s, iN_and, iN_or, iN_shl, e10, e01, e00, bI_0, bI_1, bI_t, bI_f, has_iN, bitc, within_iN, mk_or1, xhas_iN, add_z, if_true, if_false, ite_true, ite_false, reduceCtorEq, Bool.false_eq_true, Bool.true_and, Bool.false_and, Bool.and_true, Bool.and_false, Bool.not_true, Bool.not_false]
end KK
