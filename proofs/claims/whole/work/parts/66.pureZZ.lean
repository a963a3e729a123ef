/-! ===== orders that change: the class's small ones, and the first cases ===== -/
section CL
variable {M : Mem} {q q0 q1 q2 n : Nat} {b b1 b2 : Nat → Nat}
theorem St_0 {m : Nat} (hm : m ≤ 9) : St (fun _ => 0) m := ⟨hm, fun k _ => Nat.two_pow_pos m, fun k _ => by simp, fun k _ j _ h => by simp at h⟩
def lin (k : Nat) : Nat := 2 ^ k - 1
theorem lin_bit {k j : Nat} : (lin k).testBit j = decide (j < k) := all_bit
theorem lin_lt {k m : Nat} (h : k < m) : lin k < 2 ^ m := by
  have h1 := Nat.pow_lt_pow_right (a := 2) (by decide) h
  have h2 := Nat.two_pow_pos k
  unfold lin; omega
theorem St_lin {m : Nat} (hm : m ≤ 9) : St lin m := by
  refine ⟨hm, fun k hk => lin_lt hk, fun k _ => by rw [lin_bit]; exact decide_eq_false (by omega), fun k _ j _ h i _ h' => ?_⟩
  rw [lin_bit, decide_eq_true_iff] at *
  omega
theorem St_and (h1 : St b1 n) (h2 : St b2 n) : St (fun k => b1 k &&& b2 k) n := by
  refine ⟨h1.1, fun k hk => Nat.lt_of_le_of_lt Nat.and_le_left (h1.2.1 k hk), fun k hk => by rw [Nat.testBit_and, h1.2.2.1 k hk, Bool.false_and], fun k hk j hj h i hi h' => ?_⟩
  rw [Nat.testBit_and, Bool.and_eq_true] at *
  exact ⟨h1.2.2.2 k hk j hj h.1 i hi h'.1, h2.2.2.2 k hk j hj h.2 i hi h'.2⟩
theorem s_lineUp (hn : n ≤ 9) (h0 : M q 0 = iN n) : ∃ M', f_X3_lineUp M q = some M' ∧ (Fr M M' [q + 1] ∧ ∀ k < n, M' (q + 1) k = iN (lin k)) := by
  refine lp_to (fun j a => j ≤ n ∧ a.1 = iN j ∧ Fr M a.2 [q + 1] ∧ ∀ k < j, a.2 (q + 1) k = iN (lin k)) n (FU_lt hn) ⟨Nat.zero_le _, rfl, Fr.refl _ _, fun k hk => by omega⟩ ?_
  rintro j ⟨a, M1⟩ ⟨hj, h1, hf, hv⟩
  dsimp only at h1 hf hv
  subst h1
  have hn1 : M1 q 0 = iN n := by rw [hf q (by simp)]; exact h0
  rcases Nat.lt_or_ge j n with hl | hl
  · left
    refine ⟨hl, (iN (j + 1), upM M1 (q + 1) j (iN (lin j))), ⟨hl, rfl, hf.trans (Fr.up (by simp)), fun k hk => ?_⟩, fun k => ?_⟩
    · dsimp only
      rw [upM_at]
      by_cases e : k = j
      · rw [if_pos e, e]
      · rw [if_neg e]; exact hv k (by omega)
    · have r : iN (2 ^ j) - 1 = iN (lin j) := by rw [iN_1, iN_sub (Nat.two_pow_pos j)]; rfl
      simp (disch := omega) only [g_X3_lineUp_L2, hn1, iN_le, if_neg (show ¬ n ≤ j by omega), chk_inb, clamp_iN, iN_shl, r, bd_some, iN_s]
  · right
    have e : j = n := by omega
    subst e
    refine ⟨M1, ⟨hf, hv⟩, fun k => ?_⟩
    simp (disch := omega) only [g_X3_lineUp_L2, hn1, iN_le, if_pos (Nat.le_refl j)]
/-- one more thing, in order with none -/
def ap1 (b : Nat → Nat) (n k : Nat) : Nat := if k = n then 0 else b k
theorem ap1_n : ap1 b n n = 0 := if_pos rfl
theorem ap1_o {k : Nat} (h : k < n) : ap1 b n k = b k := if_neg (by omega)
theorem up2 {x n : Nat} (h : x < 2 ^ n) : x < 2 ^ (n + 1) := by rw [Nat.pow_succ]; omega
theorem ap1_St (hS : St b n) (hn : n < 9) : St (ap1 b n) (n + 1) := by
  refine ⟨hn, fun k hk => ?_, fun k hk => ?_, fun k hk j hj h i hi h' => ?_⟩
  · unfold ap1; split
    · exact Nat.two_pow_pos _
    · exact up2 (hS.2.1 k (by omega))
  · unfold ap1; split
    · simp
    · exact hS.2.2.1 k (by omega)
  · unfold ap1 at h h' ⊢
    by_cases e : k = n
    · rw [if_pos e] at h; simp at h
    · rw [if_neg e] at h ⊢
      by_cases e2 : j = n
      · rw [if_pos e2] at h'; simp at h'
      · rw [if_neg e2] at h'
        by_cases e3 : i = n
        · have := bit_lt (hS.2.1 j (by omega)) h'
          omega
        · exact hS.2.2.2 k (by omega) j (by omega) h i (by omega) h'
theorem s_append (h : OR M q n b) (hn : n < 9) (x : Int32) : ∃ M', f_X3_append M q x = some (iN n, M') ∧ (Fr M M' [q, q + 1, q + 2] ∧ OR M' q (n + 1) (ap1 b n) ∧ ∀ k < n + 1, M' (q + 2) k = if k = n then x else M (q + 2) k) := by
  have r : upM (upM M (q + 1) n 0) (q + 2) n x q 0 = iN n := by rw [upM_ne2 (by omega), upM_ne2 (by omega)]; exact h.n
  refine ⟨upM (upM (upM M (q + 1) n 0) (q + 2) n x) q 0 (iN (n + 1)), ?_, ((Fr.up (by simp)).trans (Fr.up (by simp))).trans (Fr.up (by simp)), ⟨hn, upM_eq, fun k hk => ⟨?_, ?_⟩⟩, fun k hk => ?_⟩
  · simp (disch := omega) only [f_X3_append, h.n, bd_some, chk_inb, clamp_iN, r, iN_s]
  · rw [upM_ne2 (by omega), upM_ne2 (by omega), upM_at]
    unfold ap1
    split
    · rfl
    · exact h.b (by omega)
  · unfold ap1; split
    · exact Nat.two_pow_pos _
    · exact up2 (h.lt (by omega))
  · rw [upM_ne2 (by omega), upM_at, upM_ne2 (by omega)]
theorem s_becomeCommon (h1 : OR M q1 n b1) (h2 : OR M q2 n b2) (d1 : dj q0 q1) (d2 : dj q0 q2) : ∃ M', f_X3_becomeCommon M q0 q1 q2 = some M' ∧ (Fr M M' [q0, q0 + 1, q0 + 2] ∧ OR M' q0 n (fun k => b1 k &&& b2 k) ∧ ∀ k < n, M' (q0 + 2) k = M (q1 + 2) k) := by
  have h9 := h1.le
  unfold dj at d2
  obtain ⟨M2, x2, hf2, hn2, hv2⟩ := s_become (M := M) d1
  have hn0 : M2 q0 0 = iN n := by rw [hn2]; exact h1.n
  have key : ∃ r, f_X3_becomeCommon_L7 q0 q2 FU (0, M2) = some r ∧ (Fr M2 r [q0 + 1] ∧ ∀ k < n, r (q0 + 1) k = iN (b1 k &&& b2 k)) := by
    refine lp_to (fun j a => j ≤ n ∧ a.1 = iN j ∧ Fr M2 a.2 [q0 + 1] ∧ ∀ k < n, a.2 (q0 + 1) k = iN (if k < j then b1 k &&& b2 k else b1 k)) n (FU_lt h9) ⟨Nat.zero_le _, rfl, Fr.refl _ _, fun k hk => by dsimp only; rw [if_neg (by omega), (hv2 k (by omega)).1]; exact h1.b hk⟩ ?_
    rintro j ⟨a, M1⟩ ⟨hj, e1, hf, hv⟩
    dsimp only at e1 hf hv
    subst e1
    have hn1 : M1 q0 0 = iN n := by rw [hf q0 (by simp)]; exact hn0
    rcases Nat.lt_or_ge j n with hl | hl
    · left
      have r1 : M1 (q0 + 1) j = iN (b1 j) := by rw [hv j hl, if_neg (by omega)]
      have r2 : M1 (q2 + 1) j = iN (b2 j) := by
        rw [hf (q2 + 1) (by simp only [List.mem_cons, List.not_mem_nil, or_false]; omega), hf2 (q2 + 1) (by simp only [List.mem_cons, List.not_mem_nil, or_false]; omega)]
        exact h2.b hl
      refine ⟨hl, (iN (j + 1), upM M1 (q0 + 1) j (iN (b1 j &&& b2 j))), ⟨hl, rfl, hf.trans (Fr.up (by simp)), fun k hk => ?_⟩, fun k => ?_⟩
      · dsimp only
        rw [upM_at]
        by_cases e : k = j
        · rw [if_pos e, if_pos (by omega), e]
        · rw [if_neg e, hv k hk]
          by_cases e2 : k < j
          · rw [if_pos e2, if_pos (by omega)]
          · rw [if_neg e2, if_neg (by omega)]
      · simp (disch := omega) only [g_X3_becomeCommon_L7, hn1, iN_le, if_neg (show ¬ n ≤ j by omega), chk_inb, clamp_iN, r1, r2, iN_and, bd_some, iN_s]
    · right
      have e : j = n := by omega
      subst e
      refine ⟨M1, ⟨hf, fun k hk => by rw [hv k hk, if_pos hk]⟩, fun k => ?_⟩
      simp (disch := omega) only [g_X3_becomeCommon_L7, hn1, iN_le, if_pos (Nat.le_refl j)]
  obtain ⟨M', x', hf', hv'⟩ := key
  refine ⟨M', ?_, hf2.trans (hf'.mono (by intro a ha; simp only [List.mem_cons, List.not_mem_nil, or_false] at ha ⊢; omega)), ⟨h9, ?_, fun k hk => ⟨hv' k hk, Nat.lt_of_le_of_lt Nat.and_le_left (h1.lt hk)⟩⟩, fun k hk => ?_⟩
  · simp only [f_X3_becomeCommon, x2, bd_some, x']
  · rw [hf' q0 (by simp)]; exact hn0
  · rw [hf' (q0 + 2) (by simp), (hv2 k (by omega)).2]
end CL
section CR
variable {M : Mem} {o n : Nat} {b : Nat → Nat} {v : Nat → Int32}
set_option maxRecDepth 100000 in
theorem t_chainRow {m : Nat} (hm : m ≤ 9) (h : RP M o m (fun _ => 0) v) (ho : o < 4) : ∃ M', f_X7_chain_L37 (iN o) (iN m) FU (0, M) = some (iN (S m fun k => pc (lin k)), M') ∧ (TG o M M' ∧ RP M' o m lin v) := by
  let F : Nat → Nat → Int32 := fun _ _ => 1
  have hF : ∀ x y, F x y = 1 := fun _ _ => rfl
  clear_value F
  have hpr : ∀ x y, pr (fun k => k + 1) (fun _ => m) m (m + 1) x y = (decide (x < m) && (decide (x + 1 ≤ y) && decide (y < m))) := fun x y => pr_N (lo := fun k => k + 1) (hi := fun _ => m) (N := m)
  have R : RP (wr o (pr (fun k => k + 1) (fun _ => m) m (m + 1)) F M) o m lin v := by
    refine ⟨⟨h.1.o, hm, ?_, fun k hk => ⟨lin_lt hk, fun j hj => ?_⟩⟩, fun k hk => ?_, fun k hk j hj => ?_⟩
    · rw [wr_ne (by omega)]; exact h.1.n
    · rw [wr_at (by omega), hpr, lin_bit]
      by_cases e : j < k
      · rw [if_pos (by simp; omega), hF, decide_eq_true e]; rfl
      · rw [if_neg (by simp; omega), h.1.b hk hj, decide_eq_false e]; simp
    · rw [wr_ne (by omega)]; exact h.2.1 k hk
    · rw [wr_at hk]
      split
      · rw [hF]; rfl
      · exact h.2.2 k hk j hj
  refine ⟨_, ?_, TG.wr, R⟩
  have H : lp (g_X7_chain_L37 (iN o) (iN m)) FU (iN 0, (fun _ => M) 0) = some (iN (S m fun k => pc (lin k)), wr o (pr (fun k => k + 1) (fun _ => m) m (m + 1)) F M) := by
    refine lpW (gi := fun k K => g_X7_chain_L47 (iN o) (iN m) (iN k) K) o m (fun k => k + 1) (fun _ => m) F (fun _ => M) hm (fun _ _ => ⟨by omega, hm⟩) ?_ ?_ ?_ ?_
    · intro k hk K
      simp (disch := omega) only [g_X7_chain_L37, iN_le, if_neg (show ¬ m ≤ k by omega), bd_some, iN_s]; rfl
    · intro k hk j hkj hj K k'
      simp (disch := omega) only [g_X7_chain_L47, iN_le, if_neg (show ¬ m ≤ j by omega), chk_inb, clamp_iN, isb1, chk_t, bd_some, iN_s]
      rw [wr_up (by omega) (hF k j).symm, ← pr_s (lo := fun k => k + 1) (hi := fun _ => m) hkj]
    · intro k hk K k'
      simp (disch := omega) only [g_X7_chain_L47, iN_le, if_pos (Nat.le_refl m), iN_s]
    · intro K
      simp (disch := omega) only [g_X7_chain_L37, iN_le, if_pos (Nat.le_refl m), t_pairsOf R.1, bd_some]
  exact H
def pa (n k x y : Nat) : Bool := (decide (x = n) && decide (y < k)) || (decide (y = n) && decide (x < k))
theorem t_addRow (hn : n < 9) (ho : o < 4) (h : RP M o n b v) (x : Int32) : ∃ M', f_X7_add_L85 (iN o) (iN n) FU (0, upM (upM M 48 o (iN (n + 1))) (50 + o) n x) = some (iN n, M') ∧ (TG o M M' ∧ RP M' o (n + 1) (ap1 b n) (fun k => if k = n then x else v k)) := by
  have e9 : (9 : Int32) = iN 9 := rfl
  let F : Nat → Nat → Int32 := fun _ _ => 0
  have hF : ∀ x y, F x y = 0 := fun _ _ => rfl
  clear_value F
  have hT : TG o M (upM (upM M 48 o (iN (n + 1))) (50 + o) n x) := TG.n.trans ⟨fun a _ h _ => by funext i; exact upM_ne2 h, fun k _ => by rw [upM_ne2 (by omega)]⟩
  have hrow : ∀ k < 9, ∀ j, upM (upM M 48 o (iN (n + 1))) (50 + o) n x (56 + 10 * o + 1 + k) j = M (56 + 10 * o + 1 + k) j := fun k hk j => by rw [upM_ne2 (by omega), upM_ne2 (by omega)]
  refine ⟨wr o (pa n 9) F (upM (upM M 48 o (iN (n + 1))) (50 + o) n x), ?_, hT.trans TG.wr, ?_⟩
  · generalize upM (upM M 48 o (iN (n + 1))) (50 + o) n x = M1
    have e0 : M1 = wr o (pa n 0) F M1 := (wr_f (fun x y _ => Bool.eq_false_iff.mpr (fun hh => by
      simp only [pa, Bool.or_eq_true, Bool.and_eq_true, decide_eq_true_eq] at hh
      omega))).symm
    have H : lp (g_X7_add_L85 (iN o) (iN n)) FU ((fun k => (iN k, wr o (pa n k) F M1)) 0) = some (iN n, wr o (pa n 9) F M1) := by
      refine lp_for (fun k => (iN k, wr o (pa n k) F M1)) 9 (FU_lt (Nat.le_refl 9)) ?_ ?_
      · intro k hk K
        simp (disch := omega) only [g_X7_add_L85, e9, iN_le, if_neg (show ¬ 9 ≤ k by omega), chk_inb, clamp_iN, isb0, chk_t, bd_some, iN_s]
        rw [wr_up (by omega) (hF n k).symm, wr_up (by omega) (hF k n).symm]
        congr 2
        refine wr_congr (fun x y _ => ?_)
        rw [Bool.eq_iff_iff]
        simp only [pa, Bool.or_eq_true, Bool.and_eq_true, decide_eq_true_eq]
        omega
      · intro K
        simp (disch := omega) only [g_X7_add_L85, e9, iN_le, if_pos (Nat.le_refl 9)]
    dsimp only at H
    rw [← e0] at H
    exact H
  · refine ⟨⟨h.1.o, hn, ?_, fun k hk => ⟨?_, fun j hj => ?_⟩⟩, fun k hk => ?_, fun k hk j hj => ?_⟩
    · rw [wr_ne (by omega), upM_ne2 (by omega), upM_eq]
    · unfold ap1; split
      · exact Nat.two_pow_pos _
      · exact up2 (h.1.lt (by omega))
    · rw [wr_at (by omega), hrow j (by omega)]
      by_cases e : k = n
      · subst e; rw [if_pos (by unfold pa; simp; omega), hF, ap1_n]; simp [bI]
      · rw [ap1_o (by omega)]
        by_cases e2 : j = n
        · subst e2
          rw [if_pos (by unfold pa; simp; omega), hF, Nat.testBit_lt_two_pow (h.1.lt (by omega))]; rfl
        · rw [if_neg (by unfold pa; simp; omega)]; exact h.1.b (by omega) (by omega)
    · rw [wr_ne (by omega), upM_at]
      dsimp only
      by_cases e : k = n
      · rw [if_pos e, if_pos e]
      · rw [if_neg e, if_neg e, upM_ne2 (by omega)]; exact h.2.1 k (by omega)
    · rw [wr_at hk]
      split
      · rw [hF]; rfl
      · rw [hrow k hk]; exact h.2.2 k hk j hj
end CR
theorem manyc (x : Int32) : (∃ m, m ≤ 9 ∧ x = iN m) ∨ ((∀ M, f_X6_refuseOddMany M x = some (.inl eA, M)) ∧ f_X7_in x 0 9 = some 0) := by
  have e9 : (9 : Int32) = iN 9 := rfl
  by_cases hx : x < 0
  · right
    exact ⟨fun M => by unfold f_X6_refuseOddMany; rw [if_pos hx], by unfold f_X7_in; rw [if_pos hx]⟩
  · obtain ⟨k, hk, rfl⟩ := nonneg hx
    rcases Nat.lt_or_ge 9 k with h | h
    · right
      refine ⟨fun M => ?_, ?_⟩
      · unfold f_X6_refuseOddMany
        rw [if_neg hx, e9, if_neg (show ¬ iN k ≤ iN 9 by rw [iN_le hk (by decide)]; omega)]
      · unfold f_X7_in
        rw [if_neg hx, e9, if_pos (show iN 9 < iN k by rw [iN_lt (by decide) hk]; omega)]
    · exact Or.inl ⟨k, h, rfl⟩
theorem many1 {m : Nat} (hm : m ≤ 9) (M : Mem) : f_X6_refuseOddMany M (iN m) = some (.inr (), M) := by
  have e9 : (9 : Int32) = iN 9 := rfl
  unfold f_X6_refuseOddMany
  simp (disch := omega) only [iN_n0, if_false, e9, iN_le, if_pos hm]
theorem in91 {m : Nat} (hm : m ≤ 9) : f_X7_in (iN m) 0 9 = some 1 := by
  have e9 : (9 : Int32) = iN 9 := rfl
  unfold f_X7_in
  simp (disch := omega) only [iN_n0, if_false, e9, iN_lt, if_neg (show ¬ 9 < m by omega)]
theorem valc (x : Int32) : ((∀ M, f_X6_refuseOddValue M x = some (.inr (), M)) ∧ f_X7_in x (-1000) 1000 = some 1) ∨ ((∀ M, f_X6_refuseOddValue M x = some (.inl eA, M)) ∧ f_X7_in x (-1000) 1000 = some 0) := by
  unfold f_X6_refuseOddValue f_X7_in
  by_cases h1 : x < -1000
  · right
    exact ⟨fun M => by rw [if_pos h1], by rw [if_pos h1]⟩
  · by_cases h2 : x ≤ 1000
    · left
      exact ⟨fun M => by rw [if_neg h1, if_pos h2], by rw [if_neg h1, if_neg (Int32.not_lt.mpr h2)]⟩
    · right
      exact ⟨fun M => by rw [if_neg h1, if_neg h2], by rw [if_neg h1, if_pos (Int32.not_le.mp h2)]⟩
section FI
variable {fL : Option (Int32 × Mem × Option Int64)} {fR : Mem → Option (Int32 × Mem)} {M M6 M7 : Mem} {v : Int32} {o n : Nat} {b : Nat → Nat} {w : Nat → Int32} {c : List Nat}
/-- both sides have changed order o alike -/
theorem fin_ok (hJ : J M) (ho : o < 4) (hL : fL = some (0, M6, some v.toInt64)) (hR : fR M6 = some (v, M7)) (hc : M7 47 3 = 0) (hf : Fr M M6 c) (hcl : ∀ a ∈ c, scr a ∨ a = 2 + 3 * o ∨ a = 2 + 3 * o + 1 ∨ a = 2 + 3 * o + 2) (h7 : ∀ p < 4, p ≠ o → SO p M6 M7) (hS : St b n) (h6 : OR M6 (2 + 3 * o) n b) (hv : ∀ k < n, M6 (2 + 3 * o + 2) k = w k) (hl : LOW M6 M7) (hRP : RP M7 o n b w) : OKJ (LI fL fR) :=
  LI_ok hL hR hc (hJ.upd (o := o) (fun p hp hne => SO.cls hp ho hne hf hcl) h7 ⟨n, b, POmk ho hS h6 hv hl hRP⟩)
theorem zcl3 : ∀ a ∈ [2 + 3 * o, 2 + 3 * o + 1, 2 + 3 * o + 2], scr a ∨ a = 2 + 3 * o ∨ a = 2 + 3 * o + 1 ∨ a = 2 + 3 * o + 2 := by
  intro a ha
  simp only [List.mem_cons, List.not_mem_nil, or_false] at ha
  exact Or.inr ha
theorem zrp3 (ho : o < 4) : ∀ a ∈ [2 + 3 * o, 2 + 3 * o + 1, 2 + 3 * o + 2], a < 48 ∨ 106 ≤ a := by
  intro a ha
  simp only [List.mem_cons, List.not_mem_nil, or_false] at ha
  omega
theorem TG47 {M M' : Mem} {x : Int32} (h : TG o (upM M 47 3 x) M') : M' 47 3 = x := by rw [h.1 47 (by omega) (by omega) (by omega), upM_eq]
end FI
section CC
variable {M : Mem} {a1 a2 a3 : Int32}
theorem c_0 (hJ : J M) : OKJ (f_law_0 M a1 a2 a3) := by
  show OKJ (LI (f_L_lay M a1 a2) (fun M => f_X7_lay M a1 a2))
  rcases ordc a1 with ⟨o, ho, rfl⟩ | ⟨h1, h2⟩
  · obtain ⟨n, b, P⟩ := hJ o ho
    rcases manyc a2 with ⟨m, hm, rfl⟩ | ⟨h1, h2⟩
    · obtain ⟨M6, x6, hf6, hn6, hv6⟩ := s_clearTo (M := M) (q := 2 + 3 * o) (iN m)
      have e6 : f_X6_lay M (iN o) (iN m) = some (.inr (iN n), M6) := by
        simp only [f_X6_lay, s_orderAt ho, bd_some, cx, kd4 ho, chk_t, many1 hm, P.2.1.n, x6]
      have R6 := P.rp.fr hf6 (zrp3 ho)
      have r1 : upM M6 47 3 0 48 o = iN n := by rw [upM_ne2 (by omega)]; exact R6.1.n
      have e7 : f_X7_lay M6 (iN o) (iN m) = some (iN n, EM o (iN m) (upM M6 47 3 0)) := by
        simp (disch := omega) only [f_X7_lay, t_isOrder ho, bd_some, t_lets1, e10, if_false, in91 hm, upM_up, chk_inb, clamp_iN, r1, t_empty (show o < 5 by omega)]
        rfl
      have hE : TG o (upM M6 47 3 0) (EM o (iN m) (upM M6 47 3 0)) := EM_tg
      exact fin_ok hJ ho (by simp only [f_L_lay, e6, bd_some, lx]) e7 (TG47 hE) hf6 zcl3 (fun p hp hne => (SO.cd hp).trans (hE.so (by omega) hp hne)) (St_0 hm) (w := fun _ => 0) ⟨hm, hn6, fun k hk => ⟨by rw [(hv6 k (by omega)).1]; rfl, Nat.two_pow_pos m⟩⟩ (fun k hk => (hv6 k (by omega)).2) (LOW.cd.trans hE.low) (EM_rp (by omega) hm)
    · have e6 : f_X6_lay M (iN o) a2 = some (.inl eA, M) := by simp only [f_X6_lay, s_orderAt ho, bd_some, cx, kd4 ho, chk_t, h1]
      have e7 : f_X7_lay M (iN o) a2 = some (0, upM M 47 3 2) := by simp only [f_X7_lay, t_isOrder ho, bd_some, t_lets1, e10, if_false, h2, t_lets0, if_true, upM_up]
      exact LI_ex (by simp only [f_L_lay, e6, bd_some, lx, eAI, if_false, if_true]) e7 cd_at h20 (hJ.cd 2)
  · have e6 : f_X6_lay M a1 a2 = some (.inl eI, M) := by simp only [f_X6_lay, h1, bd_some, cx]
    have e7 : f_X7_lay M a1 a2 = some (0, upM M 47 3 1) := by simp only [f_X7_lay, h2, bd_some, t_lets0, if_true]
    exact LI_ex (by simp only [f_L_lay, e6, bd_some, lx, if_true]) e7 cd_at h10 (hJ.cd 1)
theorem c_1 (hJ : J M) : OKJ (f_law_1 M a1 a2 a3) := by
  show OKJ (LI (f_L_chain M a1 a2) (fun M => f_X7_chain M a1 a2))
  rcases ordc a1 with ⟨o, ho, rfl⟩ | ⟨h1, h2⟩
  · obtain ⟨n, b, P⟩ := hJ o ho
    rcases manyc a2 with ⟨m, hm, rfl⟩ | ⟨h1, h2⟩
    · obtain ⟨M5, x5, hf5, hn5, hv5⟩ := s_clearTo (M := M) (q := 2 + 3 * o) (iN m)
      obtain ⟨M6, x6, hf6, hv6⟩ := s_lineUp hm hn5
      have hn6 : M6 (2 + 3 * o) 0 = iN m := by rw [hf6 _ (by simp)]; exact hn5
      have h6 : OR M6 (2 + 3 * o) m lin := ⟨hm, hn6, fun k hk => ⟨hv6 k hk, lin_lt hk⟩⟩
      have e6 : f_X6_chain M (iN o) (iN m) = some (.inr (iN (S m fun k => pc (lin k))), M6) := by
        simp only [f_X6_chain, s_orderAt ho, bd_some, cx, kd4 ho, chk_t, many1 hm, x5, x6, s_pairCount h6]
      have hE : TG o (upM M6 47 3 0) (EM o (iN m) (upM M6 47 3 0)) := EM_tg
      obtain ⟨M7, x7, hT7, hR7⟩ := t_chainRow hm (EM_rp (M := upM M6 47 3 0) (o := o) (by omega) hm) ho
      have e7 : f_X7_chain M6 (iN o) (iN m) = some (iN (S m fun k => pc (lin k)), M7) := by
        have hem : f_X7_empty (upM M6 47 3 0) (iN o) (iN m) = some (EM o (iN m) (upM M6 47 3 0)) := t_empty (by omega) _
        simp (disch := omega) only [f_X7_chain, t_isOrder ho, bd_some, t_lets1, e10, if_false, in91 hm, upM_up, hem, x7]
      have hT := hE.trans hT7
      exact fin_ok hJ ho (by simp only [f_L_chain, e6, bd_some, lx]) e7 (TG47 hT) (hf5.trans (hf6.mono (by intro a ha; simp only [List.mem_cons, List.not_mem_nil, or_false] at ha ⊢; omega))) zcl3 (fun p hp hne => (SO.cd hp).trans (hT.so (by omega) hp hne)) (St_lin hm) (w := fun _ => 0) h6 (fun k hk => by rw [hf6 _ (by simp)]; exact (hv5 k (by omega)).2) (LOW.cd.trans hT.low) hR7
    · have e6 : f_X6_chain M (iN o) a2 = some (.inl eA, M) := by simp only [f_X6_chain, s_orderAt ho, bd_some, cx, kd4 ho, chk_t, h1]
      have e7 : f_X7_chain M (iN o) a2 = some (0, upM M 47 3 2) := by simp only [f_X7_chain, t_isOrder ho, bd_some, t_lets1, e10, if_false, h2, t_lets0, if_true, upM_up]
      exact LI_ex (by simp only [f_L_chain, e6, bd_some, lx, eAI, if_false, if_true]) e7 cd_at h20 (hJ.cd 2)
  · have e6 : f_X6_chain M a1 a2 = some (.inl eI, M) := by simp only [f_X6_chain, h1, bd_some, cx]
    have e7 : f_X7_chain M a1 a2 = some (0, upM M 47 3 1) := by simp only [f_X7_chain, h2, bd_some, t_lets0, if_true]
    exact LI_ex (by simp only [f_L_chain, e6, bd_some, lx, if_true]) e7 cd_at h10 (hJ.cd 1)
theorem c_2 (hJ : J M) : OKJ (f_law_2 M a1 a2 a3) := by
  show OKJ (LI (f_L_add M a1 a2) (fun M => f_X7_add M a1 a2))
  have e9 : (9 : Int32) = iN 9 := rfl
  rcases ordc a1 with ⟨o, ho, rfl⟩ | ⟨h1, h2⟩
  · obtain ⟨n, b, P⟩ := hJ o ho
    have h9 := P.2.1.le
    have P7 := P.cd ho 0
    rcases valc a2 with ⟨h1, h2⟩ | ⟨h1, h2⟩
    · rcases Nat.lt_or_ge n 9 with hn | hn
      · obtain ⟨M6, x6, hf6, h6, hv6⟩ := s_append P.2.1 hn a2
        have e6 : f_X6_add M (iN o) a2 = some (.inr (iN n), M6) := by
          simp (disch := omega) only [f_X6_add, s_orderAt ho, bd_some, cx, kd4 ho, chk_t, h1, P.2.1.n, e9, iN_lt, if_pos hn, x6]
        have R6 := (P.rp.fr hf6 (zrp3 ho)).cd (x := 0)
        obtain ⟨M7, x7, hT7, hR7⟩ := t_addRow hn ho R6 a2
        have e7 : f_X7_add M6 (iN o) a2 = some (iN n, M7) := by
          simp (disch := omega) only [f_X7_add, t_isOrder ho, bd_some, t_lets1, e10, if_false, h2, upM_up, chk_inb, clamp_iN, R6.1.n, e9, iN_le, if_neg (show ¬ 9 ≤ n by omega), f_X7_add_L47, iN_s, x7]
        exact fin_ok hJ ho (by simp only [f_L_add, e6, bd_some, lx]) e7 (TG47 hT7) hf6 zcl3 (fun p hp hne => (SO.cd hp).trans (hT7.so (by omega) hp hne)) (ap1_St P.1 hn) h6 hv6 (LOW.cd.trans hT7.low) hR7
      · have e6 : f_X6_add M (iN o) a2 = some (.inl eS, M) := by
          simp (disch := omega) only [f_X6_add, s_orderAt ho, bd_some, cx, kd4 ho, chk_t, h1, P.2.1.n, e9, iN_lt, if_neg (show ¬ n < 9 by omega)]
        have e7 : f_X7_add M (iN o) a2 = some (0, upM M 47 3 3) := by
          simp (disch := omega) only [f_X7_add, t_isOrder ho, bd_some, t_lets1, e10, if_false, h2, upM_up, chk_inb, clamp_iN, P7.2.2.1.n, e9, iN_le, if_pos hn, f_X7_add_L47, t_lets0, if_true]
        exact LI_ex (by simp only [f_L_add, e6, bd_some, lx, eSI, eSA, if_false, if_true]) e7 cd_at h30 (hJ.cd 3)
    · have e6 : f_X6_add M (iN o) a2 = some (.inl eA, M) := by simp only [f_X6_add, s_orderAt ho, bd_some, cx, kd4 ho, chk_t, h1]
      have e7 : f_X7_add M (iN o) a2 = some (0, upM M 47 3 2) := by simp only [f_X7_add, t_isOrder ho, bd_some, t_lets1, e10, if_false, h2, t_lets0, if_true, upM_up]
      exact LI_ex (by simp only [f_L_add, e6, bd_some, lx, eAI, if_false, if_true]) e7 cd_at h20 (hJ.cd 2)
  · have e6 : f_X6_add M a1 a2 = some (.inl eI, M) := by simp only [f_X6_add, h1, bd_some, cx]
    have e7 : f_X7_add M a1 a2 = some (0, upM M 47 3 1) := by simp only [f_X7_add, h2, bd_some, t_lets0, if_true]
    exact LI_ex (by simp only [f_L_add, e6, bd_some, lx, if_true]) e7 cd_at h10 (hJ.cd 1)
end CC
