/-! ===== the law's cases: the checksum ===== -/
def ME (n : Nat) (b : Nat → Nat) (v : Nat → Int32) (h : Int64) : Nat → Int64
  | 0 => 31 * h + (iN n).toInt64
  | k + 1 => 31 * (31 * ME n b v h k + (iN (b k)).toInt64) + (v k).toInt64
def MX (n : Nat) (b : Nat → Nat) (v : Nat → Int32) (h : Int64) : Int64 := 31 * (31 * (31 * (31 * ME n b v h n + (iN (ct (2 ^ n) (cl b n))).toInt64) + (iN (RW b n)).toInt64) + (iN (wd b n)).toInt64) + (iN (hh b n)).toInt64
theorem ME_congr {n : Nat} {b : Nat → Nat} {v v' : Nat → Int32} {h : Int64} (m : Nat) (e : ∀ k < m, v k = v' k) : ME n b v h m = ME n b v' h m := by
  induction m with
  | zero => rfl
  | succ m ih => rw [ME, ME, ih (fun k hk => e k (by omega)), e m (by omega)]
theorem MX_congr {n : Nat} {b : Nat → Nat} {v v' : Nat → Int32} {h : Int64} (e : ∀ k < n, v k = v' k) : MX n b v h = MX n b v' h := by
  unfold MX; rw [ME_congr n e]
theorem s_mixedIn {M : Mem} {q n : Nat} {b : Nat → Nat} (hS : St b n) (h : OR M q n b) (hq : q + 2 < 20) (x : Int64) : ∃ r, f_X6_mixedIn M x q = some r ∧ (r.1 = MX n b (M (q + 2)) x ∧ Fr M r.2 [21]) := by
  have h9 := h.le
  have h8 := p2_le h9
  obtain ⟨⟨r6, M6⟩, x6, hr6, hf6, -⟩ := s_rcount' (q := 20) hS h (by omega)
  dsimp only at hr6 hf6
  subst hr6
  have h6 : OR M6 q n b := h.fr hf6 (by simp only [List.mem_cons, List.not_mem_nil, or_false]; omega) (by simp only [List.mem_cons, List.not_mem_nil, or_false]; omega)
  refine ⟨(MX n b (M (q + 2)) x, M6), ?_, rfl, hf6⟩
  unfold f_X6_mixedIn
  rw [bd_some, h.n]
  have hl : f_X0_longestWithin M6 q (iN (2 ^ n - 1)) = some (iN (hh b n)) := s_longestWithin h6 (by omega)
  refine lp_for (fun j => (ME n b (M (q + 2)) x j, iN j)) n (FU_lt h9) ?_ ?_
  · intro j hj k
    have h1 := h.lt9 hj
    simp (disch := omega) only [g_X6_mixedIn_L16, h.n, if_neg (show ¬ n ≤ j by omega), h.b hj, ME, iN_le, iN_lt, chk_inb, chk_t, clamp_iN, bd_some, iN_add, iN_s, iN_and, iN_or, iN_shl, e10, e01, e00, bI_0, bI_1, bI_t, bI_f, has_iN, bitc, within_iN, mk_or1, xhas_iN, add_z, if_true, if_false, ite_true, ite_false, reduceCtorEq, Bool.false_eq_true, Bool.true_and, Bool.false_and, Bool.and_true, Bool.and_false, Bool.not_true, Bool.not_false]
  · intro k
    simp (disch := omega) only [g_X6_mixedIn_L16, h.n, if_pos (Nat.le_refl n), s_count h, x6, s_mostApart h6, s_all h6, hl, iN_le, iN_lt, chk_inb, chk_t, clamp_iN, bd_some, iN_add, iN_s, iN_and, iN_or, iN_shl, e10, e01, e00, bI_0, bI_1, bI_t, bI_f, has_iN, bitc, within_iN, mk_or1, xhas_iN, add_z, if_true, if_false, ite_true, ite_false, reduceCtorEq, Bool.false_eq_true, Bool.true_and, Bool.false_and, Bool.and_true, Bool.and_false, Bool.not_true, Bool.not_false]
    rfl
theorem t_mixed {M : Mem} {o n : Nat} {b : Nat → Nat} (hS : St b n) (h : MR M o n b) (ho4 : o < 4) (x : Int64) : ∃ M', Fr M M' [106, 109] ∧ ∀ k11, g_X7_checksum_L11 k11 (x, iN o, M) = k11 (MX n b (M (50 + o)) x, iN (o + 1), M') := by
  have h9 := h.le
  have ho := h.o
  obtain ⟨⟨r7, M7⟩, x7, hr7, hf7, -⟩ := t_rowsOf h
  dsimp only at hr7 hf7
  subst hr7
  have h7 := h.fr2 hf7
  have hw : f_X7_mostOf M7 (iN o) 0 = some (iN (wd b n)) := by rw [wd_eq hS]; exact t_mostOf h7 false
  have hh' : f_X7_mostOf M7 (iN o) 1 = some (iN (hh b n)) := by rw [hh_eq hS]; exact t_mostOf h7 true
  refine ⟨M7, hf7, fun k11 => ?_⟩
  have e4 : (4 : Int32) = iN 4 := rfl
  have H : f_X7_checksum_L33 M (iN o) k11 FU (31 * x + (iN n).toInt64, 0) = k11 (MX n b (M (50 + o)) x, iN (o + 1), M7) := by
    refine lp_for (fun j => (ME n b (M (50 + o)) x j, iN j)) n (FU_lt h9) ?_ ?_
    · intro j hj k
      simp (disch := omega) only [g_X7_checksum_L33, h.n, if_neg (show ¬ n ≤ j by omega), t_lowerOf h hj, ME, iN_le, iN_lt, chk_inb, chk_t, clamp_iN, bd_some, iN_add, iN_s, iN_and, iN_or, iN_shl, e10, e01, e00, bI_0, bI_1, bI_t, bI_f, has_iN, bitc, within_iN, mk_or1, xhas_iN, add_z, if_true, if_false, ite_true, ite_false, reduceCtorEq, Bool.false_eq_true, Bool.true_and, Bool.false_and, Bool.and_true, Bool.and_false, Bool.not_true, Bool.not_false]
    · intro k
      simp (disch := omega) only [g_X7_checksum_L33, h.n, if_pos (Nat.le_refl n), t_manyOf h, x7, hw, hh', iN_le, iN_lt, chk_inb, chk_t, clamp_iN, bd_some, iN_add, iN_s, iN_and, iN_or, iN_shl, e10, e01, e00, bI_0, bI_1, bI_t, bI_f, has_iN, bitc, within_iN, mk_or1, xhas_iN, add_z, if_true, if_false, ite_true, ite_false, reduceCtorEq, Bool.false_eq_true, Bool.true_and, Bool.false_and, Bool.and_true, Bool.and_false, Bool.not_true, Bool.not_false]
      rfl
  simp (disch := omega) only [g_X7_checksum_L11, e4, if_neg (show ¬ 4 ≤ o by omega), h.n, H, iN_le, iN_lt, chk_inb, chk_t, clamp_iN, bd_some, iN_add, iN_s, iN_and, iN_or, iN_shl, e10, e01, e00, bI_0, bI_1, bI_t, bI_f, has_iN, bitc, within_iN, mk_or1, xhas_iN, add_z, if_true, if_false, ite_true, ite_false, reduceCtorEq, Bool.false_eq_true, Bool.true_and, Bool.false_and, Bool.and_true, Bool.and_false, Bool.not_true, Bool.not_false]
section CC
variable {M : Mem} {a1 a2 a3 : Int32}
theorem c_54 (hJ : J M) : OKJ (f_law_54 M a1 a2 a3) := by
  have hc : ∀ o, ∃ nb : Nat × (Nat → Nat), o < 4 → PO M o nb.1 nb.2 := by
    intro o
    by_cases ho : o < 4
    · obtain ⟨n, b, P⟩ := hJ o ho
      exact ⟨(n, b), fun _ => P⟩
    · exact ⟨(0, fun _ => 0), fun h => absurd h ho⟩
  obtain ⟨F, hF⟩ := Classical.axiomOfChoice hc
  let T : Nat → Int64 := fun j => Nat.rec (17 : Int64) (fun o h => MX (F o).1 (F o).2 (M (50 + o)) h) j
  have T0 : T 0 = 17 := rfl
  have Ts : ∀ o, T (o + 1) = MX (F o).1 (F o).2 (M (50 + o)) (T o) := fun _ => rfl
  clear_value T
  have e4 : (4 : Int32) = iN 4 := rfl
  have key6 : ∃ r, f_X6_checksum_L6 FU (17, 0, M) = some r ∧ (r.1 = T 4 ∧ Fr M r.2 [21]) := by
    refine lp_to (fun j a => j ≤ 4 ∧ a.1 = T j ∧ a.2.1 = iN j ∧ Fr M a.2.2 [21]) 4 (by unfold FU; omega) ⟨Nat.zero_le _, T0.symm, rfl, Fr.refl _ _⟩ ?_
    rintro j ⟨a1, a2, Mj⟩ ⟨hj, h1, h2, hf⟩
    dsimp only at h1 h2 hf
    subst h1 h2
    rcases Nat.lt_or_ge j 4 with hl | hl
    · left
      have P := hF j hl
      have Pj := P.fr hl hf (scrL (by decide))
      obtain ⟨⟨r6, M6⟩, x6, hr6, hf6⟩ := s_mixedIn (q := 2 + 3 * j) P.1 Pj.2.1 (by omega) (T j)
      dsimp only at hr6 hf6
      have hv : r6 = T (j + 1) := by
        rw [hr6, Ts]
        refine MX_congr (fun k hk => ?_)
        rw [hf _ (by simp only [List.mem_cons, List.not_mem_nil, or_false]; omega)]
        exact P.2.2.2.1 k hk
      subst hv
      refine ⟨hl, (T (j + 1), iN (j + 1), M6), ⟨by omega, rfl, rfl, hf.trans hf6⟩, fun k => ?_⟩
      simp (disch := omega) only [g_X6_checksum_L6, e4, iN_le, if_neg (show ¬ 4 ≤ j by omega), chk_inb, clamp_iN, x6, bd_some, iN_s]
    · right
      have e : j = 4 := by omega
      subst e
      refine ⟨(T 4, Mj), ⟨rfl, hf⟩, fun k => ?_⟩
      simp (disch := omega) only [g_X6_checksum_L6, e4, iN_le, if_pos (Nat.le_refl 4)]
  obtain ⟨⟨r6, M6⟩, x6, hr6, hf6⟩ := key6
  dsimp only at hr6 hf6
  subst hr6
  have J6 := (hJ.fr hf6 (scrL (by decide))).cd 0
  have key7 : ∃ r, f_X7_checksum_L11 FU (17, 0, upM M6 47 3 0) = some r ∧ (r.1 = T 4 ∧ Fr (upM M6 47 3 0) r.2 [106, 109]) := by
    refine lp_to (fun j a => j ≤ 4 ∧ a.1 = T j ∧ a.2.1 = iN j ∧ Fr (upM M6 47 3 0) a.2.2 [106, 109]) 4 (by unfold FU; omega) ⟨Nat.zero_le _, T0.symm, rfl, Fr.refl _ _⟩ ?_
    rintro j ⟨a1, a2, Mj⟩ ⟨hj, h1, h2, hf⟩
    dsimp only at h1 h2 hf
    subst h1 h2
    rcases Nat.lt_or_ge j 4 with hl | hl
    · left
      have P := hF j hl
      have Pj := ((P.fr hl hf6 (scrL (by decide))).cd hl 0).fr hl hf (scrL (by decide))
      obtain ⟨M7, hf7, x7⟩ := t_mixed P.1 Pj.2.2.1 hl (T j)
      have hv : MX (F j).1 (F j).2 (Mj (50 + j)) (T j) = T (j + 1) := by
        rw [Ts]
        refine MX_congr (fun k hk => ?_)
        rw [hf _ (nmem2 (by omega) (by omega)), upM_ne2 (by omega), hf6 _ (by simp only [List.mem_cons, List.not_mem_nil, or_false]; omega)]
      rw [hv] at x7
      exact ⟨hl, (T (j + 1), iN (j + 1), M7), ⟨by omega, rfl, rfl, hf.trans hf7⟩, x7⟩
    · right
      have e : j = 4 := by omega
      subst e
      refine ⟨(T 4, Mj), ⟨rfl, hf⟩, fun k => ?_⟩
      simp (disch := omega) only [g_X7_checksum_L11, e4, iN_le, if_pos (Nat.le_refl 4)]
  obtain ⟨⟨r7, M7⟩, x7, hr7, hf7⟩ := key7
  dsimp only at hr7 hf7
  subst hr7
  have e6 : f_X6_checksum M = some (T 4, M6) := x6
  have e7 : f_X7_checksum M6 = some (T 4, M7) := by
    simp only [f_X7_checksum, bd_some, x7]
  refine ⟨M7, ?_, J6.fr hf7 (scrL (by decide))⟩
  simp only [f_law_54, e6, e7, bd_some, lgc, if_true]
end CC
