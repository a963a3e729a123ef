/-! ===== the theorem always holds ===== -/
section RT
variable {M : Mem} {q0 q1 q2 n n1 n2 : Nat} {b b1 b2 : Nat → Nat}
set_option maxRecDepth 100000 in
theorem s_becomeJoined (h1 : OR M q1 n1 b1) (h2 : OR M q2 n2 b2) (hn : n1 + n2 ≤ 9) (d1 : dj q0 q1) (d2 : dj q0 q2) (st : Bool) : ∃ M', f_X3_becomeJoined M q0 q1 q2 (bI st) = some M' ∧ (Fr M M' [q0, q0 + 1, q0 + 2] ∧ OR M' q0 (n1 + n2) (jn b1 n1 b2 n2 st) ∧ ∀ k < n1 + n2, M' (q0 + 2) k = if k < n1 then M (q1 + 2) k else M (q2 + 2) (k - n1)) := by
  unfold dj at d1 d2
  obtain ⟨M1, e1, hf1, hn1, hv1⟩ := s_clearTo (M := M) (q := q0) (iN (n1 + n2))
  have hmin : jmin 9 (iN n1 + iN n2) = iN (n1 + n2) := by
    rw [iN_add, show (9 : Int32) = iN 9 from rfl, jmin_iN (by decide) (by omega), Nat.min_eq_right hn]
  have c1 : ∀ a, a = q1 ∨ a = q1 + 1 ∨ a = q1 + 2 ∨ a = q2 ∨ a = q2 + 1 ∨ a = q2 + 2 → a ∉ [q0, q0 + 1, q0 + 2] := fun a ha => by
    simp only [List.mem_cons, List.not_mem_nil, or_false, not_or]; omega
  -- the second loop
  have second : ∀ M2 : Mem, Fr M M2 [q0, q0 + 1, q0 + 2] → M2 q0 0 = iN (n1 + n2) → (∀ k < n1, M2 (q0 + 1) k = iN (b1 k) ∧ M2 (q0 + 2) k = M (q1 + 2) k) → ∃ M', f_X3_becomeJoined_L70 q0 q1 q2 (bI st) (iN n1) FU (iN n1, M2) = some M' ∧ (Fr M M' [q0, q0 + 1, q0 + 2] ∧ OR M' q0 (n1 + n2) (jn b1 n1 b2 n2 st) ∧ ∀ k < n1 + n2, M' (q0 + 2) k = if k < n1 then M (q1 + 2) k else M (q2 + 2) (k - n1)) := by
    intro M2 hf2 hn2 hv2
    refine lp_to (fun j a => j ≤ n2 ∧ a.1 = iN (n1 + j) ∧ Fr M a.2 [q0, q0 + 1, q0 + 2] ∧ a.2 q0 0 = iN (n1 + n2) ∧ ∀ k < n1 + j, a.2 (q0 + 1) k = iN (jn b1 n1 b2 n2 st k) ∧ a.2 (q0 + 2) k = if k < n1 then M (q1 + 2) k else M (q2 + 2) (k - n1)) n2 (FU_lt (by omega)) ⟨by omega, rfl, hf2, hn2, fun k hk => ?_⟩ ?_
    · dsimp only
      rw [if_pos (by omega), jn_lo (fun k hk => h1.lt hk) (by omega)]
      exact hv2 k (by omega)
    · rintro j ⟨a, M3⟩ ⟨hj, h0, hf3, hn3, hv3⟩
      dsimp only at h0 hf3 hn3 hv3
      subst h0
      rcases Nat.lt_or_ge j n2 with hl | hl
      · left
        have hb2 : M3 (q2 + 1) j = iN (b2 j) := by rw [hf3 (q2 + 1) (c1 _ (by omega))]; exact h2.b hl
        have hw2 : ∀ x : Int32, upM M3 (q0 + 1) (n1 + j) x (q2 + 2) j = M (q2 + 2) j := fun x => by rw [upM_ne2 (by omega), hf3 (q2 + 2) (c1 _ (by omega))]
        have hal : f_X3_all M3 q1 = some (iN (2 ^ n1 - 1)) := s_all (h1.fr hf3 (c1 _ (by omega)) (c1 _ (by omega)))
        have hsub : iN (n1 + j) - iN n1 = iN j := by rw [iN_sub (by omega), Nat.add_sub_cancel_left]
        have hsh : iN (b2 j) <<< (iN n1 &&& 31) = iN (b2 j * 2 ^ n1) := iN_shl2 (h2.lt9 hl) (by omega)
        have hjn := jn_hi (b1 := b1) (n1 := n1) (st := st) (fun k hk => h2.lt hk) hl
        refine ⟨hl, (iN (n1 + j + 1), upM (upM M3 (q0 + 1) (n1 + j) (iN (jn b1 n1 b2 n2 st (n1 + j)))) (q0 + 2) (n1 + j) (M (q2 + 2) j)), ⟨hl, rfl, (hf3.trans (Fr.up (by simp))).trans (Fr.up (by simp)), ?_, fun k hk => ?_⟩, fun k => ?_⟩
        · dsimp only
          rw [upM_ne2 (by omega), upM_ne2 (by omega)]; exact hn3
        · dsimp only
          rw [upM_ne2 (by omega), upM_at, upM_at, upM_ne2 (by omega)]
          by_cases e : k = n1 + j
          · rw [if_pos e, if_pos e, if_neg (by omega), e, Nat.add_sub_cancel_left]; exact ⟨rfl, rfl⟩
          · rw [if_neg e, if_neg e]; exact hv3 k (by omega)
        · have e0 : iN (b2 j * 2 ^ n1) ||| (0 : Int32) = iN (b2 j * 2 ^ n1) := by rw [iN_0, iN_or, Nat.or_zero]
          cases st with
          | false =>
            have hjn' : jn b1 n1 b2 n2 false (n1 + j) = b2 j * 2 ^ n1 := by rw [hjn]; simp
            rw [hjn']
            simp (disch := omega) only [g_X3_becomeJoined_L70, hn3, if_neg (show ¬ n1 + n2 ≤ n1 + j by omega), hsub, hb2, hsh, e0, hw2, iN_le, iN_lt, chk_inb, chk_t, clamp_iN, bd_some, iN_add, iN_s, iN_and, iN_or, iN_shl, e10, e01, e00, bI_0, bI_1, bI_t, bI_f, has_iN, bitc, within_iN, mk_or1, xhas_iN, add_z, if_true, if_false, ite_true, ite_false, reduceCtorEq, Bool.false_eq_true, Bool.true_and, Bool.false_and, Bool.and_true, Bool.and_false, Bool.not_true, Bool.not_false]
          | true =>
            have hjn' : jn b1 n1 b2 n2 true (n1 + j) = b2 j * 2 ^ n1 ||| (2 ^ n1 - 1) := by rw [hjn]; simp
            rw [hjn']
            simp (disch := omega) only [g_X3_becomeJoined_L70, hn3, if_neg (show ¬ n1 + n2 ≤ n1 + j by omega), hsub, hb2, hsh, hal, hw2, iN_le, iN_lt, chk_inb, chk_t, clamp_iN, bd_some, iN_add, iN_s, iN_and, iN_or, iN_shl, e10, e01, e00, bI_0, bI_1, bI_t, bI_f, has_iN, bitc, within_iN, mk_or1, xhas_iN, add_z, if_true, if_false, ite_true, ite_false, reduceCtorEq, Bool.false_eq_true, Bool.true_and, Bool.false_and, Bool.and_true, Bool.and_false, Bool.not_true, Bool.not_false]
      · right
        have e : j = n2 := by omega
        subst e
        refine ⟨M3, ⟨hf3, ⟨hn, hn3, fun k hk => ⟨(hv3 k hk).1, jn_lt k⟩⟩, fun k hk => (hv3 k hk).2⟩, fun k => ?_⟩
        simp (disch := omega) only [g_X3_becomeJoined_L70, hn3, if_pos (Nat.le_refl (n1 + j)), iN_le, iN_lt, chk_inb, chk_t, clamp_iN, bd_some, iN_add, iN_s, iN_and, iN_or, iN_shl, e10, e01, e00, bI_0, bI_1, bI_t, bI_f, has_iN, bitc, within_iN, mk_or1, xhas_iN, add_z, if_true, if_false, ite_true, ite_false, reduceCtorEq, Bool.false_eq_true, Bool.true_and, Bool.false_and, Bool.and_true, Bool.and_false, Bool.not_true, Bool.not_false]
  unfold f_X3_becomeJoined
  rw [bd_some, h1.n, h2.n, hmin, e1, bd_some]
  refine lp_to (fun j a => j ≤ n1 ∧ a.1 = iN j ∧ Fr M a.2 [q0, q0 + 1, q0 + 2] ∧ a.2 q0 0 = iN (n1 + n2) ∧ ∀ k < j, a.2 (q0 + 1) k = iN (b1 k) ∧ a.2 (q0 + 2) k = M (q1 + 2) k) n1 (FU_lt (by omega)) ⟨by omega, rfl, hf1, hn1, fun k hk => by omega⟩ ?_
  rintro j ⟨a, M2⟩ ⟨hj, h0, hf2, hn2, hv2⟩
  dsimp only at h0 hf2 hn2 hv2
  subst h0
  rcases Nat.lt_or_ge j n1 with hl | hl
  · left
    have hb1 : M2 (q1 + 1) j = iN (b1 j) := by rw [hf2 (q1 + 1) (c1 _ (by omega))]; exact h1.b hl
    have hw1 : upM M2 (q0 + 1) j (iN (b1 j)) (q1 + 2) j = M (q1 + 2) j := by rw [upM_ne2 (by omega), hf2 (q1 + 2) (c1 _ (by omega))]
    refine ⟨hl, (iN (j + 1), upM (upM M2 (q0 + 1) j (iN (b1 j))) (q0 + 2) j (M (q1 + 2) j)), ⟨hl, rfl, (hf2.trans (Fr.up (by simp))).trans (Fr.up (by simp)), ?_, fun k hk => ?_⟩, fun k => ?_⟩
    · dsimp only
      rw [upM_ne2 (by omega), upM_ne2 (by omega)]; exact hn2
    · dsimp only
      rw [upM_ne2 (by omega), upM_at, upM_at, upM_ne2 (by omega)]
      by_cases e : k = j
      · simp [e]
      · simp only [if_neg e]; exact hv2 k (by omega)
    · simp (disch := omega) only [g_X3_becomeJoined_L25, if_neg (show ¬ n1 ≤ j by omega), hb1, hw1, iN_le, iN_lt, chk_inb, chk_t, clamp_iN, bd_some, iN_add, iN_s, iN_and, iN_or, iN_shl, e10, e01, e00, bI_0, bI_1, bI_t, bI_f, has_iN, bitc, within_iN, mk_or1, xhas_iN, add_z, if_true, if_false, ite_true, ite_false, reduceCtorEq, Bool.false_eq_true, Bool.true_and, Bool.false_and, Bool.and_true, Bool.and_false, Bool.not_true, Bool.not_false]
  · right
    have e : j = n1 := by omega
    subst e
    obtain ⟨M', e', hM'⟩ := second M2 hf2 hn2 hv2
    refine ⟨M', hM', fun k => ?_⟩
    simp (disch := omega) only [g_X3_becomeJoined_L25, if_pos (Nat.le_refl j), e', iN_le, iN_lt, chk_inb, chk_t, clamp_iN, bd_some, iN_add, iN_s, iN_and, iN_or, iN_shl, e10, e01, e00, bI_0, bI_1, bI_t, bI_f, has_iN, bitc, within_iN, mk_or1, xhas_iN, add_z, if_true, if_false, ite_true, ite_false, reduceCtorEq, Bool.false_eq_true, Bool.true_and, Bool.false_and, Bool.and_true, Bool.and_false, Bool.not_true, Bool.not_false]
theorem s_longestOf (hS : St b n) (h : OR M q1 n b) : f_X5_longestOf M q1 = some (iN (hh b n)) := by
  have h8 := p2_le h.le
  have h7 := Nat.two_pow_pos n
  have hl : f_X0_longestWithin M q1 (iN (2 ^ n - 1)) = some (iN (hh b n)) := s_longestWithin h (by omega)
  unfold f_X5_longestOf
  simp (disch := omega) only [s_all h, hl, iN_le, iN_lt, chk_inb, chk_t, clamp_iN, bd_some, iN_add, iN_s, iN_and, iN_or, iN_shl, e10, e01, e00, bI_0, bI_1, bI_t, bI_f, has_iN, bitc, within_iN, mk_or1, xhas_iN, add_z, if_true, if_false, ite_true, ite_false, reduceCtorEq, Bool.false_eq_true, Bool.true_and, Bool.false_and, Bool.and_true, Bool.and_false, Bool.not_true, Bool.not_false]
theorem wd_mo (hS : St b n) : wd b n = mo b n false := wd_eq hS
theorem hh_mo (hS : St b n) : hh b n = mo b n true := hh_eq hS
theorem mo_9 {c : Bool} : mo b n c ≤ 9 := mx_le9 (fun k _ => by
  split
  · exact pc_le _
  · omega)
theorem s_besideFits (hS1 : St b1 n1) (hS2 : St b2 n2) (h1 : OR M q1 n1 b1) (h2 : OR M q2 n2 b2) (hn : n1 + n2 ≤ 9) (hd1 : q1 + 2 < 27) (hd2 : q2 + 2 < 27) : ∃ r, f_X5_besideFits M q1 q2 = some r ∧ (r.1 = 1 ∧ Fr M r.2 [27, 28, 29, 34, 38]) := by
  obtain ⟨M1, e1, hf1, ho1, -⟩ := s_becomeJoined (q0 := 27) h1 h2 hn (by unfold dj; omega) (by unfold dj; omega) false
  have e1' : f_X3_becomeJoined M 27 q1 q2 0 = some M1 := e1
  have a1 : OR M1 q1 n1 b1 := h1.fr hf1 (by simp; omega) (by simp; omega)
  have a2 : OR M1 q2 n2 b2 := h2.fr hf1 (by simp; omega) (by simp; omega)
  have hSj := jn_St (st := false) hS1 hS2 hn
  obtain ⟨⟨r2, M2⟩, e2, hr2, hf2, -⟩ := s_rcount' (q := 37) hSj ho1 (by omega)
  dsimp only at hr2 hf2
  subst hr2
  have b1' : OR M2 q1 n1 b1 := a1.fr hf2 (by simp; omega) (by simp; omega)
  have b2' : OR M2 q2 n2 b2 := a2.fr hf2 (by simp; omega) (by simp; omega)
  have bo : OR M2 27 (n1 + n2) (jn b1 n1 b2 n2 false) := ho1.fr hf2 (by simp) (by simp)
  obtain ⟨⟨r3, M3⟩, e3, hr3, hf3, -⟩ := s_rcount' (q := 33) hS1 b1' (by omega)
  dsimp only at hr3 hf3
  subst hr3
  have c1' : OR M3 q1 n1 b1 := b1'.fr hf3 (by simp; omega) (by simp; omega)
  have c2' : OR M3 q2 n2 b2 := b2'.fr hf3 (by simp; omega) (by simp; omega)
  have co' : OR M3 27 (n1 + n2) (jn b1 n1 b2 n2 false) := bo.fr hf3 (by simp) (by simp)
  obtain ⟨⟨r4, M4⟩, e4, hr4, hf4, -⟩ := s_rcount' (q := 33) hS2 c2' (by omega)
  dsimp only at hr4 hf4
  subst hr4
  have d1' : OR M4 q1 n1 b1 := c1'.fr hf4 (by simp; omega) (by simp; omega)
  have d2' : OR M4 q2 n2 b2 := c2'.fr hf4 (by simp; omega) (by simp; omega)
  have do' : OR M4 27 (n1 + n2) (jn b1 n1 b2 n2 false) := co'.fr hf4 (by simp) (by simp)
  have hw := ways_all n1 (by omega) n2 (by omega) hn
  have m1 := mo_9 (b := b1) (n := n1) (c := true)
  have m2 := mo_9 (b := b2) (n := n2) (c := true)
  unfold f_X5_besideFits
  refine ⟨(1, M4), ?_, rfl, (((hf1.mono (by simp)).trans (hf2.mono (by simp))).trans (hf3.mono (by simp))).trans (hf4.mono (by simp))⟩
  simp (disch := omega) only [e1', a1.n, a2.n, hw, e2, e3, e4, RW_beside hS1 hS2 hn, iN_mul, s_count do', s_count d1', s_count d2', cl_beside hS1 hS2 hn, s_mostApart do', s_mostApart d1', s_mostApart d2', wd_mo hSj, wd_mo hS1, wd_mo hS2, mo_sum (st := false) hn, s_longestOf hSj do', s_longestOf hS1 d1', s_longestOf hS2 d2', hh_mo hSj, hh_mo hS1, hh_mo hS2, mo_max (st := false) (c := true) hn (by decide), jmax_iN, iN_le, iN_lt, chk_inb, chk_t, clamp_iN, bd_some, iN_add, iN_s, iN_and, iN_or, iN_shl, e10, e01, e00, bI_0, bI_1, bI_t, bI_f, has_iN, bitc, within_iN, mk_or1, xhas_iN, add_z, if_true, if_false, ite_true, ite_false, reduceCtorEq, Bool.false_eq_true, Bool.true_and, Bool.false_and, Bool.and_true, Bool.and_false, Bool.not_true, Bool.not_false]
theorem s_aboveFits (hS1 : St b1 n1) (hS2 : St b2 n2) (h1 : OR M q1 n1 b1) (h2 : OR M q2 n2 b2) (hn : n1 + n2 ≤ 9) (hd1 : q1 + 2 < 27) (hd2 : q2 + 2 < 27) : ∃ r, f_X5_aboveFits M q1 q2 = some r ∧ (r.1 = 1 ∧ Fr M r.2 [27, 28, 29, 34, 38]) := by
  obtain ⟨M1, e1, hf1, ho1, -⟩ := s_becomeJoined (q0 := 27) h1 h2 hn (by unfold dj; omega) (by unfold dj; omega) true
  have e1' : f_X3_becomeJoined M 27 q1 q2 1 = some M1 := e1
  have a1 : OR M1 q1 n1 b1 := h1.fr hf1 (by simp; omega) (by simp; omega)
  have a2 : OR M1 q2 n2 b2 := h2.fr hf1 (by simp; omega) (by simp; omega)
  have hSj := jn_St (st := true) hS1 hS2 hn
  obtain ⟨⟨r2, M2⟩, e2, hr2, hf2, -⟩ := s_rcount' (q := 37) hSj ho1 (by omega)
  dsimp only at hr2 hf2
  subst hr2
  have b1' : OR M2 q1 n1 b1 := a1.fr hf2 (by simp; omega) (by simp; omega)
  have b2' : OR M2 q2 n2 b2 := a2.fr hf2 (by simp; omega) (by simp; omega)
  have bo : OR M2 27 (n1 + n2) (jn b1 n1 b2 n2 true) := ho1.fr hf2 (by simp) (by simp)
  obtain ⟨⟨r3, M3⟩, e3, hr3, hf3, -⟩ := s_rcount' (q := 33) hS1 b1' (by omega)
  dsimp only at hr3 hf3
  subst hr3
  have c1' : OR M3 q1 n1 b1 := b1'.fr hf3 (by simp; omega) (by simp; omega)
  have c2' : OR M3 q2 n2 b2 := b2'.fr hf3 (by simp; omega) (by simp; omega)
  have co' : OR M3 27 (n1 + n2) (jn b1 n1 b2 n2 true) := bo.fr hf3 (by simp) (by simp)
  obtain ⟨⟨r4, M4⟩, e4, hr4, hf4, -⟩ := s_rcount' (q := 33) hS2 c2' (by omega)
  dsimp only at hr4 hf4
  subst hr4
  have d1' : OR M4 q1 n1 b1 := c1'.fr hf4 (by simp; omega) (by simp; omega)
  have d2' : OR M4 q2 n2 b2 := c2'.fr hf4 (by simp; omega) (by simp; omega)
  have do' : OR M4 27 (n1 + n2) (jn b1 n1 b2 n2 true) := co'.fr hf4 (by simp) (by simp)
  have m1 := mo_9 (b := b1) (n := n1) (c := false)
  have m2 := mo_9 (b := b2) (n := n2) (c := false)
  have hca := cl_above hS1 hS2 hn
  have hcs : iN (ct (2 ^ n1) (cl b1 n1) + ct (2 ^ n2) (cl b2 n2)) - 1 = iN (ct (2 ^ (n1 + n2)) (cl (jn b1 n1 b2 n2 true) (n1 + n2))) := by
    rw [← hca, iN_1, iN_sub (by omega), Nat.add_sub_cancel]
  unfold f_X5_aboveFits
  refine ⟨(1, M4), ?_, rfl, (((hf1.mono (by simp)).trans (hf2.mono (by simp))).trans (hf3.mono (by simp))).trans (hf4.mono (by simp))⟩
  simp (disch := omega) only [e1', e2, e3, e4, RW_above hS1 hS2 hn, iN_mul, s_count do', s_count d1', s_count d2', hcs, s_mostApart do', s_mostApart d1', s_mostApart d2', wd_mo hSj, wd_mo hS1, wd_mo hS2, mo_sum (st := true) hn, s_longestOf hSj do', s_longestOf hS1 d1', s_longestOf hS2 d2', hh_mo hSj, hh_mo hS1, hh_mo hS2, mo_max (st := true) (c := false) hn (by decide), jmax_iN, iN_le, iN_lt, chk_inb, chk_t, clamp_iN, bd_some, iN_add, iN_s, iN_and, iN_or, iN_shl, e10, e01, e00, bI_0, bI_1, bI_t, bI_f, has_iN, bitc, within_iN, mk_or1, xhas_iN, add_z, if_true, if_false, ite_true, ite_false, reduceCtorEq, Bool.false_eq_true, Bool.true_and, Bool.false_and, Bool.and_true, Bool.and_false, Bool.not_true, Bool.not_false]
/-- cells of the theorem's looks -/
def tc : List Nat := [27, 28, 29, 30, 31, 32, 34, 35, 38, 42, 43, 45, 46]
theorem s_holdsForBoth (hS1 : St b1 n1) (hS2 : St b2 n2) (h1 : OR M q1 n1 b1) (h2 : OR M q2 n2 b2) (hn : n1 + n2 ≤ 9) (hd1 : q1 + 2 < 27) (hd2 : q2 + 2 < 27) : ∃ r, f_X5_holdsForBoth M q1 q2 = some r ∧ (r.1 = 1 ∧ Fr M r.2 tc) := by
  obtain ⟨⟨r1, M1⟩, e1, hr1, hf1⟩ := s_besideFits hS1 hS2 h1 h2 hn hd1 hd2
  dsimp only at hr1 hf1
  subst hr1
  have a1 : OR M1 q1 n1 b1 := h1.fr hf1 (by simp; omega) (by simp; omega)
  have a2 : OR M1 q2 n2 b2 := h2.fr hf1 (by simp; omega) (by simp; omega)
  obtain ⟨⟨r2, M2⟩, e2, hr2, hf2⟩ := s_aboveFits hS1 hS2 a1 a2 hn hd1 hd2
  dsimp only at hr2 hf2
  subst hr2
  unfold f_X5_holdsForBoth
  refine ⟨(1, M2), ?_, rfl, (hf1.mono (by unfold tc; simp)).trans (hf2.mono (by unfold tc; simp))⟩
  simp (disch := omega) only [e1, e2, iN_le, iN_lt, chk_inb, chk_t, clamp_iN, bd_some, iN_add, iN_s, iN_and, iN_or, iN_shl, e10, e01, e00, bI_0, bI_1, bI_t, bI_f, has_iN, bitc, within_iN, mk_or1, xhas_iN, add_z, if_true, if_false, ite_true, ite_false, reduceCtorEq, Bool.false_eq_true, Bool.true_and, Bool.false_and, Bool.and_true, Bool.and_false, Bool.not_true, Bool.not_false]
theorem s_holdsFor (hS : St b n) (h : OR M q1 n b) (hd : q1 + 2 < 27) : ∃ r, f_X5_holdsFor M q1 = some r ∧ (r.1 = 1 ∧ Fr M r.2 tc) := by
  have hdj : dj 27 q1 := by unfold dj; omega
  have e0 := s_isOrdered hS h
  have m : ∀ {M' M'' : Mem} {c : List Nat}, OR M' q1 n b → Fr M' M'' c → (∀ a ∈ c, 27 ≤ a) → OR M'' q1 n b := fun h' hf hc => h'.fr hf (fun ha => by have := hc _ ha; omega) (fun ha => by have := hc _ ha; omega)
  obtain ⟨⟨r1, M1⟩, e1, hr1, hf1⟩ := s_linksLeast hS h hdj
  dsimp only at hr1 hf1
  subst hr1
  have h1 := m h hf1 (by simp)
  obtain ⟨⟨r2, M2⟩, e2, hr2, hf2⟩ := s_looseComesBack hS h1 hdj
  dsimp only at hr2 hf2
  subst hr2
  have h2 := m h1 hf2 (by simp)
  obtain ⟨⟨r3, M3⟩, e3, hr3, hf3⟩ := s_growsByGreatest hS h2 (by omega)
  dsimp only at hr3 hf3
  subst hr3
  have h3 := m h2 hf3 (by simp)
  obtain ⟨⟨r4, M4⟩, e4, hr4, hf4⟩ := s_rowsTellPairs hS h3 (by omega)
  dsimp only at hr4 hf4
  subst hr4
  have h4 := m h3 hf4 (by simp)
  obtain ⟨⟨r5, M5⟩, e5, hr5, hf5⟩ := s_coversFit hS h4 (by omega)
  dsimp only at hr5 hf5
  subst hr5
  have h5 := m h4 hf5 (by simp)
  obtain ⟨⟨r6, M6⟩, e6, hr6, hf6⟩ := s_closedSetsFit hS h5 (by omega)
  dsimp only at hr6 hf6
  subst hr6
  have h6 := m h5 hf6 (by simp)
  obtain ⟨⟨r7, M7⟩, e7, hr7, hf7⟩ := s_sumsAreUndone hS h6 (by omega)
  dsimp only at hr7 hf7
  subst hr7
  have h7 := m h6 hf7 (by simp)
  obtain ⟨⟨r8, M8⟩, e8, hr8, hf8⟩ := s_turnsRound hS h7 (by omega)
  dsimp only at hr8 hf8
  subst hr8
  unfold f_X5_holdsFor
  refine ⟨(1, M8), ?_, rfl, ?_⟩
  · simp (disch := omega) only [e0, e1, e2, e3, e4, e5, e6, e7, e8, iN_le, iN_lt, chk_inb, chk_t, clamp_iN, bd_some, iN_add, iN_s, iN_and, iN_or, iN_shl, e10, e01, e00, bI_0, bI_1, bI_t, bI_f, has_iN, bitc, within_iN, mk_or1, xhas_iN, add_z, if_true, if_false, ite_true, ite_false, reduceCtorEq, Bool.false_eq_true, Bool.true_and, Bool.false_and, Bool.and_true, Bool.and_false, Bool.not_true, Bool.not_false]
  · refine Fr.trans (Fr.trans (Fr.trans (Fr.trans (Fr.trans (Fr.trans (Fr.trans (hf1.mono ?_) (hf2.mono ?_)) (hf3.mono ?_)) (hf4.mono ?_)) (hf5.mono ?_)) (hf6.mono ?_)) (hf7.mono ?_)) (hf8.mono ?_)
    all_goals (unfold tc; simp)
end RT
