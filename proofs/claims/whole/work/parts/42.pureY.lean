/-! ===== the law's cases: further questions ===== -/
section CC
variable {M : Mem} {a1 a2 a3 : Int32}
theorem c_17 (hJ : J M) : OKJ (f_law_17 M a1 a2 a3) := by
  show OKJ (LI (f_L_sign M a1 a2 a3) (fun M => f_X7_sign M a1 a2 a3))
  rcases boc hJ a1 a2 a3 with ⟨o, n, b, u, t, ho, P, hu, ht, rfl, rfl, rfl⟩ | ⟨h1, h2⟩
  · have h9 := P.2.1.le
    have P7 := P.cd ho 0
    have key : ∃ v, f_X6_sign M (iN o) (iN u) (iN t) = some (.inr v, M) ∧ f_X7_sign M (iN o) (iN u) (iN t) = some (v, upM M 47 3 0) := by
      have m1 := P7.2.2.1.b ht hu
      have m2 := P7.2.2.1.b hu ht
      by_cases e : u = t
      · subst e
        refine ⟨61, ?_, ?_⟩
        · simp (disch := omega) only [f_X6_sign, s_orderWithBoth1 P ho hu ht, bd_some, cx, kd4 ho, chk_t, if_true]
        · simp (disch := omega) only [f_X7_sign, t_isThing1 P ho hu, bd_some, e10, if_false, f_X7_sign_L24, t_lets1, if_true]
      · have ene : (iN u = iN t) = False := by rw [iN_eq (by omega) (by omega)]; exact eq_false e
        cases x1 : (b t).testBit u
        · cases x2 : (b u).testBit t
          · rw [x1] at m1; rw [x2] at m2
            refine ⟨124, ?_, ?_⟩
            · simp (disch := omega) only [f_X6_sign, s_orderWithBoth1 P ho hu ht, bd_some, cx, kd4 ho, chk_t, ene, if_false, s_isBelow P.2.1, x1, x2, bI_f, if_true]
            · simp (disch := omega) only [f_X7_sign, t_isThing1 P ho hu, t_isThing1 P ho ht, bd_some, e10, if_false, f_X7_sign_L24, t_lets1, ene, chk_inb, clamp_iN, m1, m2, bI_f, if_true]
          · rw [x1] at m1; rw [x2] at m2
            refine ⟨62, ?_, ?_⟩
            · simp (disch := omega) only [f_X6_sign, s_orderWithBoth1 P ho hu ht, bd_some, cx, kd4 ho, chk_t, ene, if_false, s_isBelow P.2.1, x1, x2, bI_f, bI_t, e10, if_true]
            · simp (disch := omega) only [f_X7_sign, t_isThing1 P ho hu, t_isThing1 P ho ht, bd_some, e10, if_false, f_X7_sign_L24, t_lets1, ene, chk_inb, clamp_iN, m1, m2, bI_f, bI_t, if_true]
        · rw [x1] at m1
          refine ⟨60, ?_, ?_⟩
          · simp (disch := omega) only [f_X6_sign, s_orderWithBoth1 P ho hu ht, bd_some, cx, kd4 ho, chk_t, ene, if_false, s_isBelow P.2.1, x1, bI_t, e10]
          · simp (disch := omega) only [f_X7_sign, t_isThing1 P ho hu, t_isThing1 P ho ht, bd_some, e10, if_false, f_X7_sign_L24, t_lets1, ene, chk_inb, clamp_iN, m1, bI_t]
    obtain ⟨v, e6, e7⟩ := key
    exact LI_ok (by simp only [f_L_sign, e6, bd_some, lx]) e7 cd_at (hJ.cd 0)
  · have e6 : f_X6_sign M a1 a2 a3 = some (.inl eI, M) := by simp only [f_X6_sign, h1, bd_some, cx]
    have e7 : f_X7_sign M a1 a2 a3 = some (32, upM M 47 3 1) := by
      rcases h2 with h2 | ⟨h2, h3⟩
      · simp only [f_X7_sign, h2, bd_some, if_true, f_X7_sign_L23, f_X7_sign_L24, t_lets0]
      · simp only [f_X7_sign, h2, h3, bd_some, e10, if_false, if_true, f_X7_sign_L23, f_X7_sign_L24, t_lets0]
    exact LI_ex (by simp only [f_L_sign, e6, bd_some, lx, if_true]) e7 cd_at h10 (hJ.cd 1)
theorem c_ends (hJ : J M) (c : Bool) : OKJ (LI (f_L_ends M a1 (bI c)) (fun M => f_X7_ends M a1 (bI c))) := by
  rcases ordc a1 with ⟨o, ho, rfl⟩ | ⟨h1, h2⟩
  · obtain ⟨n, b, P⟩ := hJ o ho
    have hS := P.1
    have h8 := p2_le P.2.1.le
    have h7 := Nat.two_pow_pos n
    have P7 := P.cd ho 0
    have hen := t_ends P7.2.2.1 c
    have e6 : f_X6_ends M (iN o) (bI c) = some (.inr (iN (mk n fun k => decide ((if c then mk n (fun i => (b i).testBit k) else b k) = 0))), M) := by
      cases c
      · simp (disch := omega) only [f_X6_ends, s_orderAt ho, bd_some, cx, kd4 ho, chk_t, bI_f, if_true, s_all P.2.1, s_leastOf P.2.1, ends_ls hS]
      · simp (disch := omega) only [f_X6_ends, s_orderAt ho, bd_some, cx, kd4 ho, chk_t, bI_t, e10, if_false, s_all P.2.1, s_greatestOf P.2.1, ends_gr hS]
    have e7 : f_X7_ends M (iN o) (bI c) = some (iN (mk n fun k => decide ((if c then mk n (fun i => (b i).testBit k) else b k) = 0)), upM M 47 3 0) := by
      simp (disch := omega) only [f_X7_ends, t_isOrder ho, bd_some, t_lets1, e10, if_false, hen]
    exact LI_ok (by simp only [f_L_ends, e6, bd_some, lx]) e7 cd_at (hJ.cd 0)
  · have e6 : f_X6_ends M a1 (bI c) = some (.inl eI, M) := by simp only [f_X6_ends, h1, bd_some, cx]
    have e7 : f_X7_ends M a1 (bI c) = some (0, upM M 47 3 1) := by simp only [f_X7_ends, h2, bd_some, t_lets0, if_true]
    exact LI_ex (by simp only [f_L_ends, e6, bd_some, lx, if_true]) e7 cd_at h10 (hJ.cd 1)
theorem c_21 (hJ : J M) : OKJ (f_law_21 M a1 a2 a3) := by
  by_cases h : a2 = 0
  · have e : f_law_21 M a1 a2 a3 = LI (f_L_ends M a1 (bI false)) (fun M => f_X7_ends M a1 (bI false)) := by
      simp only [f_law_21, h, if_true]; rfl
    rw [e]; exact c_ends hJ false
  · have e : f_law_21 M a1 a2 a3 = LI (f_L_ends M a1 (bI true)) (fun M => f_X7_ends M a1 (bI true)) := by
      simp only [f_law_21, h, if_false]; rfl
    rw [e]; exact c_ends hJ true
theorem t_isSame_f {o n : Nat} {b : Nat → Nat} (h : MR M o n b) (x : Int32) : f_X7_isSame_L53 M (iN o) x FU (0, 0) = some (0, M) := by
  have ho := h.o
  have h9 := h.le
  refine lp_for (fun k => (0, iN k)) n (FU_lt h9) ?_ ?_
  · intro k hk f
    simp (disch := omega) only [g_X7_isSame_L53, h.n, if_neg (show ¬ n ≤ k by omega), iN_le, iN_lt, chk_inb, chk_t, clamp_iN, bd_some, iN_add, iN_s, iN_and, iN_or, iN_shl, e10, e01, e00, bI_0, bI_1, bI_t, bI_f, has_iN, bitc, within_iN, mk_or1, xhas_iN, add_z, if_true, if_false, ite_true, ite_false, reduceCtorEq, Bool.false_eq_true, Bool.true_and, Bool.false_and, Bool.and_true, Bool.and_false, Bool.not_true, Bool.not_false]
    refine lp_for (fun j => ((0 : Int32), iN j)) n (FU_lt h9) ?_ ?_
    · intro j hj f
      simp (disch := omega) only [g_X7_isSame_L67, h.n, if_neg (show ¬ n ≤ j by omega), iN_le, iN_lt, chk_inb, chk_t, clamp_iN, bd_some, iN_add, iN_s, iN_and, iN_or, iN_shl, e10, e01, e00, bI_0, bI_1, bI_t, bI_f, has_iN, bitc, within_iN, mk_or1, xhas_iN, add_z, if_true, if_false, ite_true, ite_false, reduceCtorEq, Bool.false_eq_true, Bool.true_and, Bool.false_and, Bool.and_true, Bool.and_false, Bool.not_true, Bool.not_false]
    · intro f
      simp (disch := omega) only [g_X7_isSame_L67, h.n, if_pos (Nat.le_refl n), iN_le, iN_lt, chk_inb, chk_t, clamp_iN, bd_some, iN_add, iN_s, iN_and, iN_or, iN_shl, e10, e01, e00, bI_0, bI_1, bI_t, bI_f, has_iN, bitc, within_iN, mk_or1, xhas_iN, add_z, if_true, if_false, ite_true, ite_false, reduceCtorEq, Bool.false_eq_true, Bool.true_and, Bool.false_and, Bool.and_true, Bool.and_false, Bool.not_true, Bool.not_false]
  · intro f
    simp (disch := omega) only [g_X7_isSame_L53, h.n, if_pos (Nat.le_refl n), isb0, iN_le, iN_lt, chk_inb, chk_t, clamp_iN, bd_some, iN_add, iN_s, iN_and, iN_or, iN_shl, e10, e01, e00, bI_0, bI_1, bI_t, bI_f, has_iN, bitc, within_iN, mk_or1, xhas_iN, add_z, if_true, if_false, ite_true, ite_false, reduceCtorEq, Bool.false_eq_true, Bool.true_and, Bool.false_and, Bool.and_true, Bool.and_false, Bool.not_true, Bool.not_false]
theorem same_eq {n : Nat} {b b' : Nat → Nat} (hb : ∀ k < n, b k < 2 ^ n) (hb' : ∀ k < n, b' k < 2 ^ n) : (al n fun k => decide (b k = b' k)) = al n fun k => al n fun j => (b j).testBit k == (b' j).testBit k := by
  rw [Bool.eq_iff_iff, al_iff, al_iff]
  constructor
  · intro h k hk
    rw [al_iff]
    intro j hj
    rw [of_decide_eq_true (h j hj)]; simp
  · intro h j hj
    refine decide_eq_true (set_ext (hb j hj) (hb' j hj) (fun k hk => ?_))
    have := al_iff.mp (h k hk) j hj
    simpa using this
theorem c_23 (hJ : J M) : OKJ (f_law_23 M a1 a2 a3) := by
  show OKJ (LB (f_L_isSame M a1 a2) (fun M => f_X7_isSame M a1 a2))
  rcases ordc a1 with ⟨o, ho, rfl⟩ | ⟨h1, h2⟩
  · obtain ⟨n, b, P⟩ := hJ o ho
    rcases ordc a2 with ⟨o', ho', rfl⟩ | ⟨h1, h2⟩
    · obtain ⟨n', b', P'⟩ := hJ o' ho'
      have h9 := P.2.1.le
      have h9' := P'.2.1.le
      have P7 := P.cd ho 0
      have P7' := P'.cd ho' 0
      have e6 : f_X6_isSame M (iN o) (iN o') = some (.inr (bI (decide (n = n') && al n fun k => decide (b k = b' k))), M) := by
        simp only [f_X6_isSame, s_orderAt ho, s_orderAt ho', bd_some, cx, kd4 ho, kd4 ho', chk_t, s_hasPairsOf P.2.1 P'.2.1, isb_bI]
      have e7 : f_X7_isSame M (iN o) (iN o') = some (bI (decide (n = n') && al n fun k => decide (b k = b' k)), upM M 47 3 0) := by
        by_cases e : n = n'
        · subst e
          have hs := t_isSame P7.2.2.1 P7'.2.2.1 true
          rw [← same_eq P.1.2.1 P'.1.2.1, bI_t, Bool.true_and] at hs
          rw [decide_eq_true rfl, Bool.true_and]
          simp (disch := omega) only [f_X7_isSame, t_isOrder ho, t_isOrder ho', bd_some, e10, if_false, f_X7_isSame_L20, t_lets1, chk_inb, clamp_iN, P7.2.2.1.n, P7'.2.2.1.n, if_true, hs]
        · have ene : (iN n = iN n') = False := by rw [iN_eq (by omega) (by omega)]; exact eq_false e
          rw [decide_eq_false e, Bool.false_and]
          simp (disch := omega) only [f_X7_isSame, t_isOrder ho, t_isOrder ho', bd_some, e10, if_false, f_X7_isSame_L20, t_lets1, chk_inb, clamp_iN, P7.2.2.1.n, P7'.2.2.1.n, ene, t_isSame_f P7.2.2.1, bI_f]
      exact LB_ok (by simp only [f_L_isSame, e6, bd_some, lx, Lb]) e7 cd_at (hJ.cd 0)
    · have e6 : f_X6_isSame M (iN o) a2 = some (.inl eI, M) := by simp only [f_X6_isSame, s_orderAt ho, kd4 ho, chk_t, h1, bd_some, cx]
      have e7 : f_X7_isSame M (iN o) a2 = some (0, upM M 47 3 1) := by simp only [f_X7_isSame, t_isOrder ho, e10, if_false, h2, bd_some, f_X7_isSame_L19, f_X7_isSame_L20, t_lets0, if_true]
      exact LB_ex (by simp only [f_L_isSame, e6, bd_some, lx, if_true]) e7 cd_at h10 (hJ.cd 1)
  · have e6 : f_X6_isSame M a1 a2 = some (.inl eI, M) := by simp only [f_X6_isSame, h1, bd_some, cx]
    have e7 : f_X7_isSame M a1 a2 = some (0, upM M 47 3 1) := by simp only [f_X7_isSame, h2, bd_some, f_X7_isSame_L19, f_X7_isSame_L20, t_lets0, if_true]
    exact LB_ex (by simp only [f_L_isSame, e6, bd_some, lx, if_true]) e7 cd_at h10 (hJ.cd 1)
theorem c_33 (hJ : J M) : OKJ (f_law_33 M a1 a2 a3) := by
  show OKJ (LI (f_L_setsOf M a1 a2) (fun M => f_X7_setsOf M a1 a2))
  rcases ordc a1 with ⟨o, ho, rfl⟩ | ⟨h1, h2⟩
  · obtain ⟨n, b, P⟩ := hJ o ho
    have P7 := P.cd ho 0
    have e6 : f_X6_setsOf M (iN o) a2 = some (.inr (iN (ct (2 ^ n) fun s => decide (iN (pc s) = a2) && cl b n s)), M) := by
      simp (disch := omega) only [f_X6_setsOf, s_orderAt ho, bd_some, cx, kd4 ho, chk_t, s_countOfSize P.2.1]
    have e7 : f_X7_setsOf M (iN o) a2 = some (iN (ct (2 ^ n) fun s => decide (iN (pc s) = a2) && cl b n s), upM M 47 3 0) := by
      by_cases hx : a2 < 0
      · have hz : ct (2 ^ n) (fun s => decide (iN (pc s) = a2) && cl b n s) = 0 := S_0.mpr (fun s hs => by
          have : ¬ iN (pc s) = a2 := fun e => by
            have hp := pc_le s
            rw [← e, iN_n0 (by omega)] at hx
            exact hx
          dsimp only
          rw [decide_eq_false this]; rfl)
        rw [hz]
        simp (disch := omega) only [f_X7_setsOf, t_isOrder ho, bd_some, t_lets1, e10, if_false, if_pos hx]; rfl
      · have hm1 : a2 ≠ -1 := fun e => hx (by rw [e]; decide)
        simp (disch := omega) only [f_X7_setsOf, t_isOrder ho, bd_some, t_lets1, e10, if_false, if_neg hx, t_manyOf' P7.2.2.1 hm1]
    exact LI_ok (by simp only [f_L_setsOf, e6, bd_some, lx]) e7 cd_at (hJ.cd 0)
  · have e6 : f_X6_setsOf M a1 a2 = some (.inl eI, M) := by simp only [f_X6_setsOf, h1, bd_some, cx]
    have e7 : f_X7_setsOf M a1 a2 = some (0, upM M 47 3 1) := by simp only [f_X7_setsOf, h2, bd_some, t_lets0, if_true]
    exact LI_ex (by simp only [f_L_setsOf, e6, bd_some, lx, if_true]) e7 cd_at h10 (hJ.cd 1)
theorem c_35 (hJ : J M) : OKJ (f_law_35 M a1 a2 a3) := by
  show OKJ (LI (f_L_placeOf M a1 a2) (fun M => f_X7_placeOf M a1 a2))
  rcases sec hJ a1 a2 with ⟨o, n, b, s, ho, P, hs, rfl, rfl⟩ | ⟨h1, h2⟩ | ⟨h1, h2, h3⟩
  · have hs9 : s < 512 := Nat.lt_of_lt_of_le hs (p2_le P.2.1.le)
    have P7 := P.cd ho 0
    have key : ∃ v, f_X6_placeOf M (iN o) (iN s) = some (.inr v, M) ∧ f_X7_placeOf M (iN o) (iN s) = some (v, upM M 47 3 0) := by
      cases hc : cl b n s
      · refine ⟨-1, ?_, ?_⟩
        · simp (disch := omega) only [f_X6_placeOf, s_orderWithSet1 P ho hs, bd_some, cx, kd4 ho, chk_t, s_isClosedBelow P.2.1, hc, bI_f, if_true]
        · simp (disch := omega) only [f_X7_placeOf, t_isOrder ho, t_isSet1 P7 ho hs, upM_up, bd_some, t_lets1, e10, if_false, t_isClosed P7.2.2.1 hs, hc, bI_f, if_true]
      · refine ⟨iN (ct (2 ^ n) fun x => ah x s && cl b n x), ?_, ?_⟩
        · simp (disch := omega) only [f_X6_placeOf, s_orderWithSet1 P ho hs, bd_some, cx, kd4 ho, chk_t, s_isClosedBelow P.2.1, hc, bI_t, e10, if_false, s_countAhead P.2.1]
        · simp (disch := omega) only [f_X7_placeOf, t_isOrder ho, t_isSet1 P7 ho hs, upM_up, bd_some, t_lets1, e10, if_false, t_isClosed P7.2.2.1 hs, hc, bI_t, t_placeIn P7.2.2.1]
    obtain ⟨v, e6, e7⟩ := key
    exact LI_ok (by simp only [f_L_placeOf, e6, bd_some, lx]) e7 cd_at (hJ.cd 0)
  · have e6 : f_X6_placeOf M a1 a2 = some (.inl eI, M) := by simp only [f_X6_placeOf, h1, bd_some, cx]
    have e7 : f_X7_placeOf M a1 a2 = some (0, upM M 47 3 1) := by simp only [f_X7_placeOf, h2, bd_some, t_lets0, if_true]
    exact LI_ex (by simp only [f_L_placeOf, e6, bd_some, lx, if_true]) e7 cd_at h10 (hJ.cd 1)
  · have e6 : f_X6_placeOf M a1 a2 = some (.inl eA, M) := by simp only [f_X6_placeOf, h1, bd_some, cx]
    have e7 : f_X7_placeOf M a1 a2 = some (0, upM M 47 3 2) := by simp only [f_X7_placeOf, h2, bd_some, t_lets1, e10, if_false, h3 0, t_lets0, if_true, upM_up]
    exact LI_ex (by simp only [f_L_placeOf, e6, bd_some, lx, eAI, if_false, if_true]) e7 cd_at h20 (hJ.cd 2)
theorem c_39 (hJ : J M) : OKJ (f_law_39 M a1 a2 a3) := by
  show OKJ (LI (f_L_tops M a1 a2) (fun M => f_X7_tops M a1 a2))
  rcases sec hJ a1 a2 with ⟨o, n, b, s, ho, P, hs, rfl, rfl⟩ | ⟨h1, h2⟩ | ⟨h1, h2, h3⟩
  · have hs9 : s < 512 := Nat.lt_of_lt_of_le hs (p2_le P.2.1.le)
    have P7 := P.cd ho 0
    have key : ∃ v, f_X6_tops M (iN o) (iN s) = some (.inr v, M) ∧ f_X7_tops M (iN o) (iN s) = some (v, upM M 47 3 0) := by
      cases hc : cl b n s
      · refine ⟨-9, ?_, ?_⟩
        · simp (disch := omega) only [f_X6_tops, s_orderWithSet1 P ho hs, bd_some, cx, kd4 ho, chk_t, s_isClosedBelow P.2.1, hc, bI_f, if_true]
        · simp (disch := omega) only [f_X7_tops, t_isOrder ho, t_isSet1 P7 ho hs, upM_up, bd_some, t_lets1, e10, if_false, t_isClosed P7.2.2.1 hs, hc, bI_f, if_true]
      · refine ⟨iN (gr b n s), ?_, ?_⟩
        · simp (disch := omega) only [f_X6_tops, s_orderWithSet1 P ho hs, bd_some, cx, kd4 ho, chk_t, s_isClosedBelow P.2.1, hc, bI_t, e10, if_false, s_greatestOf P.2.1]
        · simp (disch := omega) only [f_X7_tops, t_isOrder ho, t_isSet1 P7 ho hs, upM_up, bd_some, t_lets1, e10, if_false, t_isClosed P7.2.2.1 hs, hc, bI_t, t_tops P7.2.2.1 P.1 hs]
    obtain ⟨v, e6, e7⟩ := key
    exact LI_ok (by simp only [f_L_tops, e6, bd_some, lx]) e7 cd_at (hJ.cd 0)
  · have e6 : f_X6_tops M a1 a2 = some (.inl eI, M) := by simp only [f_X6_tops, h1, bd_some, cx]
    have e7 : f_X7_tops M a1 a2 = some (0, upM M 47 3 1) := by simp only [f_X7_tops, h2, bd_some, t_lets0, if_true]
    exact LI_ex (by simp only [f_L_tops, e6, bd_some, lx, if_true]) e7 cd_at h10 (hJ.cd 1)
  · have e6 : f_X6_tops M a1 a2 = some (.inl eA, M) := by simp only [f_X6_tops, h1, bd_some, cx]
    have e7 : f_X7_tops M a1 a2 = some (0, upM M 47 3 2) := by simp only [f_X7_tops, h2, bd_some, t_lets1, e10, if_false, h3 0, t_lets0, if_true, upM_up]
    exact LI_ex (by simp only [f_L_tops, e6, bd_some, lx, eAI, if_false, if_true]) e7 cd_at h20 (hJ.cd 2)
theorem c_40 (hJ : J M) : OKJ (f_law_40 M a1 a2 a3) := by
  show OKJ (LI (f_L_shared M a1 a2) (fun M => f_X7_shared M a1 a2))
  rcases ordc a1 with ⟨o, ho, rfl⟩ | ⟨h1, h2⟩
  · obtain ⟨n, b, P⟩ := hJ o ho
    rcases ordc a2 with ⟨o', ho', rfl⟩ | ⟨h1, h2⟩
    · obtain ⟨n', b', P'⟩ := hJ o' ho'
      have h9 := P.2.1.le
      have h9' := P'.2.1.le
      have P7 := P.cd ho 0
      have P7' := P'.cd ho' 0
      have key : ∃ v, f_X6_shared M (iN o) (iN o') = some (.inr v, M) ∧ f_X7_shared M (iN o) (iN o') = some (v, upM M 47 3 0) := by
        by_cases e : n = n'
        · subst e
          refine ⟨iN (ct (2 ^ n) fun s => cl b n s && cl b' n s), ?_, ?_⟩
          · simp only [f_X6_shared, s_orderAt ho, s_orderAt ho', bd_some, cx, kd4 ho, kd4 ho', chk_t, P.2.1.n, P'.2.1.n, if_true, s_countShared P.2.1 P'.2.1]
          · simp (disch := omega) only [f_X7_shared, t_isOrder ho, t_isOrder ho', bd_some, e10, if_false, f_X7_shared_L20, t_lets1, chk_inb, clamp_iN, P7.2.2.1.n, P7'.2.2.1.n, if_true, t_shared P7.2.2.1 P7'.2.2.1]
        · have ene : (iN n = iN n') = False := by rw [iN_eq (by omega) (by omega)]; exact eq_false e
          refine ⟨-9, ?_, ?_⟩
          · simp only [f_X6_shared, s_orderAt ho, s_orderAt ho', bd_some, cx, kd4 ho, kd4 ho', chk_t, P.2.1.n, P'.2.1.n, ene, if_false]
          · simp (disch := omega) only [f_X7_shared, t_isOrder ho, t_isOrder ho', bd_some, e10, if_false, f_X7_shared_L20, t_lets1, chk_inb, clamp_iN, P7.2.2.1.n, P7'.2.2.1.n, ene]
      obtain ⟨v, e6, e7⟩ := key
      exact LI_ok (by simp only [f_L_shared, e6, bd_some, lx]) e7 cd_at (hJ.cd 0)
    · have e6 : f_X6_shared M (iN o) a2 = some (.inl eI, M) := by simp only [f_X6_shared, s_orderAt ho, kd4 ho, chk_t, h1, bd_some, cx]
      have e7 : f_X7_shared M (iN o) a2 = some (0, upM M 47 3 1) := by simp only [f_X7_shared, t_isOrder ho, e10, if_false, h2, bd_some, f_X7_shared_L19, f_X7_shared_L20, t_lets0, if_true]
      exact LI_ex (by simp only [f_L_shared, e6, bd_some, lx, if_true]) e7 cd_at h10 (hJ.cd 1)
  · have e6 : f_X6_shared M a1 a2 = some (.inl eI, M) := by simp only [f_X6_shared, h1, bd_some, cx]
    have e7 : f_X7_shared M a1 a2 = some (0, upM M 47 3 1) := by simp only [f_X7_shared, h2, bd_some, f_X7_shared_L19, f_X7_shared_L20, t_lets0, if_true]
    exact LI_ex (by simp only [f_L_shared, e6, bd_some, lx, if_true]) e7 cd_at h10 (hJ.cd 1)
theorem c_53 (hJ : J M) : OKJ (f_law_53 M a1 a2 a3) := by
  show OKJ (LB (f_L_areSound M a1 a2) (fun M => f_X7_areSound M a1 a2))
  rcases ordc a1 with ⟨o, ho, rfl⟩ | ⟨h1, h2⟩
  · obtain ⟨n, b, P⟩ := hJ o ho
    rcases ordc a2 with ⟨o', ho', rfl⟩ | ⟨h1, h2⟩
    · obtain ⟨n', b', P'⟩ := hJ o' ho'
      have h9 := P.2.1.le
      have h9' := P'.2.1.le
      have e9 : (9 : Int32) = iN 9 := rfl
      have key : ∃ M6, f_X6_areSound M (iN o) (iN o') = some (.inr 1, M6) ∧ J M6 := by
        by_cases e : n + n' ≤ 9
        · obtain ⟨⟨r6, M6⟩, x6, hr6, hf6⟩ := s_holdsForBoth P.1 P'.1 P.2.1 P'.2.1 e (by omega) (by omega)
          dsimp only at hr6 hf6
          subst hr6
          refine ⟨M6, ?_, hJ.fr hf6 (scrL (by decide))⟩
          simp (disch := omega) only [f_X6_areSound, s_orderAt ho, s_orderAt ho', bd_some, cx, kd4 ho, kd4 ho', chk_t, P.2.1.n, P'.2.1.n, iN_add, e9, iN_lt, if_neg (show ¬ 9 < n + n' by omega), x6, e10, if_false]
        · refine ⟨M, ?_, hJ⟩
          simp (disch := omega) only [f_X6_areSound, s_orderAt ho, s_orderAt ho', bd_some, cx, kd4 ho, kd4 ho', chk_t, P.2.1.n, P'.2.1.n, iN_add, e9, iN_lt, if_pos (show 9 < n + n' by omega)]
      obtain ⟨M6, e6, J6⟩ := key
      have e7 : f_X7_areSound M6 (iN o) (iN o') = some (bI true, upM M6 47 3 0) := by
        simp only [f_X7_areSound, t_isOrder ho, t_isOrder ho', bd_some, e10, if_false, t_lets1, isb1, chk_t, bI_t]
      exact LB_ok (by simp only [f_L_areSound, e6, bd_some, lx, e10, if_false, if_true]) e7 cd_at (J6.cd 0)
    · have e6 : f_X6_areSound M (iN o) a2 = some (.inl eI, M) := by simp only [f_X6_areSound, s_orderAt ho, kd4 ho, chk_t, h1, bd_some, cx]
      have e7 : f_X7_areSound M (iN o) a2 = some (0, upM M 47 3 1) := by simp only [f_X7_areSound, t_isOrder ho, e10, if_false, h2, bd_some, t_lets0, if_true, isb0, chk_t]
      exact LB_ex (by simp only [f_L_areSound, e6, bd_some, lx, if_true]) e7 cd_at h10 (hJ.cd 1)
  · have e6 : f_X6_areSound M a1 a2 = some (.inl eI, M) := by simp only [f_X6_areSound, h1, bd_some, cx]
    have e7 : f_X7_areSound M a1 a2 = some (0, upM M 47 3 1) := by simp only [f_X7_areSound, h2, bd_some, t_lets0, if_true, isb0, chk_t]
    exact LB_ex (by simp only [f_L_areSound, e6, bd_some, lx, if_true]) e7 cd_at h10 (hJ.cd 1)
set_option maxRecDepth 100000 in
theorem s_findAt_neg {q n : Nat} {b : Nat → Nat} (h : OR M q n b) {x : Int32} (hx : x < 0) : f_X1_findAt M q x = some (-1) := by
  have h9 := h.le
  have h8 := p2_le h9
  have hne : ∀ c, c < 2 ^ 31 → (iN c = x) = False := fun c hc => eq_false (fun e => by rw [← e, iN_n0 hc] at hx; exact hx)
  have key : ∃ r, f_X1_findAt_L4 M q x FU (0, 0) = some r ∧ r = -1 := by
    refine lp_to (fun z a => z ≤ n + 1 ∧ (∃ c, c ≤ z * 512 ∧ a.1 = iN c) ∧ a.2 = iN z) (n + 1) (FU_lt2 (by omega)) ⟨by omega, ⟨0, by omega, rfl⟩, rfl⟩ ?_
    rintro z ⟨a1, a2⟩ ⟨hz, ⟨c, hc, h1⟩, h2⟩
    dsimp only at h1 h2
    subst h1 h2
    rcases Nat.lt_or_ge n z with hl | hl
    · right
      refine ⟨-1, rfl, fun k => ?_⟩
      simp (disch := omega) only [g_X1_findAt_L4, h.n, if_pos hl, iN_le, iN_lt, chk_inb, chk_t, clamp_iN, bd_some, iN_add, iN_s, iN_and, iN_or, iN_shl, e10, e01, e00, bI_0, bI_1, bI_t, bI_f, has_iN, bitc, within_iN, mk_or1, xhas_iN, add_z, if_true, if_false, ite_true, ite_false, reduceCtorEq, Bool.false_eq_true, Bool.true_and, Bool.false_and, Bool.and_true, Bool.and_false, Bool.not_true, Bool.not_false]
    · left
      have key2 : ∃ w : Int32 × Int32, (∃ c, c ≤ (z + 1) * 512 ∧ w = (iN c, iN (z + 1))) ∧ ∀ K, lp (g_X1_findAt_L15 M q x (iN z) K) FU (iN c, 0) = K w := by
        refine lp_cps (G := fun K => g_X1_findAt_L15 M q x (iN z) K) (fun m a => m ≤ 2 ^ n ∧ a.2 = iN m ∧ ∃ c, c ≤ z * 512 + m ∧ a.1 = iN c) (2 ^ n) (FU_lt2 h8) ⟨Nat.zero_le _, rfl, c, by omega, rfl⟩ ?_
        rintro m ⟨a1, a2⟩ ⟨hm, h2, c, hc, h1⟩
        dsimp only at h1 h2
        subst h1 h2
        rcases Nat.lt_or_ge m (2 ^ n) with hml | hml
        · left
          refine ⟨hml, ?_⟩
          by_cases hpz : pc m = z
          · cases hcl : cl b n m
            · refine ⟨(iN c, iN (m + 1)), ⟨hml, rfl, c, by omega, rfl⟩, fun K k => ?_⟩
              simp (disch := omega) only [g_X1_findAt_L15, s_setLimit h, if_neg (show ¬ 2 ^ n ≤ m by omega), hpz, s_isClosedBelow h (show m < 512 by omega), hcl, iN_le, iN_lt, chk_inb, chk_t, clamp_iN, bd_some, iN_add, iN_s, iN_and, iN_or, iN_shl, e10, e01, e00, bI_0, bI_1, bI_t, bI_f, has_iN, bitc, within_iN, mk_or1, xhas_iN, add_z, if_true, if_false, ite_true, ite_false, reduceCtorEq, Bool.false_eq_true, Bool.true_and, Bool.false_and, Bool.and_true, Bool.and_false, Bool.not_true, Bool.not_false]
            · refine ⟨(iN (c + 1), iN (m + 1)), ⟨hml, rfl, c + 1, by omega, rfl⟩, fun K k => ?_⟩
              simp (disch := omega) only [g_X1_findAt_L15, s_setLimit h, if_neg (show ¬ 2 ^ n ≤ m by omega), hpz, s_isClosedBelow h (show m < 512 by omega), hcl, hne, iN_le, iN_lt, chk_inb, chk_t, clamp_iN, bd_some, iN_add, iN_s, iN_and, iN_or, iN_shl, e10, e01, e00, bI_0, bI_1, bI_t, bI_f, has_iN, bitc, within_iN, mk_or1, xhas_iN, add_z, if_true, if_false, ite_true, ite_false, reduceCtorEq, Bool.false_eq_true, Bool.true_and, Bool.false_and, Bool.and_true, Bool.and_false, Bool.not_true, Bool.not_false]
          · have hpm := pc_le m
            have ene : (iN (pc m) = iN z) = False := by rw [iN_eq (by omega) (by omega)]; exact eq_false hpz
            refine ⟨(iN c, iN (m + 1)), ⟨hml, rfl, c, by omega, rfl⟩, fun K k => ?_⟩
            simp (disch := omega) only [g_X1_findAt_L15, s_setLimit h, if_neg (show ¬ 2 ^ n ≤ m by omega), bitc, ene, iN_le, iN_lt, chk_inb, chk_t, clamp_iN, bd_some, iN_add, iN_s, iN_and, iN_or, iN_shl, e10, e01, e00, bI_0, bI_1, bI_t, bI_f, has_iN, bitc, within_iN, mk_or1, xhas_iN, add_z, if_true, if_false, ite_true, ite_false, reduceCtorEq, Bool.false_eq_true, Bool.true_and, Bool.false_and, Bool.and_true, Bool.and_false, Bool.not_true, Bool.not_false]
        · right
          refine ⟨(iN c, iN (z + 1)), ⟨c, by omega, rfl⟩, fun K k => ?_⟩
          simp (disch := omega) only [g_X1_findAt_L15, s_setLimit h, if_pos hml, iN_le, iN_lt, chk_inb, chk_t, clamp_iN, bd_some, iN_add, iN_s, iN_and, iN_or, iN_shl, e10, e01, e00, bI_0, bI_1, bI_t, bI_f, has_iN, bitc, within_iN, mk_or1, xhas_iN, add_z, if_true, if_false, ite_true, ite_false, reduceCtorEq, Bool.false_eq_true, Bool.true_and, Bool.false_and, Bool.and_true, Bool.and_false, Bool.not_true, Bool.not_false]
      obtain ⟨w, ⟨c', hc', rfl⟩, hk⟩ := key2
      refine ⟨by omega, (iN c', iN (z + 1)), ⟨by omega, ⟨c', hc', rfl⟩, rfl⟩, fun k => ?_⟩
      have hk' : ∀ K, f_X1_findAt_L15 M q x (iN z) K FU (iN c, 0) = K (iN c', iN (z + 1)) := hk
      simp (disch := omega) only [g_X1_findAt_L4, h.n, if_neg (show ¬ n < z by omega), hk', iN_le, iN_lt, chk_inb, chk_t, clamp_iN, bd_some, iN_add, iN_s, iN_and, iN_or, iN_shl, e10, e01, e00, bI_0, bI_1, bI_t, bI_f, has_iN, bitc, within_iN, mk_or1, xhas_iN, add_z, if_true, if_false, ite_true, ite_false, reduceCtorEq, Bool.false_eq_true, Bool.true_and, Bool.false_and, Bool.and_true, Bool.and_false, Bool.not_true, Bool.not_false]
  obtain ⟨r, hr, e⟩ := key
  rw [← e]
  exact hr
/-- the reference's search -/
theorem t_setAt {o n : Nat} {b : Nat → Nat} (h : MR M o n b) {p s : Nat} (hp : p < 2 ^ 31) (hs : fz b n p = some s) : f_X7_setAt_L41 M (iN o) FU (iN p, 0) = some (iN s, M) := by
  have ho := h.o
  have h9 := h.le
  have h8 := p2_le h9
  have key : ∃ r, f_X7_setAt_L41 M (iN o) FU (iN p, 0) = some r ∧ r = (iN s, M) := by
    refine lp_to (fun z a => z ≤ n + 1 ∧ (ou1 b n p z).1 = none ∧ a.1 = iN (p - (ou1 b n p z).2) ∧ a.2 = iN z) (n + 1) (FU_lt2 (by omega)) ⟨by omega, rfl, rfl, rfl⟩ ?_
    rintro z ⟨a1, a2⟩ ⟨hz, hn, h1, h2⟩
    dsimp only at h1 h2
    subst h1 h2
    rcases hq : ou1 b n p z with ⟨a, c⟩
    have hcl := ou1_le h9 hn
    have hcp := ((ou1_spec (b := b) (n := n) (p := p) z).1 hn).2
    rw [hq] at hn hcl hcp
    dsimp only at hn hcl hcp
    subst hn
    have hsz : ou1 b n p (z + 1) = in1 b n z p c (2 ^ n) := by rw [ou1, hq]
    have hl : z ≤ n := by
      rcases Nat.lt_or_ge n z with hl | hl
      · exfalso
        have e : z = n + 1 := by omega
        subst e
        unfold fz at hs
        rw [hq] at hs; cases hs
      · exact hl
    have key2 : (∃ s', (in1 b n z p c (2 ^ n)).1 = some s' ∧ ∀ K, lp (g_X7_setAt_L55 M (iN o) (iN z) K) FU (iN (p - c), 0) = some (iN s', M)) ∨ ((in1 b n z p c (2 ^ n)).1 = none ∧ ∀ K, lp (g_X7_setAt_L55 M (iN o) (iN z) K) FU (iN (p - c), 0) = K (iN (p - (in1 b n z p c (2 ^ n)).2), iN (z + 1))) := by
      have H : ∀ d m, m + d = 2 ^ n → (in1 b n z p c m).1 = none → ∀ F, d < F → (∃ s', (in1 b n z p c (2 ^ n)).1 = some s' ∧ ∀ K, lp (g_X7_setAt_L55 M (iN o) (iN z) K) F (iN (p - (in1 b n z p c m).2), iN m) = some (iN s', M)) ∨ ((in1 b n z p c (2 ^ n)).1 = none ∧ ∀ K, lp (g_X7_setAt_L55 M (iN o) (iN z) K) F (iN (p - (in1 b n z p c m).2), iN m) = K (iN (p - (in1 b n z p c (2 ^ n)).2), iN (z + 1))) := by
        intro d
        induction d with
        | zero =>
          intro m hm hno F hF
          obtain ⟨F, rfl⟩ := Nat.exists_eq_succ_of_ne_zero (by omega : F ≠ 0)
          have e : m = 2 ^ n := by omega
          subst e
          right
          refine ⟨hno, fun K => ?_⟩
          rw [lp_s]
          simp (disch := omega) only [g_X7_setAt_L55, h.n, if_pos (Nat.le_refl (2 ^ n)), iN_le, iN_lt, chk_inb, chk_t, clamp_iN, bd_some, iN_add, iN_s, iN_and, iN_or, iN_shl, e10, e01, e00, bI_0, bI_1, bI_t, bI_f, has_iN, bitc, within_iN, mk_or1, xhas_iN, add_z, if_true, if_false, ite_true, ite_false, reduceCtorEq, Bool.false_eq_true, Bool.true_and, Bool.false_and, Bool.and_true, Bool.and_false, Bool.not_true, Bool.not_false]
        | succ d ih =>
          intro m hm hno F hF
          obtain ⟨F, rfl⟩ := Nat.exists_eq_succ_of_ne_zero (by omega : F ≠ 0)
          have hml : m < 2 ^ n := by omega
          have hle := in1_le hcp hno (by omega) (by omega)
          have hcp2 := ((in1_spec (b := b) (n := n) (z := z) hcp m).1 hno).2
          rcases hq2 : in1 b n z p c m with ⟨a, c'⟩
          rw [hq2] at hno hle hcp2
          dsimp only at hno hle hcp2
          subst hno
          have hs2 : in1 b n z p c (m + 1) = if decide (pc m = z) && cl b n m then (if c' = p then (some m, c') else (none, c' + 1)) else (none, c') := by rw [in1, hq2]
          have hz31 : z < 2 ^ 31 := by omega
          by_cases hpz : pc m = z
          · cases hc : cl b n m
            · have e1 : in1 b n z p c (m + 1) = (none, c') := by rw [hs2, hc]; simp
              have := ih (m + 1) (by omega) (by rw [e1]) F (by omega)
              rw [e1] at this
              dsimp only at this
              simp only [lp_s]
              simp (disch := omega) only [g_X7_setAt_L55, h.n, if_neg (show ¬ 2 ^ n ≤ m by omega), t_manyIn, hpz, t_isClosed h hml, hc, iN_le, iN_lt, chk_inb, chk_t, clamp_iN, bd_some, iN_add, iN_s, iN_and, iN_or, iN_shl, e10, e01, e00, bI_0, bI_1, bI_t, bI_f, has_iN, bitc, within_iN, mk_or1, xhas_iN, add_z, if_true, if_false, ite_true, ite_false, reduceCtorEq, Bool.false_eq_true, Bool.true_and, Bool.false_and, Bool.and_true, Bool.and_false, Bool.not_true, Bool.not_false]
              exact this
            · by_cases e2 : c' = p
              · have e1 : in1 b n z p c (m + 1) = (some m, c') := by rw [hs2, hc, if_pos e2]; simp [hpz]
                left
                refine ⟨m, in1_some (m := m + 1) (by rw [e1]) (by omega), fun K => ?_⟩
                simp only [lp_s]
                subst e2
                have ez : (iN (c' - c') = 0) = True := by rw [Nat.sub_self]; exact eq_true rfl
                simp (disch := omega) only [g_X7_setAt_L55, h.n, if_neg (show ¬ 2 ^ n ≤ m by omega), t_manyIn, hpz, t_isClosed h hml, hc, ez, iN_le, iN_lt, chk_inb, chk_t, clamp_iN, bd_some, iN_add, iN_s, iN_and, iN_or, iN_shl, e10, e01, e00, bI_0, bI_1, bI_t, bI_f, has_iN, bitc, within_iN, mk_or1, xhas_iN, add_z, if_true, if_false, ite_true, ite_false, reduceCtorEq, Bool.false_eq_true, Bool.true_and, Bool.false_and, Bool.and_true, Bool.and_false, Bool.not_true, Bool.not_false]
              · have e1 : in1 b n z p c (m + 1) = (none, c' + 1) := by rw [hs2, hc, if_neg e2]; simp [hpz]
                have := ih (m + 1) (by omega) (by rw [e1]) F (by omega)
                rw [e1] at this
                dsimp only at this
                have ene : (iN (p - c') = 0) = False := by rw [iN_ne0 (by omega)]; exact eq_false (by omega)
                have esub : iN (p - c') + (-1) = iN (p - (c' + 1)) := by
                  rw [show p - c' = p - (c' + 1) + 1 by omega, ← iN_s, Int32.add_assoc, show (1 : Int32) + -1 = 0 by decide, Int32.add_zero]
                simp only [lp_s]
                simp (disch := omega) only [g_X7_setAt_L55, h.n, if_neg (show ¬ 2 ^ n ≤ m by omega), t_manyIn, hpz, t_isClosed h hml, hc, ene, esub, iN_le, iN_lt, chk_inb, chk_t, clamp_iN, bd_some, iN_add, iN_s, iN_and, iN_or, iN_shl, e10, e01, e00, bI_0, bI_1, bI_t, bI_f, has_iN, bitc, within_iN, mk_or1, xhas_iN, add_z, if_true, if_false, ite_true, ite_false, reduceCtorEq, Bool.false_eq_true, Bool.true_and, Bool.false_and, Bool.and_true, Bool.and_false, Bool.not_true, Bool.not_false]
                exact this
          · have e1 : in1 b n z p c (m + 1) = (none, c') := by rw [hs2]; simp [hpz]
            have := ih (m + 1) (by omega) (by rw [e1]) F (by omega)
            rw [e1] at this
            dsimp only at this
            have hpm := pc_le m
            have ene : (iN (pc m) = iN z) = False := by rw [iN_eq (by omega) hz31]; exact eq_false hpz
            simp only [lp_s]
            simp (disch := omega) only [g_X7_setAt_L55, h.n, if_neg (show ¬ 2 ^ n ≤ m by omega), t_manyIn, ene, iN_le, iN_lt, chk_inb, chk_t, clamp_iN, bd_some, iN_add, iN_s, iN_and, iN_or, iN_shl, e10, e01, e00, bI_0, bI_1, bI_t, bI_f, has_iN, bitc, within_iN, mk_or1, xhas_iN, add_z, if_true, if_false, ite_true, ite_false, reduceCtorEq, Bool.false_eq_true, Bool.true_and, Bool.false_and, Bool.and_true, Bool.and_false, Bool.not_true, Bool.not_false]
            exact this
      exact H (2 ^ n) 0 (by omega) rfl FU (FU_lt2 h8)
    have hg : ∀ K, g_X7_setAt_L41 M (iN o) K (iN (p - c), iN z) = lp (g_X7_setAt_L55 M (iN o) (iN z) K) FU (iN (p - c), 0) := fun K => by
      simp (disch := omega) only [g_X7_setAt_L41, h.n, if_neg (show ¬ n < z by omega), iN_le, iN_lt, chk_inb, chk_t, clamp_iN, bd_some, iN_add, iN_s, iN_and, iN_or, iN_shl, e10, e01, e00, bI_0, bI_1, bI_t, bI_f, has_iN, bitc, within_iN, mk_or1, xhas_iN, add_z, if_true, if_false, ite_true, ite_false, reduceCtorEq, Bool.false_eq_true, Bool.true_and, Bool.false_and, Bool.and_true, Bool.and_false, Bool.not_true, Bool.not_false]; rfl
    rcases key2 with ⟨s', h1, h2⟩ | ⟨h1, h2⟩
    · right
      refine ⟨(iN s', M), ?_, fun k => by rw [hg]; exact h2 k⟩
      have : fz b n p = some s' := by
        unfold fz
        exact ou1_some (z := z + 1) (by rw [hsz]; exact h1) (by omega)
      rw [hs] at this
      cases this; rfl
    · left
      refine ⟨by omega, (iN (p - (in1 b n z p c (2 ^ n)).2), iN (z + 1)), ⟨by omega, by rw [hsz]; exact h1, by rw [hsz], rfl⟩, fun k => by rw [hg]; exact h2 k⟩
  obtain ⟨r, hr, e⟩ := key
  rw [← e]
  exact hr
theorem c_34 (hJ : J M) : OKJ (f_law_34 M a1 a2 a3) := by
  show OKJ (LI (f_L_setAt M a1 a2) (fun M => f_X7_setAt M a1 a2))
  rcases ordc a1 with ⟨o, ho, rfl⟩ | ⟨h1, h2⟩
  · obtain ⟨n, b, P⟩ := hJ o ho
    have h9 := P.2.1.le
    have h8 := p2_le h9
    have P7 := P.cd ho 0
    have hct := ct_le (n := 2 ^ n) (p := cl b n)
    by_cases hx : a2 < 0
    · have e6 : f_X6_setAt M (iN o) a2 = some (.inl eI, M) := by
        simp (disch := omega) only [f_X6_setAt, s_orderAt ho, bd_some, cx, kd4 ho, chk_t, s_findAt_neg P.2.1 hx, if_true]
      have e7 : f_X7_setAt M (iN o) a2 = some (0, upM M 47 3 1) := by
        simp (disch := omega) only [f_X7_setAt, t_isOrder ho, bd_some, e10, if_false, if_pos hx, t_lets0, if_true]
      exact LI_ex (by simp only [f_L_setAt, e6, bd_some, lx, if_true]) e7 cd_at h10 (hJ.cd 1)
    · obtain ⟨p, hp, rfl⟩ := nonneg hx
      cases hf : fz b n p with
      | none =>
        have hle := (fz_iff h9).mp hf
        have e6 : f_X6_setAt M (iN o) (iN p) = some (.inl eI, M) := by
          simp (disch := omega) only [f_X6_setAt, s_orderAt ho, bd_some, cx, kd4 ho, chk_t, s_findAt P.2.1, hf, oI, if_true]
        have e7 : f_X7_setAt M (iN o) (iN p) = some (0, upM M 47 3 1) := by
          simp (disch := omega) only [f_X7_setAt, t_isOrder ho, bd_some, e10, if_false, iN_n0, t_manyOf P.2.2.1, iN_le, if_pos hle, t_lets0, if_true]
        exact LI_ex (by simp only [f_L_setAt, e6, bd_some, lx, if_true]) e7 cd_at h10 (hJ.cd 1)
      | some s =>
        have hlt : ¬ ct (2 ^ n) (cl b n) ≤ p := fun e => by rw [(fz_iff h9).mpr e] at hf; cases hf
        have hsl := fz_lt hf
        have hm1 : (iN s = -1) = False := oI_n (by omega)
        have e6 : f_X6_setAt M (iN o) (iN p) = some (.inr (iN s), M) := by
          simp (disch := omega) only [f_X6_setAt, s_orderAt ho, bd_some, cx, kd4 ho, chk_t, s_findAt P.2.1, hf, oI, hm1, if_false]
        have e7 : f_X7_setAt M (iN o) (iN p) = some (iN s, upM M 47 3 0) := by
          simp (disch := omega) only [f_X7_setAt, t_isOrder ho, bd_some, e10, if_false, iN_n0, t_manyOf P.2.2.1, iN_le, if_neg hlt, t_lets1, t_setAt P7.2.2.1 hp hf]
        exact LI_ok (by simp only [f_L_setAt, e6, bd_some, lx]) e7 cd_at (hJ.cd 0)
  · have e6 : f_X6_setAt M a1 a2 = some (.inl eI, M) := by simp only [f_X6_setAt, h1, bd_some, cx]
    have e7 : f_X7_setAt M a1 a2 = some (0, upM M 47 3 1) := by simp only [f_X7_setAt, h2, bd_some, t_lets0, if_true]
    exact LI_ex (by simp only [f_L_setAt, e6, bd_some, lx, if_true]) e7 cd_at h10 (hJ.cd 1)
end CC
