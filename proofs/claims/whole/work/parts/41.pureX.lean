/-! ===== the law's cases: questions ===== -/
theorem Lb {M : Mem} {g : Bool} : (if bI g = 0 then some ((0 : Int32), M, some (0 : Int64)) else some (0, M, some 1)) = some (0, M, some (if g then 1 else 0)) := by cases g <;> simp [bI]
theorem Rb {M : Mem} {g : Bool} : (if bI g = 0 then some ((0 : Int32), M) else some (1, M)) = some (bI g, M) := by cases g <;> simp [bI]
theorem isb0 : isb 0 = true := rfl
theorem isb1 : isb 1 = true := rfl
section CC
variable {M : Mem} {a1 a2 a3 : Int32}
theorem c_15 (hJ : J M) : OKJ (f_law_15 M a1 a2 a3) := by
  show OKJ (LI (f_L_pairs M a1) (fun M => f_X7_pairs M a1))
  rcases ordc a1 with ⟨o, ho, rfl⟩ | ⟨h1, h2⟩
  · obtain ⟨n, b, P⟩ := hJ o ho
    have hS := P.1
    have h9 := P.2.1.le
    have h8 := p2_le h9
    have h7 := Nat.two_pow_pos n
    have P7 := P.cd ho 0
    have e6 : f_X6_pairs M (iN o) = some (.inr (iN (S n fun k => pc (b k))), M) := by
      simp (disch := omega) only [f_X6_pairs, s_orderAt ho, bd_some, cx, kd4 ho, chk_t, isb_bI, s_pairCount P.2.1]
    have e7 : f_X7_pairs (M) (iN o) = some (iN (S n fun k => pc (b k)), upM M 47 3 0) := by
      simp (disch := omega) only [f_X7_pairs, t_isOrder ho, bd_some, t_lets1, e10, if_false, Rb, t_pairsOf P7.2.2.1]
    exact LI_ok (by simp only [f_L_pairs, e6, bd_some, lx]) e7 cd_at (hJ.cd 0)
  · have e6 : f_X6_pairs M a1 = some (.inl eI, M) := by simp only [f_X6_pairs, h1, bd_some, cx]
    have e7 : f_X7_pairs M a1 = some (0, upM M 47 3 1) := by simp only [f_X7_pairs, h2, bd_some, t_lets0, if_true]
    exact LI_ex (by simp only [f_L_pairs, e6, bd_some, lx, if_true]) e7 cd_at h10 (hJ.cd 1)
theorem c_16 (hJ : J M) : OKJ (f_law_16 M a1 a2 a3) := by
  show OKJ (LI (f_L_nexts M a1) (fun M => f_X7_nexts M a1))
  rcases ordc a1 with ⟨o, ho, rfl⟩ | ⟨h1, h2⟩
  · obtain ⟨n, b, P⟩ := hJ o ho
    have hS := P.1
    have h9 := P.2.1.le
    have h8 := p2_le h9
    have h7 := Nat.two_pow_pos n
    have P7 := P.cd ho 0
    have e6 : f_X6_nexts M (iN o) = some (.inr (iN (S n fun k => ct n fun j => nx b n k j)), M) := by
      simp (disch := omega) only [f_X6_nexts, s_orderAt ho, bd_some, cx, kd4 ho, chk_t, isb_bI, s_nextCount P.2.1, nexts_eq hS]
    have e7 : f_X7_nexts (M) (iN o) = some (iN (S n fun k => ct n fun j => nx b n k j), upM M 47 3 0) := by
      simp (disch := omega) only [f_X7_nexts, t_isOrder ho, bd_some, t_lets1, e10, if_false, Rb, t_nexts P7.2.2.1]
    exact LI_ok (by simp only [f_L_nexts, e6, bd_some, lx]) e7 cd_at (hJ.cd 0)
  · have e6 : f_X6_nexts M a1 = some (.inl eI, M) := by simp only [f_X6_nexts, h1, bd_some, cx]
    have e7 : f_X7_nexts M a1 = some (0, upM M 47 3 1) := by simp only [f_X7_nexts, h2, bd_some, t_lets0, if_true]
    exact LI_ex (by simp only [f_L_nexts, e6, bd_some, lx, if_true]) e7 cd_at h10 (hJ.cd 1)
theorem c_18 (hJ : J M) : OKJ (f_law_18 M a1 a2 a3) := by
  show OKJ (LB (f_L_isNext M a1 a2 a3) (fun M => f_X7_isNext M a1 a2 a3))
  rcases boc hJ a1 a2 a3 with ⟨o, n, b, u, t, ho, P, hu, ht, rfl, rfl, rfl⟩ | ⟨h1, h2⟩
  · have ht9 : t < 9 := Nat.lt_of_lt_of_le ht P.2.1.le
    have hu9 : u < 9 := Nat.lt_of_lt_of_le hu P.2.1.le
    have hS := P.1
    have h9 := P.2.1.le
    have h8 := p2_le h9
    have h7 := Nat.two_pow_pos n
    have hnx := nx_eq (j := u) hS.2.1 ht
    have P7 := P.cd ho 0
    have e6 : f_X6_isNext M (iN o) (iN u) (iN t) = some (.inr (bI (nx b n u t)), M) := by
      simp (disch := omega) only [f_X6_isNext, s_orderWithBoth1 P ho hu ht, bd_some, cx, kd4 ho, chk_t, isb_bI, s_isNextBelow P.2.1 hu ht, hnx]
    have e7 : f_X7_isNext (M) (iN o) (iN u) (iN t) = some (bI (nx b n u t), upM M 47 3 0) := by
      simp (disch := omega) only [f_X7_isNext, t_isThing1 P ho hu, t_isThing1 P ho ht, f_X7_isNext_L24, bd_some, t_lets1, e10, if_false, Rb, t_next P7.2.2.1 hu ht]
    exact LB_ok (by simp only [f_L_isNext, e6, bd_some, lx, Lb]) e7 cd_at (hJ.cd 0)
  · have e6 : f_X6_isNext M a1 a2 a3 = some (.inl eI, M) := by simp only [f_X6_isNext, h1, bd_some, cx]
    have e7 : f_X7_isNext M a1 a2 a3 = some (0, upM M 47 3 1) := by
      rcases h2 with h2 | ⟨h2, h3⟩
      · simp only [f_X7_isNext, h2, bd_some, if_true, f_X7_isNext_L23, f_X7_isNext_L24, t_lets0]
      · simp only [f_X7_isNext, h2, h3, bd_some, e10, if_false, if_true, f_X7_isNext_L23, f_X7_isNext_L24, t_lets0]
    exact LB_ex (by simp only [f_L_isNext, e6, bd_some, lx, if_true]) e7 cd_at h10 (hJ.cd 1)
theorem c_19 (hJ : J M) : OKJ (f_law_19 M a1 a2 a3) := by
  show OKJ (LI (f_L_lower M a1 a2) (fun M => f_X7_lower M a1 a2))
  rcases thc hJ a1 a2 with ⟨o, n, b, t, ho, P, ht, rfl, rfl⟩ | ⟨h1, h2⟩
  · have ht9 : t < 9 := Nat.lt_of_lt_of_le ht P.2.1.le
    have hS := P.1
    have h9 := P.2.1.le
    have h8 := p2_le h9
    have h7 := Nat.two_pow_pos n
    have P7 := P.cd ho 0
    have e6 : f_X6_lower M (iN o) (iN t) = some (.inr (iN (b t)), M) := by
      simp (disch := omega) only [f_X6_lower, s_orderWith1 P ho ht, bd_some, cx, kd4 ho, chk_t, isb_bI, chk_inb, clamp_iN, P.2.1.b ht]
    have e7 : f_X7_lower (M) (iN o) (iN t) = some (iN (b t), upM M 47 3 0) := by
      simp (disch := omega) only [f_X7_lower, t_isThing1 P ho ht, bd_some, t_lets1, e10, if_false, Rb, t_lowerOf P7.2.2.1 ht]
    exact LI_ok (by simp only [f_L_lower, e6, bd_some, lx]) e7 cd_at (hJ.cd 0)
  · have e6 : f_X6_lower M a1 a2 = some (.inl eI, M) := by simp only [f_X6_lower, h1, bd_some, cx]
    have e7 : f_X7_lower M a1 a2 = some (0, upM M 47 3 1) := by simp only [f_X7_lower, h2, bd_some, t_lets0, if_true]
    exact LI_ex (by simp only [f_L_lower, e6, bd_some, lx, if_true]) e7 cd_at h10 (hJ.cd 1)
theorem c_20 (hJ : J M) : OKJ (f_law_20 M a1 a2 a3) := by
  show OKJ (LI (f_L_upper M a1 a2) (fun M => f_X7_upper M a1 a2))
  rcases thc hJ a1 a2 with ⟨o, n, b, t, ho, P, ht, rfl, rfl⟩ | ⟨h1, h2⟩
  · have ht9 : t < 9 := Nat.lt_of_lt_of_le ht P.2.1.le
    have hS := P.1
    have h9 := P.2.1.le
    have h8 := p2_le h9
    have h7 := Nat.two_pow_pos n
    have P7 := P.cd ho 0
    have e6 : f_X6_upper M (iN o) (iN t) = some (.inr (iN (mk n fun k => (b k).testBit t)), M) := by
      simp (disch := omega) only [f_X6_upper, s_orderWith1 P ho ht, bd_some, cx, kd4 ho, chk_t, isb_bI, s_aboveOf P.2.1 ht]
    have e7 : f_X7_upper (M) (iN o) (iN t) = some (iN (mk n fun k => (b k).testBit t), upM M 47 3 0) := by
      simp (disch := omega) only [f_X7_upper, t_isThing1 P ho ht, bd_some, t_lets1, e10, if_false, Rb, t_upperOf P7.2.2.1 ht]
    exact LI_ok (by simp only [f_L_upper, e6, bd_some, lx]) e7 cd_at (hJ.cd 0)
  · have e6 : f_X6_upper M a1 a2 = some (.inl eI, M) := by simp only [f_X6_upper, h1, bd_some, cx]
    have e7 : f_X7_upper M a1 a2 = some (0, upM M 47 3 1) := by simp only [f_X7_upper, h2, bd_some, t_lets0, if_true]
    exact LI_ex (by simp only [f_L_upper, e6, bd_some, lx, if_true]) e7 cd_at h10 (hJ.cd 1)
theorem c_22 (hJ : J M) : OKJ (f_law_22 M a1 a2 a3) := by
  show OKJ (LI (f_L_value M a1 a2) (fun M => f_X7_value M a1 a2))
  rcases thc hJ a1 a2 with ⟨o, n, b, t, ho, P, ht, rfl, rfl⟩ | ⟨h1, h2⟩
  · have ht9 : t < 9 := Nat.lt_of_lt_of_le ht P.2.1.le
    have hS := P.1
    have h9 := P.2.1.le
    have h8 := p2_le h9
    have h7 := Nat.two_pow_pos n
    have hv := P.2.2.2.1 t ht
    have hv7 : upM M 47 3 0 (50 + o) t = M (50 + o) t := upM_ne2 (by omega)
    have P7 := P.cd ho 0
    have e6 : f_X6_value M (iN o) (iN t) = some (.inr (M (50 + o) t), M) := by
      simp (disch := omega) only [f_X6_value, s_orderWith1 P ho ht, bd_some, cx, kd4 ho, chk_t, isb_bI, chk_inb, clamp_iN, hv]
    have e7 : f_X7_value (M) (iN o) (iN t) = some (M (50 + o) t, upM M 47 3 0) := by
      simp (disch := omega) only [f_X7_value, t_isThing1 P ho ht, bd_some, t_lets1, e10, if_false, Rb, chk_inb, clamp_iN, hv7]
    exact LI_ok (by simp only [f_L_value, e6, bd_some, lx]) e7 cd_at (hJ.cd 0)
  · have e6 : f_X6_value M a1 a2 = some (.inl eI, M) := by simp only [f_X6_value, h1, bd_some, cx]
    have e7 : f_X7_value M a1 a2 = some (0, upM M 47 3 1) := by simp only [f_X7_value, h2, bd_some, t_lets0, if_true]
    exact LI_ex (by simp only [f_L_value, e6, bd_some, lx, if_true]) e7 cd_at h10 (hJ.cd 1)
theorem c_24 (hJ : J M) : OKJ (f_law_24 M a1 a2 a3) := by
  show OKJ (LB (f_L_isChain M a1 a2) (fun M => f_X7_isChain M a1 a2))
  rcases sec hJ a1 a2 with ⟨o, n, b, s, ho, P, hs, rfl, rfl⟩ | ⟨h1, h2⟩ | ⟨h1, h2, h3⟩
  · have hs9 : s < 512 := Nat.lt_of_lt_of_le hs (p2_le P.2.1.le)
    have hS := P.1
    have h9 := P.2.1.le
    have h8 := p2_le h9
    have h7 := Nat.two_pow_pos n
    have P7 := P.cd ho 0
    have hia : f_X7_isAll (upM M 47 3 0) (iN o) (iN s) 1 = some (bI (ia b n s true)) := t_isAll P7.2.2.1 hs9 true
    have e6 : f_X6_isChain M (iN o) (iN s) = some (.inr (bI (ia b n s true)), M) := by
      simp (disch := omega) only [f_X6_isChain, s_orderWithSet1 P ho hs, bd_some, cx, kd4 ho, chk_t, isb_bI, s_isInLine P.2.1, il_ia hS hs]
    have e7 : f_X7_isChain (M) (iN o) (iN s) = some (bI (ia b n s true), upM M 47 3 0) := by
      simp (disch := omega) only [f_X7_isChain, t_isOrder ho, t_isSet1 P7 ho hs, upM_up, bd_some, t_lets1, e10, if_false, Rb, hia]
    exact LB_ok (by simp only [f_L_isChain, e6, bd_some, lx, Lb]) e7 cd_at (hJ.cd 0)
  · have e6 : f_X6_isChain M a1 a2 = some (.inl eI, M) := by simp only [f_X6_isChain, h1, bd_some, cx]
    have e7 : f_X7_isChain M a1 a2 = some (0, upM M 47 3 1) := by simp only [f_X7_isChain, h2, bd_some, t_lets0, if_true]
    exact LB_ex (by simp only [f_L_isChain, e6, bd_some, lx, if_true]) e7 cd_at h10 (hJ.cd 1)
  · have e6 : f_X6_isChain M a1 a2 = some (.inl eA, M) := by simp only [f_X6_isChain, h1, bd_some, cx]
    have e7 : f_X7_isChain M a1 a2 = some (0, upM M 47 3 2) := by simp only [f_X7_isChain, h2, bd_some, t_lets1, e10, if_false, h3 0, t_lets0, if_true, upM_up]
    exact LB_ex (by simp only [f_L_isChain, e6, bd_some, lx, eAI, if_false, if_true]) e7 cd_at h20 (hJ.cd 2)
theorem c_25 (hJ : J M) : OKJ (f_law_25 M a1 a2 a3) := by
  show OKJ (LB (f_L_isApart M a1 a2) (fun M => f_X7_isApart M a1 a2))
  rcases sec hJ a1 a2 with ⟨o, n, b, s, ho, P, hs, rfl, rfl⟩ | ⟨h1, h2⟩ | ⟨h1, h2, h3⟩
  · have hs9 : s < 512 := Nat.lt_of_lt_of_le hs (p2_le P.2.1.le)
    have hS := P.1
    have h9 := P.2.1.le
    have h8 := p2_le h9
    have h7 := Nat.two_pow_pos n
    have P7 := P.cd ho 0
    have hia : f_X7_isAll (upM M 47 3 0) (iN o) (iN s) 0 = some (bI (ia b n s false)) := t_isAll P7.2.2.1 hs9 false
    have e6 : f_X6_isApart M (iN o) (iN s) = some (.inr (bI (ia b n s false)), M) := by
      simp (disch := omega) only [f_X6_isApart, s_orderWithSet1 P ho hs, bd_some, cx, kd4 ho, chk_t, isb_bI, s_isUnordered P.2.1, ap_ia hS]
    have e7 : f_X7_isApart (M) (iN o) (iN s) = some (bI (ia b n s false), upM M 47 3 0) := by
      simp (disch := omega) only [f_X7_isApart, t_isOrder ho, t_isSet1 P7 ho hs, upM_up, bd_some, t_lets1, e10, if_false, Rb, hia]
    exact LB_ok (by simp only [f_L_isApart, e6, bd_some, lx, Lb]) e7 cd_at (hJ.cd 0)
  · have e6 : f_X6_isApart M a1 a2 = some (.inl eI, M) := by simp only [f_X6_isApart, h1, bd_some, cx]
    have e7 : f_X7_isApart M a1 a2 = some (0, upM M 47 3 1) := by simp only [f_X7_isApart, h2, bd_some, t_lets0, if_true]
    exact LB_ex (by simp only [f_L_isApart, e6, bd_some, lx, if_true]) e7 cd_at h10 (hJ.cd 1)
  · have e6 : f_X6_isApart M a1 a2 = some (.inl eA, M) := by simp only [f_X6_isApart, h1, bd_some, cx]
    have e7 : f_X7_isApart M a1 a2 = some (0, upM M 47 3 2) := by simp only [f_X7_isApart, h2, bd_some, t_lets1, e10, if_false, h3 0, t_lets0, if_true, upM_up]
    exact LB_ex (by simp only [f_L_isApart, e6, bd_some, lx, eAI, if_false, if_true]) e7 cd_at h20 (hJ.cd 2)
theorem c_26 (hJ : J M) : OKJ (f_law_26 M a1 a2 a3) := by
  show OKJ (LI (f_L_level M a1 a2) (fun M => f_X7_level M a1 a2))
  rcases thc hJ a1 a2 with ⟨o, n, b, t, ho, P, ht, rfl, rfl⟩ | ⟨h1, h2⟩
  · have ht9 : t < 9 := Nat.lt_of_lt_of_le ht P.2.1.le
    have hS := P.1
    have h9 := P.2.1.le
    have h8 := p2_le h9
    have h7 := Nat.two_pow_pos n
    have hb9 := P.2.1.lt9 ht
    have hl : f_X0_longestWithin M (2 + 3 * o) (iN (b t)) = some (iN (lw b n (b t))) := s_longestWithin P.2.1 hb9
    have hv : iN (lw b n (b t)) + 1 = iN (hg b n t) := iN_s _
    have P7 := P.cd ho 0
    have hlv := t_levelOf hS P7.2.2.1 RD t ht (by have := pc_le (b t); unfold RD; omega)
    have e6 : f_X6_level M (iN o) (iN t) = some (.inr (iN (hg b n t)), M) := by
      simp (disch := omega) only [f_X6_level, s_orderWith1 P ho ht, bd_some, cx, kd4 ho, chk_t, isb_bI, chk_inb, clamp_iN, P.2.1.b ht, hl, hv]
    have e7 : f_X7_level (M) (iN o) (iN t) = some (iN (hg b n t), upM M 47 3 0) := by
      simp (disch := omega) only [f_X7_level, t_isThing1 P ho ht, bd_some, t_lets1, e10, if_false, Rb, hlv]
    exact LI_ok (by simp only [f_L_level, e6, bd_some, lx]) e7 cd_at (hJ.cd 0)
  · have e6 : f_X6_level M a1 a2 = some (.inl eI, M) := by simp only [f_X6_level, h1, bd_some, cx]
    have e7 : f_X7_level M a1 a2 = some (0, upM M 47 3 1) := by simp only [f_X7_level, h2, bd_some, t_lets0, if_true]
    exact LI_ex (by simp only [f_L_level, e6, bd_some, lx, if_true]) e7 cd_at h10 (hJ.cd 1)
theorem c_27 (hJ : J M) : OKJ (f_law_27 M a1 a2 a3) := by
  show OKJ (LI (f_L_longest M a1) (fun M => f_X7_longest M a1))
  rcases ordc a1 with ⟨o, ho, rfl⟩ | ⟨h1, h2⟩
  · obtain ⟨n, b, P⟩ := hJ o ho
    have hS := P.1
    have h9 := P.2.1.le
    have h8 := p2_le h9
    have h7 := Nat.two_pow_pos n
    have hl : f_X0_longestWithin M (2 + 3 * o) (iN (2 ^ n - 1)) = some (iN (hh b n)) := s_longestWithin P.2.1 (by omega)
    have P7 := P.cd ho 0
    have hm : f_X7_mostOf (upM M 47 3 0) (iN o) 1 = some (iN (hh b n)) := by rw [hh_eq hS]; exact t_mostOf P7.2.2.1 true
    have e6 : f_X6_longest M (iN o) = some (.inr (iN (hh b n)), M) := by
      simp (disch := omega) only [f_X6_longest, s_orderAt ho, bd_some, cx, kd4 ho, chk_t, isb_bI, s_all P.2.1, hl]
    have e7 : f_X7_longest (M) (iN o) = some (iN (hh b n), upM M 47 3 0) := by
      simp (disch := omega) only [f_X7_longest, t_isOrder ho, bd_some, t_lets1, e10, if_false, Rb, hm]
    exact LI_ok (by simp only [f_L_longest, e6, bd_some, lx]) e7 cd_at (hJ.cd 0)
  · have e6 : f_X6_longest M a1 = some (.inl eI, M) := by simp only [f_X6_longest, h1, bd_some, cx]
    have e7 : f_X7_longest M a1 = some (0, upM M 47 3 1) := by simp only [f_X7_longest, h2, bd_some, t_lets0, if_true]
    exact LI_ex (by simp only [f_L_longest, e6, bd_some, lx, if_true]) e7 cd_at h10 (hJ.cd 1)
theorem c_28 (hJ : J M) : OKJ (f_law_28 M a1 a2 a3) := by
  show OKJ (LI (f_L_widest M a1) (fun M => f_X7_widest M a1))
  rcases ordc a1 with ⟨o, ho, rfl⟩ | ⟨h1, h2⟩
  · obtain ⟨n, b, P⟩ := hJ o ho
    have hS := P.1
    have h9 := P.2.1.le
    have h8 := p2_le h9
    have h7 := Nat.two_pow_pos n
    have P7 := P.cd ho 0
    have hm : f_X7_mostOf (upM M 47 3 0) (iN o) 0 = some (iN (wd b n)) := by rw [wd_eq hS]; exact t_mostOf P7.2.2.1 false
    have e6 : f_X6_widest M (iN o) = some (.inr (iN (wd b n)), M) := by
      simp (disch := omega) only [f_X6_widest, s_orderAt ho, bd_some, cx, kd4 ho, chk_t, isb_bI, s_mostApart P.2.1]
    have e7 : f_X7_widest (M) (iN o) = some (iN (wd b n), upM M 47 3 0) := by
      simp (disch := omega) only [f_X7_widest, t_isOrder ho, bd_some, t_lets1, e10, if_false, Rb, hm]
    exact LI_ok (by simp only [f_L_widest, e6, bd_some, lx]) e7 cd_at (hJ.cd 0)
  · have e6 : f_X6_widest M a1 = some (.inl eI, M) := by simp only [f_X6_widest, h1, bd_some, cx]
    have e7 : f_X7_widest M a1 = some (0, upM M 47 3 1) := by simp only [f_X7_widest, h2, bd_some, t_lets0, if_true]
    exact LI_ex (by simp only [f_L_widest, e6, bd_some, lx, if_true]) e7 cd_at h10 (hJ.cd 1)
theorem c_29 (hJ : J M) : OKJ (f_law_29 M a1 a2 a3) := by
  show OKJ (LI (f_L_fewestChains M a1) (fun M => f_X7_fewestChains M a1))
  rcases ordc a1 with ⟨o, ho, rfl⟩ | ⟨h1, h2⟩
  · obtain ⟨n, b, P⟩ := hJ o ho
    have hS := P.1
    have h9 := P.2.1.le
    have h8 := p2_le h9
    have h7 := Nat.two_pow_pos n
    obtain ⟨⟨r6, M6⟩, x6, hr6, hf6, hdd⟩ := s_chainCover (q0 := 17) hS P.2.1 (by omega)
    dsimp only at hr6 hf6
    subst hr6
    have P6 := P.fr ho hf6 (scrL (by decide))
    have J6 := hJ.fr hf6 (scrL (by decide))
    have P7 := P6.cd ho 0
    obtain ⟨⟨r7, M7⟩, x7, hr7, hf7⟩ := t_fewestOf P7.2.2.1 true
    dsimp only at hr7 hf7
    rw [hdd] at hr7
    subst hr7
    have x7' : f_X7_fewestOf (upM M6 47 3 0) (iN o) 1 = some (iN (wd b n), M7) := x7
    have e6 : f_X6_fewestChains M (iN o) = some (.inr (iN (wd b n)), M6) := by
      simp (disch := omega) only [f_X6_fewestChains, s_orderAt ho, bd_some, cx, kd4 ho, chk_t, isb_bI, x6]
    have e7 : f_X7_fewestChains (M6) (iN o) = some (iN (wd b n), M7) := by
      simp (disch := omega) only [f_X7_fewestChains, t_isOrder ho, bd_some, t_lets1, e10, if_false, Rb, x7']
    exact LI_ok (by simp only [f_L_fewestChains, e6, bd_some, lx]) e7 (cd_fr hf7 (by decide)) ((J6.cd 0).fr hf7 (scrL (by decide)))
  · have e6 : f_X6_fewestChains M a1 = some (.inl eI, M) := by simp only [f_X6_fewestChains, h1, bd_some, cx]
    have e7 : f_X7_fewestChains M a1 = some (0, upM M 47 3 1) := by simp only [f_X7_fewestChains, h2, bd_some, t_lets0, if_true]
    exact LI_ex (by simp only [f_L_fewestChains, e6, bd_some, lx, if_true]) e7 cd_at h10 (hJ.cd 1)
theorem c_30 (hJ : J M) : OKJ (f_law_30 M a1 a2 a3) := by
  show OKJ (LI (f_L_fewestAparts M a1) (fun M => f_X7_fewestAparts M a1))
  rcases ordc a1 with ⟨o, ho, rfl⟩ | ⟨h1, h2⟩
  · obtain ⟨n, b, P⟩ := hJ o ho
    have hS := P.1
    have h9 := P.2.1.le
    have h8 := p2_le h9
    have h7 := Nat.two_pow_pos n
    have P7 := P.cd ho 0
    obtain ⟨⟨r7, M7⟩, x7, hr7, hf7⟩ := t_fewestOf P7.2.2.1 false
    dsimp only at hr7 hf7
    rw [dd_false hS] at hr7
    subst hr7
    have x7' : f_X7_fewestOf (upM M 47 3 0) (iN o) 0 = some (iN (hh b n), M7) := x7
    have e6 : f_X6_fewestAparts M (iN o) = some (.inr (iN (hh b n)), M) := by
      simp (disch := omega) only [f_X6_fewestAparts, s_orderAt ho, bd_some, cx, kd4 ho, chk_t, isb_bI, s_layerCount P.2.1, ly_hh hS]
    have e7 : f_X7_fewestAparts (M) (iN o) = some (iN (hh b n), M7) := by
      simp (disch := omega) only [f_X7_fewestAparts, t_isOrder ho, bd_some, t_lets1, e10, if_false, Rb, x7']
    exact LI_ok (by simp only [f_L_fewestAparts, e6, bd_some, lx]) e7 (cd_fr hf7 (by decide)) ((hJ.cd 0).fr hf7 (scrL (by decide)))
  · have e6 : f_X6_fewestAparts M a1 = some (.inl eI, M) := by simp only [f_X6_fewestAparts, h1, bd_some, cx]
    have e7 : f_X7_fewestAparts M a1 = some (0, upM M 47 3 1) := by simp only [f_X7_fewestAparts, h2, bd_some, t_lets0, if_true]
    exact LI_ex (by simp only [f_L_fewestAparts, e6, bd_some, lx, if_true]) e7 cd_at h10 (hJ.cd 1)
theorem c_31 (hJ : J M) : OKJ (f_law_31 M a1 a2 a3) := by
  show OKJ (LI (f_L_aparts M a1) (fun M => f_X7_aparts M a1))
  rcases ordc a1 with ⟨o, ho, rfl⟩ | ⟨h1, h2⟩
  · obtain ⟨n, b, P⟩ := hJ o ho
    have hS := P.1
    have h9 := P.2.1.le
    have h8 := p2_le h9
    have h7 := Nat.two_pow_pos n
    have hap : ct (2 ^ n) (ap b n) = ct (2 ^ n) (fun s => ia b n s false) := ct_congr (fun s _ => ap_ia hS)
    have P7 := P.cd ho 0
    have e6 : f_X6_aparts M (iN o) = some (.inr (iN (ct (2 ^ n) (fun s => ia b n s false))), M) := by
      simp (disch := omega) only [f_X6_aparts, s_orderAt ho, bd_some, cx, kd4 ho, chk_t, isb_bI, s_apartCount P.2.1, hap]
    have e7 : f_X7_aparts (M) (iN o) = some (iN (ct (2 ^ n) (fun s => ia b n s false)), upM M 47 3 0) := by
      simp (disch := omega) only [f_X7_aparts, t_isOrder ho, bd_some, t_lets1, e10, if_false, Rb, t_aparts P7.2.2.1]
    exact LI_ok (by simp only [f_L_aparts, e6, bd_some, lx]) e7 cd_at (hJ.cd 0)
  · have e6 : f_X6_aparts M a1 = some (.inl eI, M) := by simp only [f_X6_aparts, h1, bd_some, cx]
    have e7 : f_X7_aparts M a1 = some (0, upM M 47 3 1) := by simp only [f_X7_aparts, h2, bd_some, t_lets0, if_true]
    exact LI_ex (by simp only [f_L_aparts, e6, bd_some, lx, if_true]) e7 cd_at h10 (hJ.cd 1)
theorem c_32 (hJ : J M) : OKJ (f_law_32 M a1 a2 a3) := by
  show OKJ (LI (f_L_sets M a1) (fun M => f_X7_sets M a1))
  rcases ordc a1 with ⟨o, ho, rfl⟩ | ⟨h1, h2⟩
  · obtain ⟨n, b, P⟩ := hJ o ho
    have hS := P.1
    have h9 := P.2.1.le
    have h8 := p2_le h9
    have h7 := Nat.two_pow_pos n
    have P7 := P.cd ho 0
    have e6 : f_X6_sets M (iN o) = some (.inr (iN (ct (2 ^ n) (cl b n))), M) := by
      simp (disch := omega) only [f_X6_sets, s_orderAt ho, bd_some, cx, kd4 ho, chk_t, isb_bI, s_count P.2.1]
    have e7 : f_X7_sets (M) (iN o) = some (iN (ct (2 ^ n) (cl b n)), upM M 47 3 0) := by
      simp (disch := omega) only [f_X7_sets, t_isOrder ho, bd_some, t_lets1, e10, if_false, Rb, t_manyOf P7.2.2.1]
    exact LI_ok (by simp only [f_L_sets, e6, bd_some, lx]) e7 cd_at (hJ.cd 0)
  · have e6 : f_X6_sets M a1 = some (.inl eI, M) := by simp only [f_X6_sets, h1, bd_some, cx]
    have e7 : f_X7_sets M a1 = some (0, upM M 47 3 1) := by simp only [f_X7_sets, h2, bd_some, t_lets0, if_true]
    exact LI_ex (by simp only [f_L_sets, e6, bd_some, lx, if_true]) e7 cd_at h10 (hJ.cd 1)
theorem c_37 (hJ : J M) : OKJ (f_law_37 M a1 a2 a3) := by
  show OKJ (LI (f_L_closed M a1 a2) (fun M => f_X7_closed M a1 a2))
  rcases sec hJ a1 a2 with ⟨o, n, b, s, ho, P, hs, rfl, rfl⟩ | ⟨h1, h2⟩ | ⟨h1, h2, h3⟩
  · have hs9 : s < 512 := Nat.lt_of_lt_of_le hs (p2_le P.2.1.le)
    have hS := P.1
    have h9 := P.2.1.le
    have h8 := p2_le h9
    have h7 := Nat.two_pow_pos n
    have P7 := P.cd ho 0
    have e6 : f_X6_closed M (iN o) (iN s) = some (.inr (iN (s ||| un b s n)), M) := by
      simp (disch := omega) only [f_X6_closed, s_orderWithSet1 P ho hs, bd_some, cx, kd4 ho, chk_t, isb_bI, s_filledUp P.2.1]
    have e7 : f_X7_closed (M) (iN o) (iN s) = some (iN (s ||| un b s n), upM M 47 3 0) := by
      simp (disch := omega) only [f_X7_closed, t_isOrder ho, t_isSet1 P7 ho hs, upM_up, bd_some, t_lets1, e10, if_false, Rb, t_closure P7.2.2.1]
    exact LI_ok (by simp only [f_L_closed, e6, bd_some, lx]) e7 cd_at (hJ.cd 0)
  · have e6 : f_X6_closed M a1 a2 = some (.inl eI, M) := by simp only [f_X6_closed, h1, bd_some, cx]
    have e7 : f_X7_closed M a1 a2 = some (0, upM M 47 3 1) := by simp only [f_X7_closed, h2, bd_some, t_lets0, if_true]
    exact LI_ex (by simp only [f_L_closed, e6, bd_some, lx, if_true]) e7 cd_at h10 (hJ.cd 1)
  · have e6 : f_X6_closed M a1 a2 = some (.inl eA, M) := by simp only [f_X6_closed, h1, bd_some, cx]
    have e7 : f_X7_closed M a1 a2 = some (0, upM M 47 3 2) := by simp only [f_X7_closed, h2, bd_some, t_lets1, e10, if_false, h3 0, t_lets0, if_true, upM_up]
    exact LI_ex (by simp only [f_L_closed, e6, bd_some, lx, eAI, if_false, if_true]) e7 cd_at h20 (hJ.cd 2)
theorem c_38 (hJ : J M) : OKJ (f_law_38 M a1 a2 a3) := by
  show OKJ (LI (f_L_inner M a1 a2) (fun M => f_X7_inner M a1 a2))
  rcases sec hJ a1 a2 with ⟨o, n, b, s, ho, P, hs, rfl, rfl⟩ | ⟨h1, h2⟩ | ⟨h1, h2, h3⟩
  · have hs9 : s < 512 := Nat.lt_of_lt_of_le hs (p2_le P.2.1.le)
    have hS := P.1
    have h9 := P.2.1.le
    have h8 := p2_le h9
    have h7 := Nat.two_pow_pos n
    have P7 := P.cd ho 0
    have e6 : f_X6_inner M (iN o) (iN s) = some (.inr (iN (mk n fun k => s.testBit k && sb (b k) s)), M) := by
      simp (disch := omega) only [f_X6_inner, s_orderWithSet1 P ho hs, bd_some, cx, kd4 ho, chk_t, isb_bI, s_pared P.2.1]
    have e7 : f_X7_inner (M) (iN o) (iN s) = some (iN (mk n fun k => s.testBit k && sb (b k) s), upM M 47 3 0) := by
      simp (disch := omega) only [f_X7_inner, t_isOrder ho, t_isSet1 P7 ho hs, upM_up, bd_some, t_lets1, e10, if_false, Rb, t_inner P7.2.2.1 hS hs]
    exact LI_ok (by simp only [f_L_inner, e6, bd_some, lx]) e7 cd_at (hJ.cd 0)
  · have e6 : f_X6_inner M a1 a2 = some (.inl eI, M) := by simp only [f_X6_inner, h1, bd_some, cx]
    have e7 : f_X7_inner M a1 a2 = some (0, upM M 47 3 1) := by simp only [f_X7_inner, h2, bd_some, t_lets0, if_true]
    exact LI_ex (by simp only [f_L_inner, e6, bd_some, lx, if_true]) e7 cd_at h10 (hJ.cd 1)
  · have e6 : f_X6_inner M a1 a2 = some (.inl eA, M) := by simp only [f_X6_inner, h1, bd_some, cx]
    have e7 : f_X7_inner M a1 a2 = some (0, upM M 47 3 2) := by simp only [f_X7_inner, h2, bd_some, t_lets1, e10, if_false, h3 0, t_lets0, if_true, upM_up]
    exact LI_ex (by simp only [f_L_inner, e6, bd_some, lx, eAI, if_false, if_true]) e7 cd_at h20 (hJ.cd 2)
theorem c_41 (hJ : J M) : OKJ (f_law_41 M a1 a2 a3) := by
  show OKJ (LI (f_L_rows M a1) (fun M => f_X7_rows M a1))
  rcases ordc a1 with ⟨o, ho, rfl⟩ | ⟨h1, h2⟩
  · obtain ⟨n, b, P⟩ := hJ o ho
    have hS := P.1
    have h9 := P.2.1.le
    have h8 := p2_le h9
    have h7 := Nat.two_pow_pos n
    obtain ⟨⟨r6, M6⟩, x6, hr6, hf6, -⟩ := s_rcount' (q := 20) hS P.2.1 (by omega)
    dsimp only at hr6 hf6
    subst hr6
    have P6 := P.fr ho hf6 (scrL (by decide))
    have J6 := hJ.fr hf6 (scrL (by decide))
    have P7 := P6.cd ho 0
    obtain ⟨⟨r7, M7⟩, x7, hr7, hf7, -⟩ := t_rowsOf P7.2.2.1
    dsimp only at hr7 hf7
    subst hr7
    have e6 : f_X6_rows M (iN o) = some (.inr (iN (RW b n)), M6) := by
      simp (disch := omega) only [f_X6_rows, s_orderAt ho, bd_some, cx, kd4 ho, chk_t, isb_bI, x6]
    have e7 : f_X7_rows (M6) (iN o) = some (iN (RW b n), M7) := by
      simp (disch := omega) only [f_X7_rows, t_isOrder ho, bd_some, t_lets1, e10, if_false, Rb, x7]
    exact LI_ok (by simp only [f_L_rows, e6, bd_some, lx]) e7 (cd_fr hf7 (by decide)) ((J6.cd 0).fr hf7 (scrL (by decide)))
  · have e6 : f_X6_rows M a1 = some (.inl eI, M) := by simp only [f_X6_rows, h1, bd_some, cx]
    have e7 : f_X7_rows M a1 = some (0, upM M 47 3 1) := by simp only [f_X7_rows, h2, bd_some, t_lets0, if_true]
    exact LI_ex (by simp only [f_L_rows, e6, bd_some, lx, if_true]) e7 cd_at h10 (hJ.cd 1)
theorem c_49 (hJ : J M) : OKJ (f_law_49 M a1 a2 a3) := by
  show OKJ (LI (f_L_sum M a1 a2) (fun M => f_X7_sum M a1 a2))
  rcases thc hJ a1 a2 with ⟨o, n, b, t, ho, P, ht, rfl, rfl⟩ | ⟨h1, h2⟩
  · have ht9 : t < 9 := Nat.lt_of_lt_of_le ht P.2.1.le
    have hS := P.1
    have h9 := P.2.1.le
    have h8 := p2_le h9
    have h7 := Nat.two_pow_pos n
    have hv : SI n (fun k => if ub b k t then M (2 + 3 * o + 2) k else 0) = SI n (fun k => if (decide (k = t) || (b t).testBit k) then M (50 + o) k else 0) := SI_congr (fun k hk => by rw [P.2.2.2.1 k hk]; rfl)
    have P7 := P.cd ho 0
    have hsu := t_sumOf P7.2.2.1 ht
    have hv7 : SI n (fun k => if (decide (k = t) || (b t).testBit k) then upM M 47 3 0 (50 + o) k else 0) = SI n (fun k => if (decide (k = t) || (b t).testBit k) then M (50 + o) k else 0) := SI_congr (fun k hk => by rw [upM_ne2 (show 50 + o ≠ 47 by omega)])
    rw [hv7] at hsu
    have e6 : f_X6_sum M (iN o) (iN t) = some (.inr (SI n (fun k => if (decide (k = t) || (b t).testBit k) then M (50 + o) k else 0)), M) := by
      simp (disch := omega) only [f_X6_sum, s_orderWith1 P ho ht, bd_some, cx, kd4 ho, chk_t, isb_bI, s_sumUpTo' hS P.2.1 ht, hv]
    have e7 : f_X7_sum (M) (iN o) (iN t) = some (SI n (fun k => if (decide (k = t) || (b t).testBit k) then M (50 + o) k else 0), upM M 47 3 0) := by
      simp (disch := omega) only [f_X7_sum, t_isThing1 P ho ht, bd_some, t_lets1, e10, if_false, Rb, hsu]
    exact LI_ok (by simp only [f_L_sum, e6, bd_some, lx]) e7 cd_at (hJ.cd 0)
  · have e6 : f_X6_sum M a1 a2 = some (.inl eI, M) := by simp only [f_X6_sum, h1, bd_some, cx]
    have e7 : f_X7_sum M a1 a2 = some (0, upM M 47 3 1) := by simp only [f_X7_sum, h2, bd_some, t_lets0, if_true]
    exact LI_ex (by simp only [f_L_sum, e6, bd_some, lx, if_true]) e7 cd_at h10 (hJ.cd 1)
theorem c_50 (hJ : J M) : OKJ (f_law_50 M a1 a2 a3) := by
  show OKJ (LI (f_L_number M a1 a2 a3) (fun M => f_X7_number M a1 a2 a3))
  rcases boc hJ a1 a2 a3 with ⟨o, n, b, u, t, ho, P, hu, ht, rfl, rfl, rfl⟩ | ⟨h1, h2⟩
  · have ht9 : t < 9 := Nat.lt_of_lt_of_le ht P.2.1.le
    have hu9 : u < 9 := Nat.lt_of_lt_of_le hu P.2.1.le
    have hS := P.1
    have h9 := P.2.1.le
    have h8 := p2_le h9
    have h7 := Nat.two_pow_pos n
    obtain ⟨⟨r6, M6⟩, x6, hr6, hf6⟩ := s_between (q := 24) hS P.2.1 (by omega) hu ht
    dsimp only at hr6 hf6
    subst hr6
    have P6 := P.fr ho hf6 (scrL (by decide))
    have J6 := hJ.fr hf6 (scrL (by decide))
    have P7 := P6.cd ho 0
    have hnu := t_numberOf hS P7.2.2.1 hu RD t ht (by have := pc_le (b t); unfold RD; omega)
    have e6 : f_X6_number M (iN o) (iN u) (iN t) = some (.inr (MU b n u t), M6) := by
      simp (disch := omega) only [f_X6_number, s_orderWithBoth1 P ho hu ht, bd_some, cx, kd4 ho, chk_t, isb_bI, x6]
    have e7 : f_X7_number (M6) (iN o) (iN u) (iN t) = some (MU b n u t, upM M6 47 3 0) := by
      simp (disch := omega) only [f_X7_number, t_isThing1 P6 ho hu, t_isThing1 P6 ho ht, f_X7_number_L24, bd_some, t_lets1, e10, if_false, Rb, hnu]
    exact LI_ok (by simp only [f_L_number, e6, bd_some, lx]) e7 cd_at (J6.cd 0)
  · have e6 : f_X6_number M a1 a2 a3 = some (.inl eI, M) := by simp only [f_X6_number, h1, bd_some, cx]
    have e7 : f_X7_number M a1 a2 a3 = some (0, upM M 47 3 1) := by
      rcases h2 with h2 | ⟨h2, h3⟩
      · simp only [f_X7_number, h2, bd_some, if_true, f_X7_number_L23, f_X7_number_L24, t_lets0]
      · simp only [f_X7_number, h2, h3, bd_some, e10, if_false, if_true, f_X7_number_L23, f_X7_number_L24, t_lets0]
    exact LI_ex (by simp only [f_L_number, e6, bd_some, lx, if_true]) e7 cd_at h10 (hJ.cd 1)
theorem c_51 (hJ : J M) : OKJ (f_law_51 M a1 a2 a3) := by
  show OKJ (LI (f_L_undone M a1 a2) (fun M => f_X7_undone M a1 a2))
  rcases thc hJ a1 a2 with ⟨o, n, b, t, ho, P, ht, rfl, rfl⟩ | ⟨h1, h2⟩
  · have ht9 : t < 9 := Nat.lt_of_lt_of_le ht P.2.1.le
    have hS := P.1
    have h9 := P.2.1.le
    have h8 := p2_le h9
    have h7 := Nat.two_pow_pos n
    obtain ⟨⟨r6, M6⟩, x6, hr6, hf6⟩ := s_undoSums (q := 24) hS P.2.1 (by omega) ht
    dsimp only at hr6 hf6
    rw [P.2.2.2.1 t ht] at hr6
    subst hr6
    have P6 := P.fr ho hf6 (scrL (by decide))
    have J6 := hJ.fr hf6 (scrL (by decide))
    have P7 := P6.cd ho 0
    have hun := t_undone P7.2.2.1 hS ht
    have hv7 : upM M6 47 3 0 (50 + o) t = M (50 + o) t := by rw [upM_ne2 (by omega), hf6 (50 + o) (by simp only [List.mem_cons, List.not_mem_nil, or_false]; omega)]
    rw [hv7] at hun
    have e6 : f_X6_undone M (iN o) (iN t) = some (.inr (M (50 + o) t), M6) := by
      simp (disch := omega) only [f_X6_undone, s_orderWith1 P ho ht, bd_some, cx, kd4 ho, chk_t, isb_bI, x6]
    have e7 : f_X7_undone (M6) (iN o) (iN t) = some (M (50 + o) t, upM M6 47 3 0) := by
      simp (disch := omega) only [f_X7_undone, t_isThing1 P6 ho ht, bd_some, t_lets1, e10, if_false, Rb, hun]
    exact LI_ok (by simp only [f_L_undone, e6, bd_some, lx]) e7 cd_at (J6.cd 0)
  · have e6 : f_X6_undone M a1 a2 = some (.inl eI, M) := by simp only [f_X6_undone, h1, bd_some, cx]
    have e7 : f_X7_undone M a1 a2 = some (0, upM M 47 3 1) := by simp only [f_X7_undone, h2, bd_some, t_lets0, if_true]
    exact LI_ex (by simp only [f_L_undone, e6, bd_some, lx, if_true]) e7 cd_at h10 (hJ.cd 1)
theorem c_52 (hJ : J M) : OKJ (f_law_52 M a1 a2 a3) := by
  show OKJ (LB (f_L_isSound M a1) (fun M => f_X7_isSound M a1))
  rcases ordc a1 with ⟨o, ho, rfl⟩ | ⟨h1, h2⟩
  · obtain ⟨n, b, P⟩ := hJ o ho
    have hS := P.1
    have h9 := P.2.1.le
    have h8 := p2_le h9
    have h7 := Nat.two_pow_pos n
    obtain ⟨⟨r6, M6⟩, x6, hr6, hf6⟩ := s_holdsFor hS P.2.1 (by omega)
    dsimp only at hr6 hf6
    subst hr6
    have P6 := P.fr ho hf6 (scrL (by decide))
    have J6 := hJ.fr hf6 (scrL (by decide))
    have P7 := P6.cd ho 0
    have e6 : f_X6_isSound M (iN o) = some (.inr (bI (true)), M6) := by
      simp (disch := omega) only [f_X6_isSound, s_orderAt ho, bd_some, cx, kd4 ho, chk_t, isb_bI, x6, isb1, chk_t, bI_t]
    have e7 : f_X7_isSound (M6) (iN o) = some (bI (true), upM M6 47 3 0) := by
      simp (disch := omega) only [f_X7_isSound, t_isOrder ho, bd_some, t_lets1, e10, if_false, Rb, isb1, chk_t, bI_t]
    exact LB_ok (by simp only [f_L_isSound, e6, bd_some, lx, Lb]) e7 cd_at (J6.cd 0)
  · have e6 : f_X6_isSound M a1 = some (.inl eI, M) := by simp only [f_X6_isSound, h1, bd_some, cx]
    have e7 : f_X7_isSound M a1 = some (0, upM M 47 3 1) := by simp only [f_X7_isSound, h2, bd_some, t_lets0, if_true, isb0, chk_t]
    exact LB_ex (by simp only [f_L_isSound, e6, bd_some, lx, if_true]) e7 cd_at h10 (hJ.cd 1)
end CC
