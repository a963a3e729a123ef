/-! ===== the law's cases: near, and rows by their places ===== -/
section CC
variable {M : Mem} {a1 a2 a3 : Int32}
theorem q99_108 : ((99 : Int32) = 108) = False := by decide
theorem q99_102 : ((99 : Int32) = 102) = False := by decide
theorem q102_108 : ((102 : Int32) = 108) = False := by decide
theorem q102_99 : ((102 : Int32) = 99) = False := by decide
theorem q104_108 : ((104 : Int32) = 108) = False := by decide
theorem q104_102 : ((104 : Int32) = 102) = False := by decide
theorem q104_99 : ((104 : Int32) = 99) = False := by decide
theorem q108_99 : ((108 : Int32) = 99) = False := by decide
theorem q108_102 : ((108 : Int32) = 102) = False := by decide
theorem q108_104 : ((108 : Int32) = 104) = False := by decide
theorem c_near (hJ : J M) (x : Int32) : OKJ (LI (f_L_near M a1 a2 x) (fun M => f_X7_near M a1 a2 x)) := by
  rcases sec hJ a1 a2 with ⟨o, n, b, s, ho, P, hs, rfl, rfl⟩ | ⟨h1, h2⟩ | ⟨h1, h2, h3⟩
  · have hs9 : s < 512 := Nat.lt_of_lt_of_le hs (p2_le P.2.1.le)
    have P7 := P.cd ho 0
    have tn1 := t_near1 P7.2.2.1 hs9
    have tn0 := t_near0 P7.2.2.1 hs9
    by_cases w99 : x = 99
    · subst w99
      have key : ∃ v, f_X6_near M (iN o) (iN s) 99 = some (.inr v, M) ∧ f_X7_near M (iN o) (iN s) 99 = some (v, upM M 47 3 0) := by
        cases hc : cl b n s
        · refine ⟨oI (bs (fun t => ah s t && cl b n t) (fun c j => ah j c) (2 ^ n)), ?_, ?_⟩
          rotate_left
          · simp (disch := omega) only [f_X7_near, q99_108, q99_102, if_false, if_true, f_X7_near_L24, f_X7_near_L29, t_isOrder ho, bd_some, t_lets1, e10, t_isSet1 P7 ho hs, upM_up, f_X7_near_L63, f_X7_near_L89, t_isClosed P7.2.2.1 hs, hc, bI_f, tn0]
          · simp (disch := omega) only [f_X6_near, s_orderWithSet1 P ho hs, bd_some, cx, kd4 ho, chk_t, if_true, s_isClosedBelow P.2.1, hc, bI_f, s_firstBehind P.2.1]
        · refine ⟨iN s, ?_, ?_⟩
          · simp (disch := omega) only [f_X6_near, s_orderWithSet1 P ho hs, bd_some, cx, kd4 ho, chk_t, if_true, s_isClosedBelow P.2.1, hc, bI_t, e10, if_false]
          · simp (disch := omega) only [f_X7_near, q99_108, q99_102, if_false, if_true, f_X7_near_L24, f_X7_near_L29, t_isOrder ho, bd_some, t_lets1, e10, t_isSet1 P7 ho hs, upM_up, f_X7_near_L63, f_X7_near_L89, t_isClosed P7.2.2.1 hs, hc, bI_t]
      obtain ⟨v, e6, e7⟩ := key
      exact LI_ok (by simp only [f_L_near, e6, bd_some, lx]) e7 cd_at (hJ.cd 0)
    by_cases w102 : x = 102
    · subst w102
      have key : ∃ v, f_X6_near M (iN o) (iN s) 102 = some (.inr v, M) ∧ f_X7_near M (iN o) (iN s) 102 = some (v, upM M 47 3 0) := by
        cases hc : cl b n s
        · refine ⟨oI (bs (fun t => ah t s && cl b n t) ah (2 ^ n)), ?_, ?_⟩
          rotate_left
          · simp (disch := omega) only [f_X7_near, q102_108, if_false, if_true, f_X7_near_L24, f_X7_near_L29, t_isOrder ho, bd_some, t_lets1, e10, t_isSet1 P7 ho hs, upM_up, f_X7_near_L63, f_X7_near_L84, f_X7_near_L89, t_isClosed P7.2.2.1 hs, hc, bI_f, tn1]
          · simp (disch := omega) only [f_X6_near, s_orderWithSet1 P ho hs, bd_some, cx, kd4 ho, chk_t, q102_99, if_false, if_true, s_isClosedBelow P.2.1, hc, bI_f, s_lastAhead P.2.1]
        · refine ⟨iN s, ?_, ?_⟩
          · simp (disch := omega) only [f_X6_near, s_orderWithSet1 P ho hs, bd_some, cx, kd4 ho, chk_t, q102_99, if_false, if_true, s_isClosedBelow P.2.1, hc, bI_t, e10]
          · simp (disch := omega) only [f_X7_near, q102_108, if_false, if_true, f_X7_near_L24, f_X7_near_L29, t_isOrder ho, bd_some, t_lets1, e10, t_isSet1 P7 ho hs, upM_up, f_X7_near_L63, f_X7_near_L84, f_X7_near_L89, t_isClosed P7.2.2.1 hs, hc, bI_t]
      obtain ⟨v, e6, e7⟩ := key
      exact LI_ok (by simp only [f_L_near, e6, bd_some, lx]) e7 cd_at (hJ.cd 0)
    by_cases w104 : x = 104
    · subst w104
      have e6 : f_X6_near M (iN o) (iN s) 104 = some (.inr (oI (bs (fun t => ah s t && cl b n t) (fun c j => ah j c) (2 ^ n))), M) := by
        simp (disch := omega) only [f_X6_near, s_orderWithSet1 P ho hs, bd_some, cx, kd4 ho, chk_t, q104_99, q104_102, if_false, if_true, s_firstBehind P.2.1]
      have e7 : f_X7_near M (iN o) (iN s) 104 = some (oI (bs (fun t => ah s t && cl b n t) (fun c j => ah j c) (2 ^ n)), upM M 47 3 0) := by
        simp (disch := omega) only [f_X7_near, q104_108, q104_102, q104_99, if_false, if_true, f_X7_near_L24, f_X7_near_L29, t_isOrder ho, bd_some, t_lets1, e10, t_isSet1 P7 ho hs, upM_up, f_X7_near_L63, f_X7_near_L89, tn0]
      exact LI_ok (by simp only [f_L_near, e6, bd_some, lx]) e7 cd_at (hJ.cd 0)
    by_cases w108 : x = 108
    · subst w108
      have e6 : f_X6_near M (iN o) (iN s) 108 = some (.inr (oI (bs (fun t => ah t s && cl b n t) ah (2 ^ n))), M) := by
        simp (disch := omega) only [f_X6_near, s_orderWithSet1 P ho hs, bd_some, cx, kd4 ho, chk_t, q108_99, q108_102, q108_104, if_false, if_true, s_lastAhead P.2.1]
      have e7 : f_X7_near M (iN o) (iN s) 108 = some (oI (bs (fun t => ah t s && cl b n t) ah (2 ^ n)), upM M 47 3 0) := by
        simp (disch := omega) only [f_X7_near, q108_102, q108_99, if_false, if_true, f_X7_near_L24, f_X7_near_L29, t_isOrder ho, bd_some, t_lets1, e10, t_isSet1 P7 ho hs, upM_up, f_X7_near_L63, f_X7_near_L84, f_X7_near_L89, tn1]
      exact LI_ok (by simp only [f_L_near, e6, bd_some, lx]) e7 cd_at (hJ.cd 0)
    have z99 : (x = 99) = False := eq_false w99
    have z102 : (x = 102) = False := eq_false w102
    have z104 : (x = 104) = False := eq_false w104
    have z108 : (x = 108) = False := eq_false w108
    have e6 : f_X6_near M (iN o) (iN s) x = some (.inl eA, M) := by
      simp (disch := omega) only [f_X6_near, s_orderWithSet1 P ho hs, bd_some, cx, kd4 ho, chk_t, z99, z102, z104, z108, if_false]
    have e7 : f_X7_near M (iN o) (iN s) x = some (0, upM M 47 3 2) := by
      simp (disch := omega) only [f_X7_near, z99, z102, z104, z108, if_false, if_true, f_X7_near_L29, t_isOrder ho, bd_some, t_lets1, e10, t_isSet1 P7 ho hs, upM_up, f_X7_near_L62, f_X7_near_L63, t_lets0]
    exact LI_ex (by simp only [f_L_near, e6, bd_some, lx, eAI, if_false, if_true]) e7 cd_at h20 (hJ.cd 2)
  · have e6 : f_X6_near M a1 a2 x = some (.inl eI, M) := by simp only [f_X6_near, h1, bd_some, cx]
    have e7 : f_X7_near M a1 a2 x = some (0, upM M 47 3 1) := by
      have H : ∀ y, f_X7_near_L29 M a1 a2 x y = some (0, upM M 47 3 1) := fun y => by
        simp only [f_X7_near_L29, h2, bd_some, t_lets0, if_true]
      simp only [f_X7_near, f_X7_near_L24, H, ite_self]
    exact LI_ex (by simp only [f_L_near, e6, bd_some, lx, if_true]) e7 cd_at h10 (hJ.cd 1)
  · have e6 : f_X6_near M a1 a2 x = some (.inl eA, M) := by simp only [f_X6_near, h1, bd_some, cx]
    have e7 : f_X7_near M a1 a2 x = some (0, upM M 47 3 2) := by
      have H : ∀ y, f_X7_near_L29 M a1 a2 x y = some (0, upM M 47 3 2) := fun y => by
        simp only [f_X7_near_L29, h2, bd_some, t_lets1, e10, if_false, h3 0, if_true, f_X7_near_L62, f_X7_near_L63, t_lets0, upM_up]
      simp only [f_X7_near, f_X7_near_L24, H, ite_self]
    exact LI_ex (by simp only [f_L_near, e6, bd_some, lx, eAI, if_false, if_true]) e7 cd_at h20 (hJ.cd 2)
theorem c_36 (hJ : J M) : OKJ (f_law_36 M a1 a2 a3) := c_near hJ _
theorem c_42 (hJ : J M) : OKJ (f_law_42 M a1 a2 a3) := by
  show OKJ (LI (f_L_rowAt M a1 a2) (fun M => f_X7_rowAt M a1 a2))
  rcases ordc a1 with ⟨o, ho, rfl⟩ | ⟨h1, h2⟩
  · obtain ⟨n, b, P⟩ := hJ o ho
    have hS := P.1
    have h9 := P.2.1.le
    have hRW := RW_le (b := b) h9
    obtain ⟨⟨r6, M6⟩, x6, hr6, hf6, hF⟩ := s_fill (q := 20) hS P.2.1 (by omega)
    dsimp only at hr6 hf6 hF
    subst hr6
    have P6 := P.fr ho hf6 (scrL (by decide))
    have J6 := hJ.fr hf6 (scrL (by decide))
    by_cases hx : a2 < 0
    · have e6 : f_X6_rowAt M (iN o) a2 = some (.inl eI, M6) := by
        simp only [f_X6_rowAt, s_orderAt ho, bd_some, cx, kd4 ho, chk_t, f_X6_layOutRow, x6, if_pos hx]
      have e7 : f_X7_rowAt M6 (iN o) a2 = some (0, upM M6 47 3 1) := by
        simp only [f_X7_rowAt, t_isOrder ho, bd_some, e10, if_false, if_pos hx, f_X7_rowAt_L25, f_X7_rowAt_L26, t_lets0, if_true]
      exact LI_ex (by simp only [f_L_rowAt, e6, bd_some, lx, if_true]) e7 cd_at h10 (J6.cd 1)
    · obtain ⟨p, hp, rfl⟩ := nonneg hx
      by_cases hlt : p < RW b n
      · obtain ⟨M8, x8, hf8, hl8⟩ := s_layOut (q := 20) hS P6.2.1 (by omega) hF hlt
        have P8 := P6.fr ho hf8 (scrL (by decide))
        have J8 := J6.fr hf8 (scrL (by decide))
        have e6 : f_X6_rowAt M (iN o) (iN p) = some (.inr (iN (nu b n p n)), M8) := by
          simp (disch := omega) only [f_X6_rowAt, s_orderAt ho, bd_some, cx, kd4 ho, chk_t, f_X6_layOutRow, x6, iN_n0, if_false, iN_lt, if_pos hlt, x8, s_lineAsNumber P8.2.1 hl8]
        obtain ⟨⟨r7, M7⟩, x7, hr7, hf7, hMF⟩ := t_rowsOf P8.2.2.1
        dsimp only at hr7 hf7 hMF
        subst hr7
        have P7 := (P8.fr ho hf7 (scrL (by decide))).cd ho 0
        have J7 := (J8.fr hf7 (scrL (by decide))).cd 0
        obtain ⟨⟨r9, M9⟩, x9, hr9, hf9, -⟩ := t_lineUp hS P7.2.2.1 hlt
        dsimp only at hr9 hf9
        subst hr9
        have e7 : f_X7_rowAt M8 (iN o) (iN p) = some (iN (nu b n p n), M9) := by
          simp (disch := omega) only [f_X7_rowAt, t_isOrder ho, bd_some, e10, if_false, iN_n0, x7, iN_le, if_neg (show ¬ RW b n ≤ p by omega), f_X7_rowAt_L26, t_lets1, x9]
        exact LI_ok (by simp only [f_L_rowAt, e6, bd_some, lx]) e7 (cd_fr hf9 (by decide)) (J7.fr hf9 (scrL (by decide)))
      · have e6 : f_X6_rowAt M (iN o) (iN p) = some (.inl eI, M6) := by
          simp (disch := omega) only [f_X6_rowAt, s_orderAt ho, bd_some, cx, kd4 ho, chk_t, f_X6_layOutRow, x6, iN_n0, if_false, iN_lt, if_neg hlt]
        obtain ⟨⟨r7, M7⟩, x7, hr7, hf7, -⟩ := t_rowsOf P6.2.2.1
        dsimp only at hr7 hf7
        subst hr7
        have J7 := J6.fr hf7 (scrL (by decide))
        have e7 : f_X7_rowAt M6 (iN o) (iN p) = some (0, upM M7 47 3 1) := by
          simp (disch := omega) only [f_X7_rowAt, t_isOrder ho, bd_some, e10, if_false, iN_n0, x7, iN_le, if_pos (show RW b n ≤ p by omega), f_X7_rowAt_L25, f_X7_rowAt_L26, t_lets0, if_true]
        exact LI_ex (by simp only [f_L_rowAt, e6, bd_some, lx, if_true]) e7 cd_at h10 (J7.cd 1)
  · have e6 : f_X6_rowAt M a1 a2 = some (.inl eI, M) := by simp only [f_X6_rowAt, h1, bd_some, cx]
    have e7 : f_X7_rowAt M a1 a2 = some (0, upM M 47 3 1) := by simp only [f_X7_rowAt, h2, bd_some, if_true, f_X7_rowAt_L25, f_X7_rowAt_L26, t_lets0]
    exact LI_ex (by simp only [f_L_rowAt, e6, bd_some, lx, if_true]) e7 cd_at h10 (hJ.cd 1)
theorem s_findPlace_neg {q q1 : Nat} {x : Int32} (hx : x < 0) : f_X4_findPlace M q q1 x = some (-1, M) := by
  unfold f_X4_findPlace; rw [if_pos hx]
theorem c_43 (hJ : J M) : OKJ (f_law_43 M a1 a2 a3) := by
  show OKJ (LI (f_L_rowPlace M a1 a2) (fun M => f_X7_rowPlace M a1 a2))
  rcases ordc a1 with ⟨o, ho, rfl⟩ | ⟨h1, h2⟩
  · obtain ⟨n, b, P⟩ := hJ o ho
    have hS := P.1
    by_cases hx : a2 < 0
    · have e6 : f_X6_rowPlace M (iN o) a2 = some (.inr (-1), M) := by
        simp only [f_X6_rowPlace, s_orderAt ho, bd_some, cx, kd4 ho, chk_t, s_findPlace_neg hx]
      have P7 := P.cd ho 0
      obtain ⟨⟨r7, M7⟩, x7, hr7, hf7⟩ := t_placeOfRow_neg P7.2.2.1 hx
      dsimp only at hr7 hf7
      subst hr7
      have e7 : f_X7_rowPlace M (iN o) a2 = some (-1, M7) := by
        simp only [f_X7_rowPlace, t_isOrder ho, bd_some, t_lets1, e10, if_false, x7]
      exact LI_ok (by simp only [f_L_rowPlace, e6, bd_some, lx]) e7 (cd_fr hf7 (by decide)) ((hJ.cd 0).fr hf7 (scrL (by decide)))
    · obtain ⟨r, hr, rfl⟩ := nonneg hx
      obtain ⟨⟨r6, M6⟩, x6, hr6, hf6⟩ := s_findPlace (q := 20) hS P.2.1 (by omega) hr
      dsimp only at hr6 hf6
      subst hr6
      have P6 := P.fr ho hf6 (scrL (by decide))
      have J6 := hJ.fr hf6 (scrL (by decide))
      have P7 := P6.cd ho 0
      obtain ⟨⟨r7, M7⟩, x7, hr7, hf7⟩ := t_placeOfRow hS P7.2.2.1 hr
      dsimp only at hr7 hf7
      subst hr7
      have e6 : f_X6_rowPlace M (iN o) (iN r) = some (.inr (oI (fp b n r)), M6) := by
        simp only [f_X6_rowPlace, s_orderAt ho, bd_some, cx, kd4 ho, chk_t, x6]
      have e7 : f_X7_rowPlace M6 (iN o) (iN r) = some (oI (fp b n r), M7) := by
        simp only [f_X7_rowPlace, t_isOrder ho, bd_some, t_lets1, e10, if_false, x7]
      exact LI_ok (by simp only [f_L_rowPlace, e6, bd_some, lx]) e7 (cd_fr hf7 (by decide)) ((J6.cd 0).fr hf7 (scrL (by decide)))
  · have e6 : f_X6_rowPlace M a1 a2 = some (.inl eI, M) := by simp only [f_X6_rowPlace, h1, bd_some, cx]
    have e7 : f_X7_rowPlace M a1 a2 = some (0, upM M 47 3 1) := by simp only [f_X7_rowPlace, h2, bd_some, if_true, t_lets0]
    exact LI_ex (by simp only [f_L_rowPlace, e6, bd_some, lx, if_true]) e7 cd_at h10 (hJ.cd 1)
end CC
