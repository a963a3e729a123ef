/-! ===== the law's cases: next row, rows counted ===== -/
theorem fw_le {b : Nat → Nat} {n r k : Nat} (hS : St b n) (hk : k ≤ n) {z : Nat × Nat} (h : fw b n r k = some z) : z.2 ≤ k * 3265920 := by
  have hn := hS.1
  induction k generalizing z with
  | zero =>
    cases h
    exact Nat.zero_le _
  | succ k ih =>
    rw [fw] at h
    cases hz : fw b n r k with
    | none => rw [hz] at h; cases h
    | some y =>
      rw [hz] at h
      dsimp only at h
      have h1 := ih (by omega) hz
      have h2 := (fw_ok hS (by omega) hz).1
      split at h
      · next hc =>
        cases h
        rw [Bool.and_eq_true, Bool.and_eq_true] at hc
        have h5 := of_decide_eq_true hc.2.1
        have h6 := WL2_le (b := b) hn h2 (Nat.le_of_lt h5)
        dsimp only
        omega
      · cases h
theorem fp_lt {b : Nat → Nat} {n r p : Nat} (hS : St b n) (h : fp b n r = some p) : p < 2 ^ 30 := by
  unfold fp at h
  split at h
  · cases hz : fw b n r n with
    | none => rw [hz] at h; cases h
    | some z =>
      rw [hz] at h
      obtain rfl : z.2 = p := Option.some.inj h
      have h1 := fw_le hS (Nat.le_refl n) hz
      have h2 := hS.1
      omega
  · cases h
section CC
variable {M : Mem} {a1 a2 a3 : Int32}
theorem c_44 (hJ : J M) : OKJ (f_law_44 M a1 a2 a3) := by
  show OKJ (LI (f_L_nextRow M a1 a2) (fun M => f_X7_nextRow M a1 a2))
  rcases ordc a1 with ⟨o, ho, rfl⟩ | ⟨h1, h2⟩
  · obtain ⟨n, b, P⟩ := hJ o ho
    have hS := P.1
    have hRW := RW_le (b := b) hS.1
    by_cases hx : a2 < 0
    · have e6 : f_X6_nextRow M (iN o) a2 = some (.inl eA, M) := by
        simp only [f_X6_nextRow, s_orderAt ho, bd_some, cx, kd4 ho, chk_t, s_findPlace_neg hx, if_true]
      obtain ⟨⟨r7, M7⟩, x7, hr7, hf7⟩ := t_placeOfRow_neg (P.cd ho 0).2.2.1 hx
      dsimp only at hr7 hf7
      subst hr7
      have e7 : f_X7_nextRow M (iN o) a2 = some (0, upM M7 47 3 2) := by
        simp only [f_X7_nextRow, t_isOrder ho, bd_some, t_lets1, e10, if_false, x7, if_true, f_X7_nextRow_L28, t_lets0]
      exact LI_ex (by simp only [f_L_nextRow, e6, bd_some, lx, eAI, if_false, if_true]) e7 cd_at h20 (((hJ.cd 0).fr hf7 (scrL (by decide))).cd 2)
    · obtain ⟨r, hr, rfl⟩ := nonneg hx
      obtain ⟨⟨r6, M6⟩, x6, hr6, hf6⟩ := s_findPlace (q := 20) hS P.2.1 (by omega) hr
      dsimp only at hr6 hf6
      subst hr6
      have P6 := P.fr ho hf6 (scrL (by decide))
      have J6 := hJ.fr hf6 (scrL (by decide))
      cases hfp : fp b n r with
      | none =>
        rw [hfp] at x6
        have e6 : f_X6_nextRow M (iN o) (iN r) = some (.inl eA, M6) := by
          simp only [f_X6_nextRow, s_orderAt ho, bd_some, cx, kd4 ho, chk_t, x6, oI, if_true]
        obtain ⟨⟨r7, M7⟩, x7, hr7, hf7⟩ := t_placeOfRow hS (P6.cd ho 0).2.2.1 hr
        dsimp only at hr7 hf7
        rw [hfp] at hr7
        subst hr7
        have e7 : f_X7_nextRow M6 (iN o) (iN r) = some (0, upM M7 47 3 2) := by
          simp only [f_X7_nextRow, t_isOrder ho, bd_some, t_lets1, e10, if_false, x7, oI, if_true, f_X7_nextRow_L28, t_lets0]
        exact LI_ex (by simp only [f_L_nextRow, e6, bd_some, lx, eAI, if_false, if_true]) e7 cd_at h20 (((J6.cd 0).fr hf7 (scrL (by decide))).cd 2)
      | some p =>
        rw [hfp] at x6
        have hp30 := fp_lt hS hfp
        have hne : (iN p = -1) = False := oI_n (by omega)
        obtain ⟨⟨r8, M8⟩, x8, hr8, hf8, -⟩ := s_rcount' (q := 20) hS P6.2.1 (by omega)
        dsimp only at hr8 hf8
        subst hr8
        have P8 := P6.fr ho hf8 (scrL (by decide))
        have J8 := J6.fr hf8 (scrL (by decide))
        by_cases hlt : p + 1 < RW b n
        · obtain ⟨⟨r9, M9⟩, x9, hr9, hf9, hF⟩ := s_fill (q := 20) hS P8.2.1 (by omega)
          dsimp only at hr9 hf9 hF
          subst hr9
          have P9 := P8.fr ho hf9 (scrL (by decide))
          have J9 := J8.fr hf9 (scrL (by decide))
          obtain ⟨M10, x10, hf10, hl10⟩ := s_layOut (q := 20) hS P9.2.1 (by omega) hF hlt
          have P10 := P9.fr ho hf10 (scrL (by decide))
          have J10 := J9.fr hf10 (scrL (by decide))
          have e6 : f_X6_nextRow M (iN o) (iN r) = some (.inr (iN (nu b n (p + 1) n)), M10) := by
            simp (disch := omega) only [f_X6_nextRow, s_orderAt ho, bd_some, cx, kd4 ho, chk_t, x6, oI, hne, if_false, x8, iN_s, iN_lt, if_pos hlt, f_X6_layOutRow, x9, iN_n0, x10, s_lineAsNumber P10.2.1 hl10]
          obtain ⟨⟨r11, M11⟩, x11, hr11, hf11⟩ := t_placeOfRow hS (P10.cd ho 0).2.2.1 hr
          dsimp only at hr11 hf11
          rw [hfp] at hr11
          subst hr11
          have P11 := ((P10.cd ho 0).fr ho hf11 (scrL (by decide))).cd ho 0
          have J11 := ((J10.cd 0).fr hf11 (scrL (by decide))).cd 0
          obtain ⟨⟨r12, M12⟩, x12, hr12, hf12⟩ := t_placeOfRow hS P11.2.2.1 hr
          dsimp only at hr12 hf12
          rw [hfp] at hr12
          subst hr12
          have P12 := P11.fr ho hf12 (scrL (by decide))
          have J12 := J11.fr hf12 (scrL (by decide))
          obtain ⟨⟨r13, M13⟩, x13, hr13, hf13, -⟩ := t_rowsOf P12.2.2.1
          dsimp only at hr13 hf13
          subst hr13
          have P13 := P12.fr ho hf13 (scrL (by decide))
          have J13 := J12.fr hf13 (scrL (by decide))
          obtain ⟨⟨r14, M14⟩, x14, hr14, hf14, -⟩ := t_lineUp hS P13.2.2.1 hlt
          dsimp only at hr14 hf14
          subst hr14
          have e7 : f_X7_nextRow M10 (iN o) (iN r) = some (iN (nu b n (p + 1) n), M14) := by
            simp (disch := omega) only [f_X7_nextRow, t_isOrder ho, bd_some, t_lets1, e10, if_false, x11, oI, hne, f_X7_nextRow_L28, x12, iN_s, x13, iN_le, if_neg (show ¬ RW b n ≤ p + 1 by omega), x14]
          exact LI_ok (by simp only [f_L_nextRow, e6, bd_some, lx]) e7 (cd_fr ((hf12.trans (hf13.mono (by decide))).trans hf14) (by decide)) (J13.fr hf14 (scrL (by decide)))
        · have e6 : f_X6_nextRow M (iN o) (iN r) = some (.inr (-1), M8) := by
            simp (disch := omega) only [f_X6_nextRow, s_orderAt ho, bd_some, cx, kd4 ho, chk_t, x6, oI, hne, if_false, x8, iN_s, iN_lt, if_neg hlt]
          obtain ⟨⟨r11, M11⟩, x11, hr11, hf11⟩ := t_placeOfRow hS (P8.cd ho 0).2.2.1 hr
          dsimp only at hr11 hf11
          rw [hfp] at hr11
          subst hr11
          have P11 := ((P8.cd ho 0).fr ho hf11 (scrL (by decide))).cd ho 0
          have J11 := ((J8.cd 0).fr hf11 (scrL (by decide))).cd 0
          obtain ⟨⟨r12, M12⟩, x12, hr12, hf12⟩ := t_placeOfRow hS P11.2.2.1 hr
          dsimp only at hr12 hf12
          rw [hfp] at hr12
          subst hr12
          have P12 := P11.fr ho hf12 (scrL (by decide))
          have J12 := J11.fr hf12 (scrL (by decide))
          obtain ⟨⟨r13, M13⟩, x13, hr13, hf13, -⟩ := t_rowsOf P12.2.2.1
          dsimp only at hr13 hf13
          subst hr13
          have e7 : f_X7_nextRow M8 (iN o) (iN r) = some (-1, M13) := by
            simp (disch := omega) only [f_X7_nextRow, t_isOrder ho, bd_some, t_lets1, e10, if_false, x11, oI, hne, f_X7_nextRow_L28, x12, iN_s, x13, iN_le, if_pos (show RW b n ≤ p + 1 by omega)]
          exact LI_ok (by simp only [f_L_nextRow, e6, bd_some, lx]) e7 (cd_fr (hf12.trans (hf13.mono (by decide))) (by decide)) (J12.fr hf13 (scrL (by decide)))
  · have e6 : f_X6_nextRow M a1 a2 = some (.inl eI, M) := by simp only [f_X6_nextRow, h1, bd_some, cx]
    have e7 : f_X7_nextRow M a1 a2 = some (0, upM M 47 3 1) := by simp only [f_X7_nextRow, h2, bd_some, if_true, t_lets0]
    exact LI_ex (by simp only [f_L_nextRow, e6, bd_some, lx, if_true]) e7 cd_at h10 (hJ.cd 1)
end CC
section RW
variable {M : Mem} {o n : Nat} {b : Nat → Nat}
theorem WI_self {t : Nat} : WI b n t t = 0 := S_0.mpr (fun s _ => by
  split
  · next h => exact wt_0 h
  · rfl)
theorem WI_le (hS : St b n) {u t : Nat} (hu : u < n) (ht : t < n) : WI b n u t ≤ RW b n := by
  by_cases e : u = t
  · subst e; rw [WI_self]; exact Nat.zero_le _
  · have := WI_both (b := b) hS.1 hu ht e
    omega
theorem t_with' (hS : St b n) (h : MR M o n b) {u t : Nat} (hu : u < n) (ht : t < n) : ∃ r, f_X7_with M (iN o) (iN u) (iN t) = some r ∧ (r.1 = iN (WI b n u t) ∧ Fr M r.2 [106, 109]) := by
  by_cases e : u = t
  · subst e
    refine ⟨(0, M), ?_, ?_, Fr.refl _ _⟩
    · simp only [f_X7_with, if_true]
    · rw [WI_self]; rfl
  · obtain ⟨r, x, hr, hf⟩ := t_with h hu ht e
    exact ⟨r, x, by rw [hr, with_eq hS.1 hu ht]; rfl, hf⟩
def AT (b : Nat → Nat) (n t p : Nat) : Nat := S (2 ^ n) (fun s => if pc s = p then wt b n s t else 0)
theorem wt_all {t s : Nat} (hn : n ≤ 9) (ht : t < n) (hs : s < 2 ^ n) (h : ¬ pc s < n) : wt b n s t = 0 := by
  have h1 := pc_le_n hs hn
  have h2 := (pc_n hs hn).mp (by omega)
  exact wt_0 (by rw [h2, all_bit]; exact decide_eq_true ht)
theorem AT_le (hn : n ≤ 9) {t p : Nat} (ht : t < n) (hp : p < n) : AT b n t p ≤ 362880 := by
  have h1 := at_eq (b := b) hn ht hp
  have h2 := BW_le (cf_W0 (b := b) (f2 t p ())) hn (Nat.two_pow_pos n) (d := n) (show pc 0 + n = n by rw [show pc 0 = 0 from rfl, Nat.zero_add])
  have h3 := fa_9 hn
  unfold AT
  omega
theorem t_at' (h : MR M o n b) {t p : Nat} (ht : t < n) (hp : p < n) : ∃ r, f_X7_at M (iN o) (iN t) (iN p) = some r ∧ (r.1 = iN (AT b n t p) ∧ Fr M r.2 [106, 109]) := by
  obtain ⟨r, x, hr, hf⟩ := t_at h ht hp
  exact ⟨r, x, by rw [hr, at_eq h.le ht hp]; rfl, hf⟩
theorem t_atx (h : MR M o n b) {t : Nat} (ht : t < n) (x : Int32) : ∃ r, f_X7_at M (iN o) (iN t) x = some r ∧ (r.1 = iN (S (2 ^ n) fun s => if iN (pc s) = x then wt b n s t else 0) ∧ Fr M r.2 [106, 109]) := by
  have h9 := h.le
  have ho := h.o
  by_cases e : ∃ p, p < n ∧ x = iN p
  · obtain ⟨p, hp, rfl⟩ := e
    obtain ⟨r, x, hr, hf⟩ := t_at' h ht hp
    refine ⟨r, x, ?_, hf⟩
    rw [hr]
    unfold AT
    congr 1
    refine S_congr (fun s hs => ?_)
    have := pc_le s
    simp (disch := omega) only [iN_eq]
  · refine ⟨(0, M), ?_, ?_, Fr.refl _ _⟩
    · have hin := t_inN h9 x
      rw [decide_eq_false e] at hin
      simp (disch := omega) only [f_X7_at, chk_inb, clamp_iN, h.n, hin, bd_some, bI_f, if_true]
    · have hz : (S (2 ^ n) fun s => if iN (pc s) = x then wt b n s t else 0) = 0 := S_0.mpr (fun s hs => by
        split
        · next hq =>
          by_cases hl : pc s < n
          · exact absurd ⟨pc s, hl, hq.symm⟩ e
          · exact wt_all h9 ht hs hl
        · rfl)
      dsimp only
      rw [hz]; rfl
theorem S_cst {n c : Nat} {f : Nat → Nat} (h : ∀ k < n, f k ≤ c) : S n f ≤ n * c := by
  induction n with
  | zero => exact Nat.zero_le _
  | succ n ih =>
    have h1 := ih (fun k hk => h k (by omega))
    have h2 := h n (by omega)
    rw [S, Nat.succ_mul]; omega
theorem SP_eq (hn : n ≤ 9) {t : Nat} (ht : t < n) : (S (2 ^ n) fun s => pc s * wt b n s t) = S n fun k => k * AT b n t k := by
  have e1 : (S n fun k => k * AT b n t k) = S n fun k => S (2 ^ n) fun s => k * (if pc s = k then wt b n s t else 0) := S_congr (fun k _ => by
    unfold AT; rw [S_mul])
  rw [e1, S_comm]
  refine S_congr (fun s hs => ?_)
  by_cases h : pc s < n
  · rw [← S_one h (fun k => k * wt b n s t)]
    refine S_congr (fun k _ => ?_)
    by_cases e : k = pc s
    · rw [if_pos e, if_pos e.symm]
    · rw [if_neg e, if_neg (fun x => e x.symm), Nat.mul_zero]
  · rw [wt_all hn ht hs h, Nat.mul_zero]
    exact (S_0.mpr (fun k _ => by simp)).symm
theorem SP_le (hn : n ≤ 9) {t : Nat} (ht : t < n) : (S n fun k => k * AT b n t k) ≤ 9 * (9 * 362880) := by
  have h1 : (S n fun k => k * AT b n t k) ≤ n * (9 * 362880) := S_cst (fun k hk => Nat.mul_le_mul (by omega) (AT_le hn ht hk))
  exact Nat.le_trans h1 (Nat.mul_le_mul_right _ hn)
theorem S_le_m {f : Nat → Nat} {j m : Nat} (h : j ≤ m) : S j f ≤ S m f := by
  obtain ⟨d, rfl⟩ := Nat.exists_eq_add_of_le h
  rw [S_split]; exact Nat.le_add_right _ _
def MP (b : Nat → Nat) (n t : Nat) : UInt64 := FP.ddiv (FP.i2d (iN (S n fun k => k * AT b n t k))) (FP.i2d (iN (RW b n)))
theorem MP_nn (hS : St b n) {t : Nat} (ht : t < n) : nn64 (MP b n t) = true := by
  have h1 := SP_le (b := b) hS.1 ht
  have h2 := RW_le (b := b) hS.1
  have h3 := RW_pos hS
  exact quo64 (by omega) (by omega) (by omega)
theorem nmem2 {a x y : Nat} (h1 : a ≠ x) (h2 : a ≠ y) : a ∉ [x, y] := by
  simp only [List.mem_cons, List.not_mem_nil, or_false]; omega
theorem MR.fr2 {M' : Mem} (h : MR M o n b) (hf : Fr M M' [106, 109]) : MR M' o n b := h.same (fun a ha => hf a (nmem2 (by omega) (by omega)))
theorem t_meanPlace (hS : St b n) (h : MR M o n b) {t : Nat} (ht : t < n) : ∃ r, f_X7_meanPlace_L21 (iN o) (iN t) FU (0, 0, M) = some r ∧ (r.1 = MP b n t ∧ Fr M r.2 [106, 109]) := by
  have h9 := h.le
  have ho := h.o
  refine lp_to (fun j a => j ≤ n ∧ a.1 = iN (S j fun k => k * AT b n t k) ∧ a.2.1 = iN j ∧ Fr M a.2.2 [106, 109]) n (FU_lt h9) ⟨Nat.zero_le _, rfl, rfl, Fr.refl _ _⟩ ?_
  rintro j ⟨a1, a2, Mj⟩ ⟨hj, h1, h2, hf⟩
  dsimp only at h1 h2 hf
  subst h1 h2
  have hM := h.fr2 hf
  rcases Nat.lt_or_ge j n with hl | hl
  · left
    obtain ⟨⟨r7, M7⟩, x7, hr7, hf7⟩ := t_at' hM ht hl
    dsimp only at hr7 hf7
    subst hr7
    refine ⟨hl, (iN (S (j + 1) fun k => k * AT b n t k), iN (j + 1), M7), ⟨hl, rfl, rfl, hf.trans hf7⟩, fun k => ?_⟩
    simp (disch := omega) only [g_X7_meanPlace_L21, chk_inb, clamp_iN, hM.n, iN_le, if_neg (show ¬ n ≤ j by omega), x7, bd_some, iN_mul, iN_add, iN_s, S]
  · right
    obtain ⟨⟨r7, M7⟩, x7, hr7, hf7, -⟩ := t_rowsOf hM
    dsimp only at hr7 hf7
    subst hr7
    have e : j = n := by omega
    subst e
    refine ⟨(MP b j t, M7), ⟨rfl, hf.trans hf7⟩, fun k => ?_⟩
    have hnn : nn64 (FP.ddiv (FP.i2d (iN (S j fun k => k * AT b j t k))) (FP.i2d (iN (RW b j)))) = true := MP_nn hS ht
    simp (disch := omega) only [g_X7_meanPlace_L21, chk_inb, clamp_iN, hM.n, iN_le, if_pos (Nat.le_refl j), x7, bd_some, hnn, chk_t]
    rfl
theorem s_atLeastOne (hS : St b n) : f_X6_atLeastOne (iN (RW b n)) = some (iN (RW b n)) := by
  have h1 := RW_le (b := b) hS.1
  have h2 := RW_pos hS
  unfold f_X6_atLeastOne
  rw [iN_1, jmax_iN (by decide) (by omega), Nat.max_eq_right (by omega)]
end RW
section CC
variable {M : Mem} {a1 a2 a3 : Int32}
theorem c_45 (hJ : J M) : OKJ (f_law_45 M a1 a2 a3) := by
  show OKJ (LI (f_L_rowsWith M a1 a2 a3) (fun M => f_X7_rowsWith M a1 a2 a3))
  rcases boc hJ a1 a2 a3 with ⟨o, n, b, u, t, ho, P, hu, ht, rfl, rfl, rfl⟩ | ⟨h1, h2⟩
  · have hS := P.1
    obtain ⟨⟨r6, M6⟩, x6, hr6, hf6, hF⟩ := s_fill (q := 20) hS P.2.1 (by omega)
    dsimp only at hr6 hf6 hF
    subst hr6
    have P6 := P.fr ho hf6 (scrL (by decide))
    have J6 := hJ.fr hf6 (scrL (by decide))
    have hca : f_X4_countAhead M6 20 (2 + 3 * o) (iN u) (iN t) = some (iN (WI b n u t)) := s_countAhead' hS P6.2.1 hF hu ht
    have e6 : f_X6_rowsWith M (iN o) (iN u) (iN t) = some (.inr (iN (WI b n u t)), M6) := by
      simp only [f_X6_rowsWith, s_orderWithBoth1 P ho hu ht, bd_some, cx, kd4 ho, chk_t, x6, hca]
    obtain ⟨⟨r7, M7⟩, x7, hr7, hf7⟩ := t_with' hS (P6.cd ho 0).2.2.1 hu ht
    dsimp only at hr7 hf7
    subst hr7
    have e7 : f_X7_rowsWith M6 (iN o) (iN u) (iN t) = some (iN (WI b n u t), M7) := by
      simp only [f_X7_rowsWith, t_isThing1 P6 ho hu, t_isThing1 P6 ho ht, bd_some, e10, if_false, f_X7_rowsWith_L24, t_lets1, x7]
    exact LI_ok (by simp only [f_L_rowsWith, e6, bd_some, lx]) e7 (cd_fr hf7 (by decide)) ((J6.cd 0).fr hf7 (scrL (by decide)))
  · have e6 : f_X6_rowsWith M a1 a2 a3 = some (.inl eI, M) := by simp only [f_X6_rowsWith, h1, bd_some, cx]
    have e7 : f_X7_rowsWith M a1 a2 a3 = some (0, upM M 47 3 1) := by
      rcases h2 with h2 | ⟨h2, h3⟩
      · simp only [f_X7_rowsWith, h2, bd_some, if_true, f_X7_rowsWith_L23, f_X7_rowsWith_L24, t_lets0]
      · simp only [f_X7_rowsWith, h2, h3, bd_some, e10, if_false, if_true, f_X7_rowsWith_L23, f_X7_rowsWith_L24, t_lets0]
    exact LI_ex (by simp only [f_L_rowsWith, e6, bd_some, lx, if_true]) e7 cd_at h10 (hJ.cd 1)
theorem c_46 (hJ : J M) : OKJ (f_law_46 M a1 a2 a3) := by
  show OKJ (LI (f_L_rowsAt M a1 a2 a3) (fun M => f_X7_rowsAt M a1 a2 a3))
  rcases thc hJ a1 a2 with ⟨o, n, b, t, ho, P, ht, rfl, rfl⟩ | ⟨h1, h2⟩
  · have hS := P.1
    obtain ⟨⟨r6, M6⟩, x6, hr6, hf6, hF⟩ := s_fill (q := 20) hS P.2.1 (by omega)
    dsimp only at hr6 hf6 hF
    subst hr6
    have P6 := P.fr ho hf6 (scrL (by decide))
    have J6 := hJ.fr hf6 (scrL (by decide))
    have hca := s_countAtPlace hS P6.2.1 hF ht a3
    obtain ⟨⟨r7, M7⟩, x7, hr7, hf7⟩ := t_atx (P6.cd ho 0).2.2.1 ht a3
    dsimp only at hr7 hf7
    have e6 : f_X6_rowsAt M (iN o) (iN t) a3 = some (.inr r7, M6) := by
      rw [hr7]
      simp only [f_X6_rowsAt, s_orderWith1 P ho ht, bd_some, cx, kd4 ho, chk_t, x6, hca]
    have e7 : f_X7_rowsAt M6 (iN o) (iN t) a3 = some (r7, M7) := by
      simp only [f_X7_rowsAt, t_isThing1 P6 ho ht, bd_some, e10, if_false, t_lets1, x7]
    exact LI_ok (by simp only [f_L_rowsAt, e6, bd_some, lx]) e7 (cd_fr hf7 (by decide)) ((J6.cd 0).fr hf7 (scrL (by decide)))
  · have e6 : f_X6_rowsAt M a1 a2 a3 = some (.inl eI, M) := by simp only [f_X6_rowsAt, h1, bd_some, cx]
    have e7 : f_X7_rowsAt M a1 a2 a3 = some (0, upM M 47 3 1) := by simp only [f_X7_rowsAt, h2, bd_some, t_lets0, if_true]
    exact LI_ex (by simp only [f_L_rowsAt, e6, bd_some, lx, if_true]) e7 cd_at h10 (hJ.cd 1)
theorem c_47 (hJ : J M) : OKJ (f_law_47 M a1 a2 a3) := by
  rcases thc hJ a1 a2 with ⟨o, n, b, t, ho, P, ht, rfl, rfl⟩ | ⟨h1, h2⟩
  · have hS := P.1
    obtain ⟨⟨r6, M6⟩, x6, hr6, hf6, hF⟩ := s_fill (q := 20) hS P.2.1 (by omega)
    dsimp only at hr6 hf6 hF
    subst hr6
    have P6 := P.fr ho hf6 (scrL (by decide))
    have J6 := hJ.fr hf6 (scrL (by decide))
    have hsp := s_sumOfPlaces hS P6.2.1 hF ht
    rw [SP_eq hS.1 ht] at hsp
    have hnn : nn64 (FP.ddiv (FP.i2d (iN (S n fun k => k * AT b n t k))) (FP.i2d (iN (RW b n)))) = true := MP_nn hS ht
    have hnn' : nn64 (MP b n t) = true := hnn
    have e6 : f_X6_meanPlace M (iN o) (iN t) = some (.inr (MP b n t), M6) := by
      simp only [f_X6_meanPlace, s_orderWith1 P ho ht, bd_some, cx, kd4 ho, chk_t, x6, s_atLeastOne hS, hsp, hnn]
      rfl
    obtain ⟨⟨r7, M7⟩, x7, hr7, hf7⟩ := t_meanPlace hS (P6.cd ho 0).2.2.1 ht
    dsimp only at hr7 hf7
    subst hr7
    have e7 : f_X7_meanPlace M6 (iN o) (iN t) = some (MP b n t, M7) := by
      simp only [f_X7_meanPlace, t_isThing1 P6 ho ht, bd_some, e10, if_false, t_lets1, x7]
    have hc : M7 47 3 = 0 := cd_fr hf7 (by decide)
    refine ⟨M7, ?_, (J6.cd 0).fr hf7 (scrL (by decide))⟩
    simp only [f_law_47, f_L_meanPlace, e6, bd_some, lx, e7, f_X7_thrown, hc, if_true, dcmp_self hnn']
  · have e6 : f_X6_meanPlace M a1 a2 = some (.inl eI, M) := by simp only [f_X6_meanPlace, h1, bd_some, cx]
    have e7 : f_X7_meanPlace M a1 a2 = some (0, upM M 47 3 1) := by simp only [f_X7_meanPlace, h2, bd_some, t_lets0, if_true]
    have hc : upM M 47 3 1 47 3 = 1 := cd_at
    refine ⟨_, ?_, hJ.cd 1⟩
    simp only [f_law_47, f_L_meanPlace, e6, bd_some, lx, e7, f_X7_thrown, hc, if_true, e10, if_false]
theorem c_48 (hJ : J M) : OKJ (f_law_48 M a1 a2 a3) := by
  rcases boc hJ a1 a2 a3 with ⟨o, n, b, u, t, ho, P, hu, ht, rfl, rfl, rfl⟩ | ⟨h1, h2⟩
  · have hS := P.1
    have hRW := RW_le (b := b) hS.1
    have hRp := RW_pos hS
    have hWI := WI_le hS hu ht
    obtain ⟨⟨r6, M6⟩, x6, hr6, hf6, hF⟩ := s_fill (q := 20) hS P.2.1 (by omega)
    dsimp only at hr6 hf6 hF
    subst hr6
    have P6 := P.fr ho hf6 (scrL (by decide))
    have J6 := hJ.fr hf6 (scrL (by decide))
    have hca : f_X4_countAhead M6 20 (2 + 3 * o) (iN u) (iN t) = some (iN (WI b n u t)) := s_countAhead' hS P6.2.1 hF hu ht
    have hnn : nn32 (FP.fdiv (FP.i2f (iN (WI b n u t))) (FP.i2f (iN (RW b n)))) = true := quo32 (by omega) (by omega) (by omega)
    have hnn' := f2d_nn hnn
    have e6 : f_X6_share M (iN o) (iN u) (iN t) = some (.inr (FP.fdiv (FP.i2f (iN (WI b n u t))) (FP.i2f (iN (RW b n)))), M6) := by
      simp only [f_X6_share, s_orderWithBoth1 P ho hu ht, bd_some, cx, kd4 ho, chk_t, x6, s_atLeastOne hS, hca, hnn]
    obtain ⟨⟨r7, M7⟩, x7, hr7, hf7⟩ := t_with' hS (P6.cd ho 0).2.2.1 hu ht
    dsimp only at hr7 hf7
    subst hr7
    have P7 := (P6.cd ho 0).fr ho hf7 (scrL (by decide))
    have J7 := (J6.cd 0).fr hf7 (scrL (by decide))
    obtain ⟨⟨r8, M8⟩, x8, hr8, hf8, -⟩ := t_rowsOf P7.2.2.1
    dsimp only at hr8 hf8
    subst hr8
    have e7 : f_X7_share M6 (iN o) (iN u) (iN t) = some (FP.fdiv (FP.i2f (iN (WI b n u t))) (FP.i2f (iN (RW b n))), M8) := by
      simp only [f_X7_share, t_isThing1 P6 ho hu, t_isThing1 P6 ho ht, bd_some, e10, if_false, f_X7_share_L24, t_lets1, x7, x8, hnn, chk_t]
    have hc : M8 47 3 = 0 := cd_fr (hf7.trans hf8) (by decide)
    refine ⟨M8, ?_, J7.fr hf8 (scrL (by decide))⟩
    simp only [f_law_48, f_L_share, e6, bd_some, lx, hnn', chk_t, e7, f_X7_thrown, hc, if_true, dcmp_self hnn']
  · have e6 : f_X6_share M a1 a2 a3 = some (.inl eI, M) := by simp only [f_X6_share, h1, bd_some, cx]
    have e7 : f_X7_share M a1 a2 a3 = some (0, upM M 47 3 1) := by
      rcases h2 with h2 | ⟨h2, h3⟩
      · simp only [f_X7_share, h2, bd_some, if_true, f_X7_share_L23, f_X7_share_L24, t_lets0]
      · simp only [f_X7_share, h2, h3, bd_some, e10, if_false, if_true, f_X7_share_L23, f_X7_share_L24, t_lets0]
    have hc : upM M 47 3 1 47 3 = 1 := cd_at
    refine ⟨_, ?_, hJ.cd 1⟩
    simp only [f_law_48, f_L_share, e6, bd_some, lx, e7, f_X7_thrown, hc, if_true, e10, if_false]
end CC
