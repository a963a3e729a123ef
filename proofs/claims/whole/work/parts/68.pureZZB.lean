/-! ===== the law's cases: orders that become others ===== -/
section IN
variable {M : Mem} {o n : Nat} {b : Nat → Nat}
theorem s_into (ho : o < 4) (h : OR M 14 n b) : ∃ M', f_X3_become M (2 + 3 * o) 14 = some M' ∧ (Fr M M' [2 + 3 * o, 2 + 3 * o + 1, 2 + 3 * o + 2] ∧ OR M' (2 + 3 * o) n b ∧ ∀ k < n, M' (2 + 3 * o + 2) k = M 16 k) := by
  have h9 := h.le
  obtain ⟨M', x, hf, hn, hv⟩ := s_become (M := M) (q0 := 2 + 3 * o) (q1 := 14) (by unfold dj; omega)
  exact ⟨M', x, hf, h.of hn (fun k hk => (hv k (by omega)).1), fun k hk => (hv k (by omega)).2⟩
theorem sub6 {o : Nat} {l : List Nat} (h : ∀ a ∈ l, (14 ≤ a ∧ a ≤ 16) ∨ (21 ≤ a ∧ a ≤ 23) ∨ a = 2 + 3 * o ∨ a = 2 + 3 * o + 1 ∨ a = 2 + 3 * o + 2) : ∀ a ∈ l, a ∈ [14, 15, 16, 21, 22, 23, 2 + 3 * o, 2 + 3 * o + 1, 2 + 3 * o + 2] := by
  intro a ha
  have := h a ha
  simp only [List.mem_cons, List.not_mem_nil, or_false]
  omega
theorem zcl9 : ∀ a ∈ [14, 15, 16, 21, 22, 23, 2 + 3 * o, 2 + 3 * o + 1, 2 + 3 * o + 2], scr a ∨ a = 2 + 3 * o ∨ a = 2 + 3 * o + 1 ∨ a = 2 + 3 * o + 2 := by
  intro a ha
  simp only [List.mem_cons, List.not_mem_nil, or_false] at ha
  unfold scr; omega
theorem zrp9 (ho : o < 4) : ∀ a ∈ [14, 15, 16, 21, 22, 23, 2 + 3 * o, 2 + 3 * o + 1, 2 + 3 * o + 2], a < 48 ∨ 106 ≤ a := by
  intro a ha
  simp only [List.mem_cons, List.not_mem_nil, or_false] at ha
  omega
theorem so9 {p : Nat} {M M' : Mem} (hp : p < 4) (ho : o < 4) (hne : p ≠ o) (hf : Fr M M' [14, 15, 16, 21, 22, 23, 2 + 3 * o, 2 + 3 * o + 1, 2 + 3 * o + 2]) : SO p M M' := SO.cls hp ho hne hf zcl9
end IN
section CC
variable {M : Mem} {a1 a2 a3 : Int32}
theorem c_8 (hJ : J M) : OKJ (f_law_8 M a1 a2 a3) := by
  show OKJ (LI (f_L_straighten M a1 a2) (fun M => f_X7_straighten M a1 a2))
  rcases ordc a1 with ⟨o, ho, rfl⟩ | ⟨h1, h2⟩
  · obtain ⟨n, b, P⟩ := hJ o ho
    have hS := P.1
    have h9 := P.2.1.le
    have hRW := RW_le (b := b) h9
    obtain ⟨⟨r5, M5⟩, x5, hr5, hf5, hF⟩ := s_fill (q := 20) hS P.2.1 (by omega)
    dsimp only at hr5 hf5 hF
    subst hr5
    have P5 := P.fr ho hf5 (scrL (by decide))
    have J5 := hJ.fr hf5 (scrL (by decide))
    by_cases hx : a2 < 0
    · have e6 : f_X6_straighten M (iN o) a2 = some (.inl eI, M5) := by
        simp only [f_X6_straighten, s_orderAt ho, bd_some, cx, kd4 ho, chk_t, f_X6_layOutRow, x5, if_pos hx]
      have e7 : f_X7_straighten M5 (iN o) a2 = some (0, upM M5 47 3 1) := by
        simp only [f_X7_straighten, t_isOrder ho, bd_some, e10, if_false, if_pos hx, f_X7_straighten_L25, f_X7_straighten_L26, t_lets0, if_true]
      exact LI_ex (by simp only [f_L_straighten, e6, bd_some, lx, if_true]) e7 cd_at h10 (J5.cd 1)
    · obtain ⟨p, hp, rfl⟩ := nonneg hx
      by_cases hlt : p < RW b n
      · obtain ⟨M5', x5', hf5', hl5⟩ := s_layOut (q := 20) hS P5.2.1 (by omega) hF hlt
        have P5' := P5.fr ho hf5' (scrL (by decide))
        obtain ⟨M6, x6, hf6, h6⟩ := s_standAs (q2 := 20 + 3) hS hlt P5'.2.1 (by omega) hl5
        have e6 : f_X6_straighten M (iN o) (iN p) = some (.inr (iN (S n fun k => pc (lb b n p k)) - iN (S n fun k => pc (b k))), M6) := by
          simp (disch := omega) only [f_X6_straighten, s_orderAt ho, bd_some, cx, kd4 ho, chk_t, f_X6_layOutRow, x5, iN_n0, if_false, iN_lt, if_pos hlt, x5', s_pairCount P5'.2.1, x6, s_pairCount h6]
        have hf : Fr M M6 [14, 15, 16, 21, 22, 23, 2 + 3 * o, 2 + 3 * o + 1, 2 + 3 * o + 2] := ((hf5.mono (sub6 (by intro a ha; simp only [List.mem_cons, List.not_mem_nil, or_false] at ha; omega))).trans (hf5'.mono (sub6 (by intro a ha; simp only [List.mem_cons, List.not_mem_nil, or_false] at ha; omega)))).trans (hf6.mono (sub6 (by intro a ha; simp only [List.mem_cons, List.not_mem_nil, or_false] at ha; omega)))
        have R6 := P.rp.fr hf (zrp9 ho)
        obtain ⟨⟨r7, M7⟩, x7, hr7, hf7, -⟩ := t_rowsOf R6.1
        dsimp only at hr7 hf7
        subst hr7
        have R7 := (R6.fr hf7 (by intro a ha; simp only [List.mem_cons, List.not_mem_nil, or_false] at ha; omega)).cd (x := 0)
        obtain ⟨⟨r8, M8⟩, x8, hr8, hf8, hl8⟩ := t_lineUp hS R7.1 hlt
        dsimp only at hr8 hf8 hl8
        subst hr8
        have R8 := R7.fr hf8 (by intro a ha; simp only [List.mem_cons, List.not_mem_nil, or_false] at ha; omega)
        obtain ⟨M9, x9, hT9, hR9⟩ := t_lineRow hS hlt R8 ho hl8 (iN (S n fun k => pc (b k)))
        have e7 : f_X7_straighten M6 (iN o) (iN p) = some (iN (S n fun k => pc (lb b n p k)) - iN (S n fun k => pc (b k)), M9) := by
          simp (disch := omega) only [f_X7_straighten, t_isOrder ho, bd_some, e10, if_false, iN_n0, x7, iN_le, if_neg (show ¬ RW b n ≤ p by omega), f_X7_straighten_L26, t_lets1, t_pairsOf R7.1, x8, x9]
        have h47 : M9 47 3 = 0 := by rw [hT9.1 47 (by omega) (by omega) (by omega), hf8 47 (by simp), upM_eq]
        have hv6 : ∀ k < n, M6 (2 + 3 * o + 2) k = M (2 + 3 * o + 2) k := fun k _ => by
          rw [hf6 _ (by simp), hf5' _ (by simp only [List.mem_cons, List.not_mem_nil, or_false]; omega), hf5 _ (by simp only [List.mem_cons, List.not_mem_nil, or_false]; omega)]
        exact fin_ok hJ ho (by simp only [f_L_straighten, e6, bd_some, lx]) e7 h47 hf zcl9 (fun p hp hne => (((SO.fr hp hf7 (scrL (by decide))).trans (SO.cd hp)).trans (SO.fr hp hf8 (scrL (by decide)))).trans (hT9.so (by omega) hp hne)) (lb_St hS hlt) h6 hv6 ((((LOW.fr hf7 (by decide)).trans LOW.cd).trans (LOW.fr hf8 (by decide))).trans hT9.low) hR9
      · have e6 : f_X6_straighten M (iN o) (iN p) = some (.inl eI, M5) := by
          simp (disch := omega) only [f_X6_straighten, s_orderAt ho, bd_some, cx, kd4 ho, chk_t, f_X6_layOutRow, x5, iN_n0, if_false, iN_lt, if_neg hlt]
        obtain ⟨⟨r7, M7⟩, x7, hr7, hf7, -⟩ := t_rowsOf P5.2.2.1
        dsimp only at hr7 hf7
        subst hr7
        have J7 := J5.fr hf7 (scrL (by decide))
        have e7 : f_X7_straighten M5 (iN o) (iN p) = some (0, upM M7 47 3 1) := by
          simp (disch := omega) only [f_X7_straighten, t_isOrder ho, bd_some, e10, if_false, iN_n0, x7, iN_le, if_pos (show RW b n ≤ p by omega), f_X7_straighten_L25, f_X7_straighten_L26, t_lets0, if_true]
        exact LI_ex (by simp only [f_L_straighten, e6, bd_some, lx, if_true]) e7 cd_at h10 (J7.cd 1)
  · have e6 : f_X6_straighten M a1 a2 = some (.inl eI, M) := by simp only [f_X6_straighten, h1, bd_some, cx]
    have e7 : f_X7_straighten M a1 a2 = some (0, upM M 47 3 1) := by simp only [f_X7_straighten, h2, bd_some, if_true, f_X7_straighten_L25, f_X7_straighten_L26, t_lets0]
    exact LI_ex (by simp only [f_L_straighten, e6, bd_some, lx, if_true]) e7 cd_at h10 (hJ.cd 1)
theorem c_9 (hJ : J M) : OKJ (f_law_9 M a1 a2 a3) := by
  show OKJ (LI (f_L_turn M a1) (fun M => f_X7_turn M a1))
  rcases ordc a1 with ⟨o, ho, rfl⟩ | ⟨h1, h2⟩
  · obtain ⟨n, b, P⟩ := hJ o ho
    have hS := P.1
    obtain ⟨M5, x5, hf5, h5, hv5⟩ := s_becomeTurned (q0 := 14) P.2.1 (by unfold dj; omega)
    obtain ⟨M6, x6, hf6, h6, hv6⟩ := s_into ho h5
    have e6 : f_X6_turn M (iN o) = some (.inr (iN (S n fun k => pc (op b n k))), M6) := by
      simp only [f_X6_turn, s_orderAt ho, bd_some, cx, kd4 ho, chk_t, x5, x6, s_pairCount h6]
    have hf : Fr M M6 [14, 15, 16, 21, 22, 23, 2 + 3 * o, 2 + 3 * o + 1, 2 + 3 * o + 2] := (hf5.mono (sub6 (by intro a ha; simp only [List.mem_cons, List.not_mem_nil, or_false] at ha; omega))).trans (hf6.mono (sub6 (by intro a ha; simp only [List.mem_cons, List.not_mem_nil, or_false] at ha; omega)))
    have R6 := (P.rp.fr hf (zrp9 ho)).cd (x := 0)
    obtain ⟨M7, x7, hT7, hR7⟩ := t_turnRow R6 ho hS
    have e7 : f_X7_turn M6 (iN o) = some (iN (S n fun k => pc (op b n k)), M7) := by
      simp only [f_X7_turn, t_isOrder ho, bd_some, t_lets1, e10, if_false, x7]
    exact fin_ok hJ ho (by simp only [f_L_turn, e6, bd_some, lx]) e7 (TG47 hT7) hf zcl9 (fun p hp hne => (SO.cd hp).trans (hT7.so (by omega) hp hne)) (op_St hS) h6 (fun k hk => by rw [hv6 k hk]; exact hv5 k hk) (LOW.cd.trans hT7.low) hR7
  · have e6 : f_X6_turn M a1 = some (.inl eI, M) := by simp only [f_X6_turn, h1, bd_some, cx]
    have e7 : f_X7_turn M a1 = some (0, upM M 47 3 1) := by simp only [f_X7_turn, h2, bd_some, t_lets0, if_true]
    exact LI_ex (by simp only [f_L_turn, e6, bd_some, lx, if_true]) e7 cd_at h10 (hJ.cd 1)
theorem s_copyTo {o o' n : Nat} {b : Nat → Nat} (ho : o < 4) (ho' : o' < 4) (h : OR M (2 + 3 * o) n b) : ∃ M', f_X3_become M (2 + 3 * o') (2 + 3 * o) = some M' ∧ (Fr M M' [2 + 3 * o', 2 + 3 * o' + 1, 2 + 3 * o' + 2] ∧ OR M' (2 + 3 * o') n b ∧ ∀ k < n, M' (2 + 3 * o' + 2) k = M (2 + 3 * o + 2) k) := by
  have h9 := h.le
  by_cases e : o = o'
  · subst e
    exact ⟨M, s_become_self, Fr.refl _ _, h, fun _ _ => rfl⟩
  · obtain ⟨M', x, hf, hn, hv⟩ := s_become (M := M) (q0 := 2 + 3 * o') (q1 := 2 + 3 * o) (by unfold dj; omega)
    exact ⟨M', x, hf, h.of hn (fun k hk => (hv k (by omega)).1), fun k hk => (hv k (by omega)).2⟩
theorem c_10 (hJ : J M) : OKJ (f_law_10 M a1 a2 a3) := by
  show OKJ (LI (f_L_copy M a1 a2) (fun M => f_X7_copy M a1 a2))
  rcases ordc a1 with ⟨o, ho, rfl⟩ | ⟨h1, h2⟩
  · obtain ⟨n, b, P⟩ := hJ o ho
    rcases ordc a2 with ⟨o', ho', rfl⟩ | ⟨h1, h2⟩
    · obtain ⟨M6, x6, hf6, h6, hv6⟩ := s_copyTo ho ho' P.2.1
      have e6 : f_X6_copy M (iN o) (iN o') = some (.inr (iN n), M6) := by
        simp only [f_X6_copy, s_orderAt ho, s_orderAt ho', bd_some, cx, kd4 ho, kd4 ho', chk_t, x6, h6.n]
      have R6 := (P.rp.fr hf6 (zrp3 ho')).cd (x := 0)
      obtain ⟨M7, x7, hT7, hR7⟩ := t_becomes (o := o') (by omega) R6
      have e7 : f_X7_copy M6 (iN o) (iN o') = some (iN n, M7) := by
        simp (disch := omega) only [f_X7_copy, t_isOrder ho, t_isOrder ho', bd_some, e10, if_false, f_X7_copy_L20, t_lets1, x7, chk_inb, clamp_iN, hR7.1.n]
      exact fin_ok hJ ho' (by simp only [f_L_copy, e6, bd_some, lx]) e7 (TG47 hT7) hf6 zcl3 (fun p hp hne => (SO.cd hp).trans (hT7.so (by omega) hp hne)) P.1 h6 hv6 (LOW.cd.trans hT7.low) hR7
    · have e6 : f_X6_copy M (iN o) a2 = some (.inl eI, M) := by simp only [f_X6_copy, s_orderAt ho, kd4 ho, chk_t, h1, bd_some, cx]
      have e7 : f_X7_copy M (iN o) a2 = some (0, upM M 47 3 1) := by simp only [f_X7_copy, t_isOrder ho, e10, if_false, h2, bd_some, f_X7_copy_L19, f_X7_copy_L20, t_lets0, if_true]
      exact LI_ex (by simp only [f_L_copy, e6, bd_some, lx, if_true]) e7 cd_at h10 (hJ.cd 1)
  · have e6 : f_X6_copy M a1 a2 = some (.inl eI, M) := by simp only [f_X6_copy, h1, bd_some, cx]
    have e7 : f_X7_copy M a1 a2 = some (0, upM M 47 3 1) := by simp only [f_X7_copy, h2, bd_some, f_X7_copy_L19, f_X7_copy_L20, t_lets0, if_true]
    exact LI_ex (by simp only [f_L_copy, e6, bd_some, lx, if_true]) e7 cd_at h10 (hJ.cd 1)
theorem jx (x y z : Int32) : (∃ o1 o2 o3, o1 < 4 ∧ o2 < 4 ∧ o3 < 4 ∧ x = iN o1 ∧ y = iN o2 ∧ z = iN o3) ∨ ((∀ M w, f_X6_joinInto M x y z w = some (.inl eI, M)) ∧ (∀ M, f_X7_canJoin M x y z = some (0, upM M 47 3 1)) ∧ (∀ M, f_X6_meet M x y z = some (.inl eI, M)) ∧ (∀ M, f_X7_meet M x y z = some (0, upM M 47 3 1))) := by
  rcases ordc x with ⟨o1, ho1, rfl⟩ | ⟨h1, h2⟩
  · rcases ordc y with ⟨o2, ho2, rfl⟩ | ⟨h1, h2⟩
    · rcases ordc z with ⟨o3, ho3, rfl⟩ | ⟨h1, h2⟩
      · exact Or.inl ⟨o1, o2, o3, ho1, ho2, ho3, rfl, rfl, rfl⟩
      · right
        refine ⟨fun M w => ?_, fun M => ?_, fun M => ?_, fun M => ?_⟩
        · simp only [f_X6_joinInto, s_orderAt ho1, s_orderAt ho2, kd4 ho1, kd4 ho2, chk_t, h1, bd_some, cx]
        · simp only [f_X7_canJoin, t_isOrder ho1, t_isOrder ho2, h2, bd_some, e10, if_false, if_true, f_X7_canJoin_L26, f_X7_canJoin_L27, t_lets0]
        · simp only [f_X6_meet, s_orderAt ho1, s_orderAt ho2, kd4 ho1, kd4 ho2, chk_t, h1, bd_some, cx]
        · simp only [f_X7_meet, t_isOrder ho1, t_isOrder ho2, h2, bd_some, e10, if_false, if_true, f_X7_meet_L26, f_X7_meet_L27, t_lets0]
    · right
      refine ⟨fun M w => ?_, fun M => ?_, fun M => ?_, fun M => ?_⟩
      · simp only [f_X6_joinInto, s_orderAt ho1, kd4 ho1, chk_t, h1, bd_some, cx]
      · simp only [f_X7_canJoin, t_isOrder ho1, h2, bd_some, e10, if_false, if_true, f_X7_canJoin_L26, f_X7_canJoin_L27, t_lets0]
      · simp only [f_X6_meet, s_orderAt ho1, kd4 ho1, chk_t, h1, bd_some, cx]
      · simp only [f_X7_meet, t_isOrder ho1, h2, bd_some, e10, if_false, if_true, f_X7_meet_L26, f_X7_meet_L27, t_lets0]
  · right
    refine ⟨fun M w => ?_, fun M => ?_, fun M => ?_, fun M => ?_⟩
    · simp only [f_X6_joinInto, h1, bd_some, cx]
    · simp only [f_X7_canJoin, h2, bd_some, if_true, f_X7_canJoin_L26, f_X7_canJoin_L27, t_lets0]
    · simp only [f_X6_meet, h1, bd_some, cx]
    · simp only [f_X7_meet, h2, bd_some, if_true, f_X7_meet_L26, f_X7_meet_L27, t_lets0]
/-- both sides join two orders into a third -/
theorem both_join (hJ : J M) (st : Bool) {o1 o2 o3 n1 n2 : Nat} {b1 b2 : Nat → Nat} (ho1 : o1 < 4) (ho2 : o2 < 4) (ho3 : o3 < 4) (P1 : PO M o1 n1 b1) (P2 : PO M o2 n2 b2) (hn : n1 + n2 ≤ 9) : ∃ M6 M8 M9, f_X6_joinInto M (iN o1) (iN o2) (iN o3) (bI st) = some (.inr (2 + 3 * o3), M6) ∧ f_X7_canJoin M6 (iN o1) (iN o2) (iN o3) = some (1, upM M6 47 3 0) ∧ f_X7_joins (upM M6 47 3 0) (iN o1) (iN o2) (bI st) = some M8 ∧ f_X7_becomes M8 (iN o3) (iN 4) = some M9 ∧ M9 47 3 = 0 ∧ OR M6 (2 + 3 * o3) (n1 + n2) (jn b1 n1 b2 n2 st) ∧ MR M9 o3 (n1 + n2) (jn b1 n1 b2 n2 st) ∧ J M9 := by
  have e9 : (9 : Int32) = iN 9 := rfl
  obtain ⟨M5, x5, hf5, h5, hv5⟩ := s_becomeJoined (q0 := 14) P1.2.1 P2.2.1 hn (by unfold dj; omega) (by unfold dj; omega) st
  obtain ⟨M6, x6, hf6, h6, hv6⟩ := s_into ho3 h5
  have hf : Fr M M6 [14, 15, 16, 21, 22, 23, 2 + 3 * o3, 2 + 3 * o3 + 1, 2 + 3 * o3 + 2] := (hf5.mono (sub6 (by intro a ha; simp only [List.mem_cons, List.not_mem_nil, or_false] at ha; omega))).trans (hf6.mono (sub6 (by intro a ha; simp only [List.mem_cons, List.not_mem_nil, or_false] at ha; omega)))
  have R1 := (P1.rp.fr hf (zrp9 ho3)).cd (x := 0)
  have R2 := (P2.rp.fr hf (zrp9 ho3)).cd (x := 0)
  obtain ⟨M8, x8, hT8, hR8⟩ := t_joins R1 R2 ho1 ho2 hn st
  obtain ⟨M9, x9, hT9, hR9⟩ := t_becomes (o := o3) (by omega) hR8
  refine ⟨M6, M8, M9, ?_, ?_, x8, x9, ?_, h6, hR9.1, ?_⟩
  · simp (disch := omega) only [f_X6_joinInto, s_orderAt ho1, s_orderAt ho2, s_orderAt ho3, kd4 ho1, kd4 ho2, kd4 ho3, chk_t, bd_some, cx, P1.2.1.n, P2.2.1.n, iN_add, e9, iN_le, if_pos hn, x5, x6]
  · simp (disch := omega) only [f_X7_canJoin, t_isOrder ho1, t_isOrder ho2, t_isOrder ho3, bd_some, e10, if_false, f_X7_canJoin_L27, t_lets1, chk_inb, clamp_iN, R1.1.n, R2.1.n, iN_add, e9, iN_lt, if_neg (show ¬ 9 < n1 + n2 by omega), upM_up]
  · rw [hT9.1 47 (by omega) (by omega) (by omega), hT8.1 47 (by omega) (by omega) (by omega), upM_eq]
  · exact hJ.upd (o := o3) (fun p hp hne => so9 hp ho3 hne hf) (fun p hp hne => ((SO.cd hp).trans (hT8.so (by omega) hp (by omega))).trans (hT9.so (by omega) hp hne)) ⟨_, _, POmk ho3 (jn_St P1.1 P2.1 hn) h6 (fun k hk => by rw [hv6 k hk]; exact hv5 k hk) ((LOW.cd.trans hT8.low).trans hT9.low) hR9⟩
theorem no_join {o1 o2 o3 n1 n2 : Nat} {b1 b2 : Nat → Nat} (ho1 : o1 < 4) (ho2 : o2 < 4) (ho3 : o3 < 4) (P1 : PO M o1 n1 b1) (P2 : PO M o2 n2 b2) (hn : ¬ n1 + n2 ≤ 9) : (∀ w, f_X6_joinInto M (iN o1) (iN o2) (iN o3) w = some (.inl eS, M)) ∧ f_X7_canJoin M (iN o1) (iN o2) (iN o3) = some (0, upM M 47 3 2) := by
  have e9 : (9 : Int32) = iN 9 := rfl
  have h91 := P1.2.1.le
  have h92 := P2.2.1.le
  have R1 := (P1.cd ho1 0).2.2.1
  have R2 := (P2.cd ho2 0).2.2.1
  refine ⟨fun w => ?_, ?_⟩
  · simp (disch := omega) only [f_X6_joinInto, s_orderAt ho1, s_orderAt ho2, s_orderAt ho3, kd4 ho1, kd4 ho2, kd4 ho3, chk_t, bd_some, cx, P1.2.1.n, P2.2.1.n, iN_add, e9, iN_le, if_neg hn]
  · simp (disch := omega) only [f_X7_canJoin, t_isOrder ho1, t_isOrder ho2, t_isOrder ho3, bd_some, e10, if_false, f_X7_canJoin_L27, t_lets1, chk_inb, clamp_iN, R1.n, R2.n, iN_add, e9, iN_lt, if_pos (show 9 < n1 + n2 by omega), t_lets0, if_true, upM_up]
theorem c_11 (hJ : J M) : OKJ (f_law_11 M a1 a2 a3) := by
  show OKJ (LI (f_L_beside M a1 a2 a3) (fun M => f_X7_beside M a1 a2 a3))
  have e4 : (4 : Int32) = iN 4 := rfl
  rcases jx a1 a2 a3 with ⟨o1, o2, o3, ho1, ho2, ho3, rfl, rfl, rfl⟩ | ⟨h1, h2, -, -⟩
  · obtain ⟨n1, b1, P1⟩ := hJ o1 ho1
    obtain ⟨n2, b2, P2⟩ := hJ o2 ho2
    by_cases hn : n1 + n2 ≤ 9
    · obtain ⟨M6, M8, M9, x6, x7, x8, x9, h47, h6, h9, J9⟩ := both_join hJ false ho1 ho2 ho3 P1 P2 hn
      rw [bI_f] at x6 x8
      have e6 : f_X6_beside M (iN o1) (iN o2) (iN o3) = some (.inr (iN (n1 + n2)), M6) := by
        simp only [f_X6_beside, x6, bd_some, cx, kd4 ho3, chk_t, h6.n]
      have e7 : f_X7_beside M6 (iN o1) (iN o2) (iN o3) = some (iN (n1 + n2), M9) := by
        simp (disch := omega) only [f_X7_beside, x7, bd_some, e10, if_false, x8, e4, x9, chk_inb, clamp_iN, h9.n]
      exact LI_ok (by simp only [f_L_beside, e6, bd_some, lx]) e7 h47 J9
    · obtain ⟨h1, h2⟩ := no_join ho1 ho2 ho3 P1 P2 hn
      have e6 : f_X6_beside M (iN o1) (iN o2) (iN o3) = some (.inl eS, M) := by simp only [f_X6_beside, h1, bd_some, cx]
      have e7 : f_X7_beside M (iN o1) (iN o2) (iN o3) = some (0, upM M 47 3 2) := by simp only [f_X7_beside, h2, bd_some, if_true]
      exact LI_ex (by simp only [f_L_beside, e6, bd_some, lx, eSI, if_false, if_true]) e7 cd_at h20 (hJ.cd 2)
  · have e6 : f_X6_beside M a1 a2 a3 = some (.inl eI, M) := by simp only [f_X6_beside, h1, bd_some, cx]
    have e7 : f_X7_beside M a1 a2 a3 = some (0, upM M 47 3 1) := by simp only [f_X7_beside, h2, bd_some, if_true]
    exact LI_ex (by simp only [f_L_beside, e6, bd_some, lx, if_true]) e7 cd_at h10 (hJ.cd 1)
theorem c_12 (hJ : J M) : OKJ (f_law_12 M a1 a2 a3) := by
  show OKJ (LI (f_L_above M a1 a2 a3) (fun M => f_X7_above M a1 a2 a3))
  have e4 : (4 : Int32) = iN 4 := rfl
  rcases jx a1 a2 a3 with ⟨o1, o2, o3, ho1, ho2, ho3, rfl, rfl, rfl⟩ | ⟨h1, h2, -, -⟩
  · obtain ⟨n1, b1, P1⟩ := hJ o1 ho1
    obtain ⟨n2, b2, P2⟩ := hJ o2 ho2
    by_cases hn : n1 + n2 ≤ 9
    · obtain ⟨M6, M8, M9, x6, x7, x8, x9, h47, h6, h9, J9⟩ := both_join hJ true ho1 ho2 ho3 P1 P2 hn
      rw [bI_t] at x6 x8
      have e6 : f_X6_above M (iN o1) (iN o2) (iN o3) = some (.inr (iN (S (n1 + n2) fun k => pc (jn b1 n1 b2 n2 true k))), M6) := by
        simp only [f_X6_above, x6, bd_some, cx, kd4 ho3, chk_t, s_pairCount h6]
      have e7 : f_X7_above M6 (iN o1) (iN o2) (iN o3) = some (iN (S (n1 + n2) fun k => pc (jn b1 n1 b2 n2 true k)), M9) := by
        simp (disch := omega) only [f_X7_above, x7, bd_some, e10, if_false, x8, e4, x9, t_pairsOf h9]
      exact LI_ok (by simp only [f_L_above, e6, bd_some, lx]) e7 h47 J9
    · obtain ⟨h1, h2⟩ := no_join ho1 ho2 ho3 P1 P2 hn
      have e6 : f_X6_above M (iN o1) (iN o2) (iN o3) = some (.inl eS, M) := by simp only [f_X6_above, h1, bd_some, cx]
      have e7 : f_X7_above M (iN o1) (iN o2) (iN o3) = some (0, upM M 47 3 2) := by simp only [f_X7_above, h2, bd_some, if_true]
      exact LI_ex (by simp only [f_L_above, e6, bd_some, lx, eSI, if_false, if_true]) e7 cd_at h20 (hJ.cd 2)
  · have e6 : f_X6_above M a1 a2 a3 = some (.inl eI, M) := by simp only [f_X6_above, h1, bd_some, cx]
    have e7 : f_X7_above M a1 a2 a3 = some (0, upM M 47 3 1) := by simp only [f_X7_above, h2, bd_some, if_true]
    exact LI_ex (by simp only [f_L_above, e6, bd_some, lx, if_true]) e7 cd_at h10 (hJ.cd 1)
theorem c_13 (hJ : J M) : OKJ (f_law_13 M a1 a2 a3) := by
  show OKJ (LI (f_L_meet M a1 a2 a3) (fun M => f_X7_meet M a1 a2 a3))
  have e4 : (4 : Int32) = iN 4 := rfl
  rcases jx a1 a2 a3 with ⟨o1, o2, o3, ho1, ho2, ho3, rfl, rfl, rfl⟩ | ⟨-, -, h1, h2⟩
  · obtain ⟨n1, b1, P1⟩ := hJ o1 ho1
    obtain ⟨n2, b2, P2⟩ := hJ o2 ho2
    have h91 := P1.2.1.le
    have h92 := P2.2.1.le
    by_cases e : n1 = n2
    · subst e
      obtain ⟨M5, x5, hf5, h5, hv5⟩ := s_becomeCommon (q0 := 14) P1.2.1 P2.2.1 (by unfold dj; omega) (by unfold dj; omega)
      obtain ⟨M6, x6, hf6, h6, hv6⟩ := s_into ho3 h5
      have hf : Fr M M6 [14, 15, 16, 21, 22, 23, 2 + 3 * o3, 2 + 3 * o3 + 1, 2 + 3 * o3 + 2] := (hf5.mono (sub6 (by intro a ha; simp only [List.mem_cons, List.not_mem_nil, or_false] at ha; omega))).trans (hf6.mono (sub6 (by intro a ha; simp only [List.mem_cons, List.not_mem_nil, or_false] at ha; omega)))
      have R1 := (P1.rp.fr hf (zrp9 ho3)).cd (x := 0)
      have R2 := (P2.rp.fr hf (zrp9 ho3)).cd (x := 0)
      have e6 : f_X6_meet M (iN o1) (iN o2) (iN o3) = some (.inr (iN (S n1 fun k => pc (b1 k &&& b2 k))), M6) := by
        simp only [f_X6_meet, s_orderAt ho1, s_orderAt ho2, s_orderAt ho3, kd4 ho1, kd4 ho2, kd4 ho3, chk_t, bd_some, cx, P1.2.1.n, P2.2.1.n, if_true, x5, x6, s_pairCount h6]
      have hE : TG 4 (upM M6 47 3 0) (EM 4 (iN n1) (upM M6 47 3 0)) := EM_tg
      have hem : f_X7_empty (upM M6 47 3 0) (iN 4) (iN n1) = some (EM 4 (iN n1) (upM M6 47 3 0)) := t_empty (by omega) _
      obtain ⟨M7, x7, ⟨M1, ht1, ht2⟩, hR7⟩ := t_meetRow (o := o3) (R1.tg hE (by omega) (by omega) (by omega)) (R2.tg hE (by omega) (by omega) (by omega)).1 ho1 ho2 ho3 (f := 4) rfl EM_n (fun k hk j hj => by rw [EM_b hk hj]; rfl)
      have e7 : f_X7_meet M6 (iN o1) (iN o2) (iN o3) = some (iN (S n1 fun k => pc (b1 k &&& b2 k)), M7) := by
        simp (disch := omega) only [f_X7_meet, t_isOrder ho1, t_isOrder ho2, t_isOrder ho3, bd_some, e10, if_false, f_X7_meet_L27, t_lets1, chk_inb, clamp_iN, R1.1.n, R2.1.n, if_true, e4, hem, x7]
      have h47 : M7 47 3 = 0 := by rw [ht2.1 47 (by omega) (by omega) (by omega), ht1.1 47 (by omega) (by omega) (by omega), hE.1 47 (by omega) (by omega) (by omega), upM_eq]
      exact fin_ok hJ ho3 (by simp only [f_L_meet, e6, bd_some, lx]) e7 h47 hf zcl9 (fun p hp hne => (((SO.cd hp).trans (hE.so (by omega) hp (by omega))).trans (ht1.so (by omega) hp (by omega))).trans (ht2.so (by omega) hp hne)) (St_and P1.1 P2.1) h6 (fun k hk => by rw [hv6 k hk]; exact hv5 k hk) (((LOW.cd.trans hE.low).trans ht1.low).trans ht2.low) hR7
    · have ene : (iN n1 = iN n2) = False := by rw [iN_eq (by omega) (by omega)]; exact eq_false e
      have R1 := (P1.cd ho1 0).2.2.1
      have R2 := (P2.cd ho2 0).2.2.1
      have e6 : f_X6_meet M (iN o1) (iN o2) (iN o3) = some (.inr (-9), M) := by
        simp only [f_X6_meet, s_orderAt ho1, s_orderAt ho2, s_orderAt ho3, kd4 ho1, kd4 ho2, kd4 ho3, chk_t, bd_some, cx, P1.2.1.n, P2.2.1.n, ene, if_false]
      have e7 : f_X7_meet M (iN o1) (iN o2) (iN o3) = some (-9, upM M 47 3 0) := by
        simp (disch := omega) only [f_X7_meet, t_isOrder ho1, t_isOrder ho2, t_isOrder ho3, bd_some, e10, if_false, f_X7_meet_L27, t_lets1, chk_inb, clamp_iN, R1.n, R2.n, ene]
      exact LI_ok (by simp only [f_L_meet, e6, bd_some, lx]) e7 cd_at (hJ.cd 0)
  · have e6 : f_X6_meet M a1 a2 a3 = some (.inl eI, M) := h1 M
    have e7 : f_X7_meet M a1 a2 a3 = some (0, upM M 47 3 1) := h2 M
    exact LI_ex (by simp only [f_L_meet, e6, bd_some, lx, if_true]) e7 cd_at h10 (hJ.cd 1)
end CC
