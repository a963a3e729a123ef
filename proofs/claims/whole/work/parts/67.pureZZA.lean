/-! ===== the law's cases: orders that change ===== -/
section CC
variable {M : Mem} {a1 a2 a3 : Int32}
theorem c_3 (hJ : J M) : OKJ (f_law_3 M a1 a2 a3) := by
  show OKJ (LI (f_L_drop M a1 a2) (fun M => f_X7_drop M a1 a2))
  rcases thc hJ a1 a2 with ⟨o, n, b, t, ho, P, ht, rfl, rfl⟩ | ⟨h1, h2⟩
  · have h9 := P.2.1.le
    have h8 := p2_le h9
    have h7 := Nat.two_pow_pos n
    have hp2 := pow_lt ht
    have hp3 := Nat.two_pow_pos t
    have hs : 2 ^ n - 1 - 2 ^ t < 2 ^ n := by omega
    have hdif : dif (2 ^ n - 1) (2 ^ t) = 2 ^ n - 1 - 2 ^ t := dif_minus (n := n) (by omega) h9 (by rw [all_bit]; exact decide_eq_true ht)
    obtain ⟨M6, x6, hf6, h6, hv6⟩ := s_retain P.2.1 hs
    have e6 : f_X6_drop M (iN o) (iN t) = some (.inr (M (2 + 3 * o + 2) t), M6) := by
      simp (disch := omega) only [f_X6_drop, s_orderWith1 P ho ht, bd_some, cx, kd4 ho, chk_t, chk_inb, clamp_iN, s_all P.2.1, iN_shl, iN_andn, hdif, x6]
    have R6 := (P.rp.fr hf6 (zrp3 ho)).cd (x := 0)
    have P6t : f_X7_isThing M6 (iN o) (iN t) = some 1 := by
      rw [t_isThing (P.rp.fr hf6 (zrp3 ho)).1 ho, decide_eq_true ⟨t, ht, rfl⟩]; rfl
    obtain ⟨M7, x7, hl7, h47, hso, hR7⟩ := t_stay P.1 hs ho R6
    have rv : upM M6 47 3 0 (50 + o) t = M (2 + 3 * o + 2) t := R6.2.1 t ht
    have rn : upM M6 47 3 0 48 o = iN n := R6.1.n
    have rs : iN (2 ^ n) - 1 - iN (2 ^ t) = iN (2 ^ n - 1 - 2 ^ t) := by rw [iN_1, iN_sub h7, iN_sub (by omega)]
    have e7 : f_X7_drop M6 (iN o) (iN t) = some (M (2 + 3 * o + 2) t, M7) := by
      simp (disch := omega) only [f_X7_drop, P6t, bd_some, t_lets1, e10, if_false, chk_inb, clamp_iN, rv, rn, iN_shl, rs, x7]
    exact fin_ok hJ ho (by simp only [f_L_drop, e6, bd_some, lx]) e7 (by rw [h47, upM_eq]) hf6 zcl3 (fun p hp hne => (SO.cd hp).trans (hso p hp hne)) (rb_St P.1 hs) h6 hv6 (LOW.cd.trans hl7) hR7
  · have e6 : f_X6_drop M a1 a2 = some (.inl eI, M) := by simp only [f_X6_drop, h1, bd_some, cx]
    have e7 : f_X7_drop M a1 a2 = some (0, upM M 47 3 1) := by simp only [f_X7_drop, h2, bd_some, t_lets0, if_true]
    exact LI_ex (by simp only [f_L_drop, e6, bd_some, lx, if_true]) e7 cd_at h10 (hJ.cd 1)
theorem c_4 (hJ : J M) : OKJ (f_law_4 M a1 a2 a3) := by
  show OKJ (LI (f_L_keep M a1 a2) (fun M => f_X7_keep M a1 a2))
  rcases sec hJ a1 a2 with ⟨o, n, b, s, ho, P, hs, rfl, rfl⟩ | ⟨h1, h2⟩ | ⟨h1, h2, h3⟩
  · obtain ⟨M6, x6, hf6, h6, hv6⟩ := s_retain P.2.1 hs
    have e6 : f_X6_keep M (iN o) (iN s) = some (.inr (iN n - iN (pc s)), M6) := by
      simp only [f_X6_keep, s_orderWithSet1 P ho hs, bd_some, cx, kd4 ho, chk_t, P.2.1.n, x6, h6.n]
    have R6 := (P.rp.fr hf6 (zrp3 ho)).cd (x := 0)
    have P6s : f_X7_isSet (upM M6 47 3 0) (iN o) (iN s) = some 1 := by
      rw [t_isSet R6.1 ho, decide_eq_true ⟨s, hs, rfl⟩]; rfl
    obtain ⟨M7, x7, hl7, h47, hso, hR7⟩ := t_stay P.1 hs ho R6
    have rn : upM M6 47 3 0 48 o = iN n := R6.1.n
    have e7 : f_X7_keep M6 (iN o) (iN s) = some (iN n - iN (pc s), M7) := by
      simp (disch := omega) only [f_X7_keep, t_isOrder ho, bd_some, t_lets1, e10, if_false, P6s, upM_up, chk_inb, clamp_iN, rn, x7, hR7.1.n]
    exact fin_ok hJ ho (by simp only [f_L_keep, e6, bd_some, lx]) e7 (by rw [h47, upM_eq]) hf6 zcl3 (fun p hp hne => (SO.cd hp).trans (hso p hp hne)) (rb_St P.1 hs) h6 hv6 (LOW.cd.trans hl7) hR7
  · have e6 : f_X6_keep M a1 a2 = some (.inl eI, M) := by simp only [f_X6_keep, h1, bd_some, cx]
    have e7 : f_X7_keep M a1 a2 = some (0, upM M 47 3 1) := by simp only [f_X7_keep, h2, bd_some, t_lets0, if_true]
    exact LI_ex (by simp only [f_L_keep, e6, bd_some, lx, if_true]) e7 cd_at h10 (hJ.cd 1)
  · have e6 : f_X6_keep M a1 a2 = some (.inl eA, M) := by simp only [f_X6_keep, h1, bd_some, cx]
    have e7 : f_X7_keep M a1 a2 = some (0, upM M 47 3 2) := by simp only [f_X7_keep, h2, bd_some, t_lets1, e10, if_false, h3 0, t_lets0, if_true, upM_up]
    exact LI_ex (by simp only [f_L_keep, e6, bd_some, lx, eAI, if_false, if_true]) e7 cd_at h20 (hJ.cd 2)
theorem c_5 (hJ : J M) : OKJ (f_law_5 M a1 a2 a3) := by
  show OKJ (LI (f_L_setValue M a1 a2 a3) (fun M => f_X7_setValue M a1 a2 a3))
  rcases thc hJ a1 a2 with ⟨o, n, b, t, ho, P, ht, rfl, rfl⟩ | ⟨h1, h2⟩
  · have h9 := P.2.1.le
    rcases valc a3 with ⟨h1, h2⟩ | ⟨h1, h2⟩
    · have e6 : f_X6_setValue M (iN o) (iN t) a3 = some (.inr (M (2 + 3 * o + 2) t), upM M (2 + 3 * o + 2) t a3) := by
        simp (disch := omega) only [f_X6_setValue, s_orderWith1 P ho ht, bd_some, cx, kd4 ho, chk_t, h1, chk_inb, clamp_iN]
      have hf6 : Fr M (upM M (2 + 3 * o + 2) t a3) [2 + 3 * o, 2 + 3 * o + 1, 2 + 3 * o + 2] := Fr.up (by simp)
      generalize hM6 : upM M (2 + 3 * o + 2) t a3 = M6 at *
      have h6 : OR M6 (2 + 3 * o) n b := by
        subst hM6
        exact P.2.1.same (by funext i; rw [upM_ne2 (by omega)]) (by funext i; rw [upM_ne2 (by omega)])
      have hv6 : ∀ k < n, M6 (2 + 3 * o + 2) k = if k = t then a3 else M (2 + 3 * o + 2) k := fun k _ => by subst hM6; rw [upM_at]
      have R6' := P.rp.fr hf6 (zrp3 ho)
      have R6 := R6'.cd (x := 0)
      have P6t : f_X7_isThing M6 (iN o) (iN t) = some 1 := by rw [t_isThing R6'.1 ho, decide_eq_true ⟨t, ht, rfl⟩]; rfl
      have rv : upM M6 47 3 0 (50 + o) t = M (2 + 3 * o + 2) t := R6.2.1 t ht
      have e7 : f_X7_setValue M6 (iN o) (iN t) a3 = some (M (2 + 3 * o + 2) t, upM (upM M6 47 3 0) (50 + o) t a3) := by
        simp (disch := omega) only [f_X7_setValue, P6t, bd_some, t_lets1, e10, if_false, h2, upM_up, chk_inb, clamp_iN, rv]
      have hT : TG o (upM M6 47 3 0) (upM (upM M6 47 3 0) (50 + o) t a3) := ⟨fun a _ h _ => by funext i; exact upM_ne2 h, fun k _ => by rw [upM_ne2 (by omega)]⟩
      have hR7 : RP (upM (upM M6 47 3 0) (50 + o) t a3) o n b (fun k => if k = t then a3 else M (2 + 3 * o + 2) k) := by
        obtain ⟨g1, g2, g3⟩ := R6
        refine ⟨⟨g1.o, g1.le, by rw [upM_ne2 (by omega)]; exact g1.n, fun k hk => ⟨g1.lt hk, fun j hj => by rw [upM_ne2 (by omega)]; exact g1.b hk hj⟩⟩, fun k hk => ?_, fun k hk j hj => by rw [upM_ne2 (by omega)]; exact g3 k hk j hj⟩
        rw [upM_at]
        dsimp only
        split
        · rfl
        · exact g2 k hk
      exact fin_ok hJ ho (by simp only [f_L_setValue, e6, bd_some, lx]) e7 (TG47 hT) hf6 zcl3 (fun p hp hne => (SO.cd hp).trans (hT.so (by omega) hp hne)) P.1 h6 hv6 (LOW.cd.trans hT.low) hR7
    · have e6 : f_X6_setValue M (iN o) (iN t) a3 = some (.inl eA, M) := by simp only [f_X6_setValue, s_orderWith1 P ho ht, bd_some, cx, kd4 ho, chk_t, h1]
      have e7 : f_X7_setValue M (iN o) (iN t) a3 = some (0, upM M 47 3 2) := by simp only [f_X7_setValue, t_isThing1 P ho ht, bd_some, t_lets1, e10, if_false, h2, t_lets0, if_true, upM_up]
      exact LI_ex (by simp only [f_L_setValue, e6, bd_some, lx, eAI, if_false, if_true]) e7 cd_at h20 (hJ.cd 2)
  · have e6 : f_X6_setValue M a1 a2 a3 = some (.inl eI, M) := by simp only [f_X6_setValue, h1, bd_some, cx]
    have e7 : f_X7_setValue M a1 a2 a3 = some (0, upM M 47 3 1) := by simp only [f_X7_setValue, h2, bd_some, t_lets0, if_true]
    exact LI_ex (by simp only [f_L_setValue, e6, bd_some, lx, if_true]) e7 cd_at h10 (hJ.cd 1)
theorem fr1 {q : Nat} {M M' : Mem} (h : Fr M M' [q + 1]) : Fr M M' [q, q + 1, q + 2] := h.mono (by intro a ha; simp only [List.mem_cons, List.not_mem_nil, or_false] at ha ⊢; omega)
theorem c_6 (hJ : J M) : OKJ (f_law_6 M a1 a2 a3) := by
  show OKJ (LI (f_L_put M a1 a2 a3) (fun M => f_X7_put M a1 a2 a3))
  rcases boc hJ a1 a2 a3 with ⟨o, n, b, u, t, ho, P, hu, ht, rfl, rfl, rfl⟩ | ⟨h1, h2⟩
  · have P7 := P.cd ho 0
    cases hr : ub b t u
    · obtain ⟨⟨r6, M6⟩, x6, hr6, hf6, h6⟩ := s_link P.2.1 hu ht hr
      dsimp only at hr6 hf6 h6
      subst hr6
      have hf6' := hf6
      have hf6 := fr1 hf6
      have e6 : f_X6_put M (iN o) (iN u) (iN t) = some (.inr (iN (S n fun k => pc (lk b u t k)) - iN (S n fun k => pc (b k))), M6) := by
        simp only [f_X6_put, s_orderWithBoth1 P ho hu ht, bd_some, cx, kd4 ho, chk_t, x6]
      have R6' := P.rp.fr hf6 (zrp3 ho)
      have R6 := R6'.cd (x := 0)
      have P6u : f_X7_isThing M6 (iN o) (iN u) = some 1 := by rw [t_isThing R6'.1 ho, decide_eq_true ⟨u, hu, rfl⟩]; rfl
      have P6t : f_X7_isThing M6 (iN o) (iN t) = some 1 := by rw [t_isThing R6'.1 ho, decide_eq_true ⟨t, ht, rfl⟩]; rfl
      have hup : f_X7_isUpTo (upM M6 47 3 0) (iN o) (iN t) (iN u) = some (bI (ub b t u)) := t_isUpTo R6.1 ht hu
      rw [hr] at hup
      obtain ⟨M7, x7, hT7, hR7⟩ := t_putRow R6 ho hu ht hr (fun k hk => lk_lt P.1.2.1 hu hk) (iN (S n fun k => pc (b k)))
      have e7 : f_X7_put M6 (iN o) (iN u) (iN t) = some (iN (S n fun k => pc (lk b u t k)) - iN (S n fun k => pc (b k)), M7) := by
        simp only [f_X7_put, P6u, P6t, bd_some, e10, if_false, f_X7_put_L24, t_lets1, hup, bI_f, if_true, t_pairsOf R6.1, x7]
      exact fin_ok hJ ho (by simp only [f_L_put, e6, bd_some, lx]) e7 (TG47 hT7) hf6 zcl3 (fun p hp hne => (SO.cd hp).trans (hT7.so (by omega) hp hne)) (lk_St P.1 hu ht hr) h6 (w := M (2 + 3 * o + 2)) (fun k _ => by rw [hf6' _ (by simp)]) (LOW.cd.trans hT7.low) hR7
    · have e6 : f_X6_put M (iN o) (iN u) (iN t) = some (.inr (-9), M) := by
        simp only [f_X6_put, s_orderWithBoth1 P ho hu ht, bd_some, cx, kd4 ho, chk_t, s_link_no P.2.1 hu ht hr]
      have hup : f_X7_isUpTo (upM M 47 3 0) (iN o) (iN t) (iN u) = some (bI (ub b t u)) := t_isUpTo P7.2.2.1 ht hu
      rw [hr] at hup
      have e7 : f_X7_put M (iN o) (iN u) (iN t) = some (-9, upM M 47 3 0) := by
        simp only [f_X7_put, t_isThing1 P ho hu, t_isThing1 P ho ht, bd_some, e10, if_false, f_X7_put_L24, t_lets1, hup, bI_t]
      exact LI_ok (by simp only [f_L_put, e6, bd_some, lx]) e7 cd_at (hJ.cd 0)
  · have e6 : f_X6_put M a1 a2 a3 = some (.inl eI, M) := by simp only [f_X6_put, h1, bd_some, cx]
    have e7 : f_X7_put M a1 a2 a3 = some (0, upM M 47 3 1) := by
      rcases h2 with h2 | ⟨h2, h3⟩
      · simp only [f_X7_put, h2, bd_some, if_true, f_X7_put_L23, f_X7_put_L24, t_lets0]
      · simp only [f_X7_put, h2, h3, bd_some, e10, if_false, if_true, f_X7_put_L23, f_X7_put_L24, t_lets0]
    exact LI_ex (by simp only [f_L_put, e6, bd_some, lx, if_true]) e7 cd_at h10 (hJ.cd 1)
theorem t_looseRow {o n u t : Nat} {b : Nat → Nat} {v : Nat → Int32} (h : RP M o n b v) (ho : o < 4) (hu : u < n) (ht : t < n) (hx : (b t).testBit u = true) : RP (upM M (56 + 10 * o + 1 + u) t 0) o n (cu b u t) v := by
  obtain ⟨g1, g2, g3⟩ := h
  have h9 := g1.le
  have hcu : ∀ k < n, cu b u t k < 2 ^ n := fun k hk => by
    unfold cu; split
    · exact minus_lt (g1.lt ht)
    · exact g1.lt hk
  refine ⟨⟨g1.o, h9, by rw [upM_ne2 (by omega)]; exact g1.n, fun k hk => ⟨hcu k hk, fun j hj => ?_⟩⟩, fun k hk => by rw [upM_ne2 (by omega)]; exact g2 k hk, fun k hk j hj => ?_⟩
  · rw [cu_bit (g1.lt ht) hx]
    by_cases e : j = u
    · subst e
      rw [upM_at]
      by_cases e2 : k = t
      · subst e2; simp [bI]
      · rw [if_neg e2, g1.b hk hj]; simp [e2]
    · rw [upM_ne2 (by omega), g1.b hk hj]; simp [e]
  · by_cases e : k = u
    · subst e
      rw [upM_at]
      split
      · rfl
      · exact g3 k hk j hj
    · rw [upM_ne2 (by omega)]; exact g3 k hk j hj
theorem c_7 (hJ : J M) : OKJ (f_law_7 M a1 a2 a3) := by
  show OKJ (LI (f_L_loose M a1 a2 a3) (fun M => f_X7_loose M a1 a2 a3))
  rcases boc hJ a1 a2 a3 with ⟨o, n, b, u, t, ho, P, hu, ht, rfl, rfl, rfl⟩ | ⟨h1, h2⟩
  · have P7 := P.cd ho 0
    have h9 := P.2.1.le
    have hnx := nx_eq (j := u) P.1.2.1 ht
    have hcn := s_isNextBelow P.2.1 hu ht
    rw [hnx] at hcn
    cases hx : nx b n u t
    · rw [hx] at hcn
      have e6 : f_X6_loose M (iN o) (iN u) (iN t) = some (.inr (-9), M) := by
        simp only [f_X6_loose, s_orderWithBoth1 P ho hu ht, bd_some, cx, kd4 ho, chk_t, hcn, bI_f, if_true]
      have e7 : f_X7_loose M (iN o) (iN u) (iN t) = some (-9, upM M 47 3 0) := by
        simp only [f_X7_loose, t_isThing1 P ho hu, t_isThing1 P ho ht, bd_some, e10, if_false, f_X7_loose_L24, t_lets1, t_next P7.2.2.1 hu ht, hx, bI_f, if_true]
      exact LI_ok (by simp only [f_L_loose, e6, bd_some, lx]) e7 cd_at (hJ.cd 0)
    · rw [hx] at hcn
      have hb := (nx_no P.1.2.1 ht hx).1
      obtain ⟨M6, x6, hf6', h6⟩ := s_cut P.2.1 hu ht hb
      have hf6 := fr1 hf6'
      have e6 : f_X6_loose M (iN o) (iN u) (iN t) = some (.inr (iN (S n fun k => pc (cu b u t k))), M6) := by
        simp only [f_X6_loose, s_orderWithBoth1 P ho hu ht, bd_some, cx, kd4 ho, chk_t, hcn, bI_t, e10, if_false, x6, s_pairCount h6]
      have R6' := P.rp.fr hf6 (zrp3 ho)
      have R6 := R6'.cd (x := 0)
      have P6u : f_X7_isThing M6 (iN o) (iN u) = some 1 := by rw [t_isThing R6'.1 ho, decide_eq_true ⟨u, hu, rfl⟩]; rfl
      have P6t : f_X7_isThing M6 (iN o) (iN t) = some 1 := by rw [t_isThing R6'.1 ho, decide_eq_true ⟨t, ht, rfl⟩]; rfl
      have hR7 := t_looseRow R6 ho hu ht hb
      have e7 : f_X7_loose M6 (iN o) (iN u) (iN t) = some (iN (S n fun k => pc (cu b u t k)), upM (upM M6 47 3 0) (56 + 10 * o + 1 + u) t 0) := by
        simp (disch := omega) only [f_X7_loose, P6u, P6t, bd_some, e10, if_false, f_X7_loose_L24, t_lets1, t_next R6.1 hu ht, hx, bI_t, chk_inb, clamp_iN, isb0, chk_t, t_pairsOf hR7.1]
      have hT : TG o (upM M6 47 3 0) (upM (upM M6 47 3 0) (56 + 10 * o + 1 + u) t 0) := ⟨fun a _ _ h => by funext i; exact upM_ne2 (by omega), fun k _ => by rw [upM_ne2 (by omega)]⟩
      exact fin_ok hJ ho (by simp only [f_L_loose, e6, bd_some, lx]) e7 (TG47 hT) hf6 zcl3 (fun p hp hne => (SO.cd hp).trans (hT.so (by omega) hp hne)) (cu_St P.1 hu ht hx) h6 (w := M (2 + 3 * o + 2)) (fun k _ => by rw [hf6' _ (by simp)]) (LOW.cd.trans hT.low) hR7
  · have e6 : f_X6_loose M a1 a2 a3 = some (.inl eI, M) := by simp only [f_X6_loose, h1, bd_some, cx]
    have e7 : f_X7_loose M a1 a2 a3 = some (0, upM M 47 3 1) := by
      rcases h2 with h2 | ⟨h2, h3⟩
      · simp only [f_X7_loose, h2, bd_some, if_true, f_X7_loose_L23, f_X7_loose_L24, t_lets0]
      · simp only [f_X7_loose, h2, h3, bd_some, e10, if_false, if_true, f_X7_loose_L23, f_X7_loose_L24, t_lets0]
    exact LI_ex (by simp only [f_L_loose, e6, bd_some, lx, if_true]) e7 cd_at h10 (hJ.cd 1)
end CC
