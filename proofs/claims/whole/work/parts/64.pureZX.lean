/-! ===== orders that change: what the reference makes ===== -/
section SY
variable {M : Mem} {o n s : Nat} {b : Nat → Nat} {v : Nat → Int32}
theorem t_stayRow (hS : St b n) (hs : s < 2 ^ n) (ho : o < 4) (h : RP M o n b v) {f : Nat} (hf : f = 4) (h8 : ∀ i < pc s, M 108 i = iN (ph s i)) (h48 : M 48 f = iN (pc s)) (hisb : ∀ k < 9, ∀ j < 9, isb (M (56 + 10 * f + 1 + k) j) = true) : ∃ M', f_X7_stay_L58 (iN o) (iN (pc s)) FU (0, M) = some M' ∧ ((∃ M1, TG f M M1 ∧ TG o M1 M') ∧ RP M' o (pc s) (rb b s) (fun i => v (ph s i))) := by
  have h9 := h.1.le
  have hp9 := pc_le s
  have e4 : (4 : Int32) = iN f := by rw [hf]; rfl
  let F : Nat → Nat → Int32 := fun x y => bI ((rb b s y).testBit x)
  have hF : ∀ x y, F x y = bI ((rb b s y).testBit x) := fun _ _ => rfl
  clear_value F
  have hph : ∀ i < pc s, ph s i < n := fun i hi => (ph_spec hs h9 hi).1
  have R : RP (wr f (pr (fun _ => 0) (fun _ => pc s) (pc s) 0) F (wv f (fun i => decide (i < pc s)) (fun i => v (ph s i)) M)) f (pc s) (rb b s) (fun i => v (ph s i)) := by
    refine ⟨⟨by omega, hp9, ?_, fun k hk => ⟨mk_lt _ _, fun j hj => ?_⟩⟩, fun k hk => ?_, fun k hk j hj => ?_⟩
    · rw [wr_ne (by omega), wv_ne (by omega)]; exact h48
    · rw [wr_at (by omega), show pr (fun _ => 0) (fun _ => pc s) (pc s) 0 j k = pr (fun _ => 0) (fun _ => pc s) (pc s) ((fun _ => 0) (pc s)) j k from rfl, pr_N, if_pos (by simp; omega), hF]
    · rw [wr_ne (by omega), wv_at, if_pos (decide_eq_true hk)]
    · rw [wr_at hk]
      split
      · rw [hF]; exact isb_bI _
      · rw [wv_ne (by omega)]; exact hisb k hk j hj
  obtain ⟨M', xM', htg, hRP⟩ := t_becomes (o := o) (by omega) R
  refine ⟨M', ?_, ⟨_, TG.wv.trans TG.wr, htg⟩, hRP⟩
  have e0 : M = (fun k => wv f (fun i => decide (i < k)) (fun i => v (ph s i)) M) 0 := wv_0.symm
  have H : lp (g_X7_stay_L58 (iN o) (iN (pc s))) FU (iN 0, (fun k => wv f (fun i => decide (i < k)) (fun i => v (ph s i)) M) 0) = some M' := by
    refine lpW (gi := fun k K => g_X7_stay_L90 (iN o) (iN (pc s)) (iN k) K) f (pc s) (fun _ => 0) (fun _ => pc s) F (fun k => wv f (fun i => decide (i < k)) (fun i => v (ph s i)) M) hp9 (fun _ _ => ⟨by omega, hp9⟩) ?_ ?_ ?_ ?_
    · intro k hk K
      have hk9 := hph k hk
      have r1 : ∀ y, wr f (pr (fun _ => 0) (fun _ => pc s) k 0) F (wv f (fun i => decide (i < k)) (fun i => v (ph s i)) M) 108 y = M 108 y := fun y => by rw [wr_ne (by omega), wv_ne (by omega)]
      have r2 : wr f (pr (fun _ => 0) (fun _ => pc s) k 0) F (wv f (fun i => decide (i < k)) (fun i => v (ph s i)) M) (50 + o) (ph s k) = v (ph s k) := by
        rw [wr_ne (by omega), wv_ne (by omega)]; exact h.2.1 _ hk9
      simp (disch := omega) only [g_X7_stay_L58, e4, iN_le, if_neg (show ¬ pc s ≤ k by omega), chk_inb, clamp_iN, bd_some, r1, h8 k hk, r2]
      rw [wr_upo (by omega), wv_s rfl]; rfl
    · intro k hk j _ hj K k'
      have hk9 := hph k hk
      have hj9 := hph j hj
      have r1 : ∀ y, wr f (pr (fun _ => 0) (fun _ => pc s) k j) F (wv f (fun i => decide (i < k + 1)) (fun i => v (ph s i)) M) 108 y = M 108 y := fun y => by rw [wr_ne (by omega), wv_ne (by omega)]
      have r2 : wr f (pr (fun _ => 0) (fun _ => pc s) k j) F (wv f (fun i => decide (i < k + 1)) (fun i => v (ph s i)) M) (56 + 10 * o + 1 + ph s k) (ph s j) = bI ((rb b s j).testBit k) := by
        rw [wr_ne (by omega), wv_ne (by omega), h.1.b hj9 hk9, rb_bit hk]
      simp (disch := omega) only [g_X7_stay_L90, e4, iN_le, if_neg (show ¬ pc s ≤ j by omega), chk_inb, clamp_iN, bd_some, r1, h8 k hk, h8 j hj, r2, isb_bI, chk_t, iN_s]
      rw [wr_up (by omega) (hF k j).symm, ← pr_s (Nat.zero_le _)]
    · intro k hk K k'
      simp (disch := omega) only [g_X7_stay_L90, iN_le, if_pos (Nat.le_refl (pc s)), iN_s]
    · intro K
      have e5 : f_X7_becomes (wr f (pr (fun _ => 0) (fun _ => pc s) (pc s) 0) F (wv f (fun i => decide (i < pc s)) (fun i => v (ph s i)) M)) (iN o) (iN f) = some M' := xM'
      simp (disch := omega) only [g_X7_stay_L58, e4, iN_le, if_pos (Nat.le_refl (pc s)), e5, bd_some]
  rw [← e0] at H
  exact H
set_option maxRecDepth 100000 in
theorem t_stay (hS : St b n) (hs : s < 2 ^ n) (ho : o < 4) (h : RP M o n b v) : ∃ M', f_X7_stay M (iN o) (iN s) = some M' ∧ (LOW M M' ∧ M' 47 = M 47 ∧ (∀ p < 4, p ≠ o → SO p M M') ∧ RP M' o (pc s) (rb b s) (fun i => v (ph s i))) := by
  have h9 := h.1.le
  have h8 := p2_le h9
  have e4 : (4 : Int32) = iN 4 := rfl
  have hE : TG 4 M (EM 4 (iN 0) M) := EM_tg
  have hem : f_X7_empty M 4 0 = some (EM 4 (iN 0) M) := t_empty (M := M) (o := 4) (by omega) (iN 0)
  have hR1 : RP (EM 4 (iN 0) M) o n b v := h.tg hE (by omega) (by omega) (by omega)
  have hisb1 : ∀ k < 9, ∀ j < 9, isb (EM 4 (iN 0) M (56 + 10 * 4 + 1 + k) j) = true := fun k hk j hj => by rw [EM_b hk hj]; rfl
  have key : ∃ r, f_X7_stay_L11 (iN o) (iN s) FU (0, 0, EM 4 (iN 0) M) = some r ∧ (LOW M r ∧ r 47 = M 47 ∧ (∀ p < 4, p ≠ o → SO p M r) ∧ RP r o (pc s) (rb b s) (fun i => v (ph s i))) := by
    refine lp_to (fun j a => j ≤ n ∧ a.1 = iN (ct j s.testBit) ∧ a.2.1 = iN j ∧ Fr (EM 4 (iN 0) M) a.2.2 [108] ∧ ∀ i < ct j s.testBit, a.2.2 108 i = iN (ph s i)) n (FU_lt h9) ⟨Nat.zero_le _, rfl, rfl, Fr.refl _ _, fun i hi => by cases hi⟩ ?_
    rintro j ⟨a1, a2, Mj⟩ ⟨hj, h1, h2, hf, hv⟩
    dsimp only at h1 h2 hf hv
    subst h1 h2
    have hcj := ct_le (n := j) (p := s.testBit)
    have hRj : RP Mj o n b v := hR1.fr hf (by decide)
    rcases Nat.lt_or_ge j n with hl | hl
    · left
      refine ⟨hl, ?_⟩
      cases hb : s.testBit j
      · refine ⟨(iN (ct (j + 1) s.testBit), iN (j + 1), Mj), ⟨hl, rfl, rfl, hf, by rw [ct_s, hb]; exact hv⟩, fun k => ?_⟩
        simp (disch := omega) only [g_X7_stay_L11, hRj.1.n, if_neg (show ¬ n ≤ j by omega), hb, ct_s, Bool.toNat_false, Nat.add_zero, iN_le, iN_lt, chk_inb, chk_t, clamp_iN, bd_some, iN_add, iN_s, iN_and, iN_or, iN_shl, e10, e01, e00, bI_0, bI_1, bI_t, bI_f, has_iN, bitc, within_iN, mk_or1, xhas_iN, add_z, if_true, if_false, ite_true, ite_false, reduceCtorEq, Bool.false_eq_true, Bool.true_and, Bool.false_and, Bool.and_true, Bool.and_false, Bool.not_true, Bool.not_false]
      · refine ⟨(iN (ct (j + 1) s.testBit), iN (j + 1), upM Mj 108 (ct j s.testBit) (iN j)), ⟨hl, rfl, rfl, hf.trans (Fr.up (by simp)), fun i hi => ?_⟩, fun k => ?_⟩
        · dsimp only
          rw [upM_at]
          rw [ct_s, hb, Bool.toNat_true] at hi
          by_cases e : i = ct j s.testBit
          · rw [if_pos e, e, ph_ct hs h9 hb]
          · rw [if_neg e]; exact hv i (by omega)
        · simp (disch := omega) only [g_X7_stay_L11, hRj.1.n, if_neg (show ¬ n ≤ j by omega), hb, ct_s, Bool.toNat_true, iN_le, iN_lt, chk_inb, chk_t, clamp_iN, bd_some, iN_add, iN_s, iN_and, iN_or, iN_shl, e10, e01, e00, bI_0, bI_1, bI_t, bI_f, has_iN, bitc, within_iN, mk_or1, xhas_iN, add_z, if_true, if_false, ite_true, ite_false, reduceCtorEq, Bool.false_eq_true, Bool.true_and, Bool.false_and, Bool.and_true, Bool.and_false, Bool.not_true, Bool.not_false]
    · right
      have e : j = n := by omega
      subst e
      have hpc : ct j s.testBit = pc s := (pc_ct hs h9).symm
      rw [hpc] at hv
      have hn4 : TG 4 Mj (upM Mj 48 4 (iN (pc s))) := TG.n
      have hR2 : RP (upM Mj 48 4 (iN (pc s))) o j b v := hRj.tg hn4 (by omega) (by omega) (by omega)
      obtain ⟨M', xM', ⟨M1, ht1, ht2⟩, hRP⟩ := t_stayRow hS hs ho hR2 (f := 4) rfl (fun i hi => by rw [upM_ne2 (by omega)]; exact hv i hi) upM_eq (fun k hk i hi => by
        rw [upM_ne2 (by omega), hf _ (by simp only [List.mem_cons, List.not_mem_nil, or_false]; omega)]; exact hisb1 k hk i hi)
      refine ⟨M', ⟨?_, ?_, fun p hp hne => ?_, hRP⟩, fun k => ?_⟩
      · exact (((hE.low.trans (LOW.fr hf (by decide))).trans hn4.low).trans ht1.low).trans ht2.low
      · rw [ht2.1 47 (by omega) (by omega) (by omega), ht1.1 47 (by omega) (by omega) (by omega), hn4.1 47 (by omega) (by omega) (by omega), hf 47 (by simp), hE.1 47 (by omega) (by omega) (by omega)]
      · exact ((((hE.so (by omega) hp (by omega)).trans (SO.fr hp hf (by intro a ha; simp only [List.mem_cons, List.not_mem_nil, or_false] at ha; unfold scr; omega))).trans (hn4.so (by omega) hp (by omega))).trans (ht1.so (by omega) hp (by omega))).trans (ht2.so (by omega) hp hne)
      · simp (disch := omega) only [g_X7_stay_L11, chk_inb, clamp_iN, hRj.1.n, iN_le, if_pos (Nat.le_refl j), e4, bd_some, hpc]
        exact xM'
  obtain ⟨r, hr, hq⟩ := key
  refine ⟨r, ?_, hq⟩
  simp only [f_X7_stay, hem, bd_some, hr]
end SY
section JS
variable {M : Mem} {o1 o2 n1 n2 : Nat} {b1 b2 : Nat → Nat} {v1 v2 : Nat → Int32}
theorem t_joinRow (h1 : RP M o1 n1 b1 v1) (h2 : RP M o2 n2 b2 v2) (ho1 : o1 < 4) (ho2 : o2 < 4) (hn : n1 + n2 ≤ 9) (st : Bool) {f : Nat} (hf : f = 4) (h48 : M 48 f = iN (n1 + n2)) (hisb : ∀ k < 9, ∀ j < 9, isb (M (56 + 10 * f + 1 + k) j) = true) : ∃ M', f_X7_joins_L29 (iN o1) (iN o2) (bI st) (iN n1) (iN n2) FU (0, M) = some M' ∧ (TG f M M' ∧ RP M' f (n1 + n2) (jn b1 n1 b2 n2 st) (fun k => if k < n1 then v1 k else v2 (k - n1))) := by
  have e4 : (4 : Int32) = iN f := by rw [hf]; rfl
  let F : Nat → Nat → Int32 := fun x y => bI ((jn b1 n1 b2 n2 st y).testBit x)
  have hF : ∀ x y, F x y = bI ((jn b1 n1 b2 n2 st y).testBit x) := fun _ _ => rfl
  clear_value F
  let G : Nat → Int32 := fun k => if k < n1 then v1 k else v2 (k - n1)
  have hG : ∀ k, G k = if k < n1 then v1 k else v2 (k - n1) := fun _ => rfl
  clear_value G
  refine ⟨wr f (pr (fun _ => 0) (fun _ => n1 + n2) (n1 + n2) 0) F (wv f (fun i => decide (i < n1 + n2)) G M), ?_, TG.wv.trans TG.wr, ?_⟩
  · have e0 : M = (fun k => wv f (fun i => decide (i < k)) G M) 0 := wv_0.symm
    have H : lp (g_X7_joins_L29 (iN o1) (iN o2) (bI st) (iN n1) (iN n2)) FU (iN 0, (fun k => wv f (fun i => decide (i < k)) G M) 0) = some (wr f (pr (fun _ => 0) (fun _ => n1 + n2) (n1 + n2) 0) F (wv f (fun i => decide (i < n1 + n2)) G M)) := by
      refine lpW (gi := fun k K => g_X7_joins_L82 (iN o1) (iN o2) (bI st) (iN n1) (iN n2) (iN k) K) f (n1 + n2) (fun _ => 0) (fun _ => n1 + n2) F (fun k => wv f (fun i => decide (i < k)) G M) hn (fun _ _ => ⟨by omega, hn⟩) ?_ ?_ ?_ ?_
      · intro k hk K
        by_cases hkn : k < n1
        · have r2 : wr f (pr (fun _ => 0) (fun _ => n1 + n2) k 0) F (wv f (fun i => decide (i < k)) G M) (50 + o1) k = G k := by
            rw [wr_ne (by omega), wv_ne (by omega), hG, if_pos hkn]; exact h1.2.1 _ hkn
          simp (disch := omega) only [g_X7_joins_L29, e4, iN_add, iN_le, if_neg (show ¬ n1 + n2 ≤ k by omega), if_neg (show ¬ n1 ≤ k by omega), chk_inb, clamp_iN, bd_some, r2]
          rw [wr_upo (by omega), wv_s rfl]; rfl
        · have r2 : wr f (pr (fun _ => 0) (fun _ => n1 + n2) k 0) F (wv f (fun i => decide (i < k)) G M) (50 + o2) (k - n1) = G k := by
            rw [wr_ne (by omega), wv_ne (by omega), hG, if_neg hkn]; exact h2.2.1 _ (by omega)
          simp (disch := omega) only [g_X7_joins_L29, e4, iN_add, iN_le, if_neg (show ¬ n1 + n2 ≤ k by omega), if_pos (show n1 ≤ k by omega), iN_sub, chk_inb, clamp_iN, bd_some, r2]
          rw [wr_upo (by omega), wv_s rfl]; rfl
      · intro k hk j _ hj K k'
        have up : ∀ v, v = F k j → upM (wr f (pr (fun _ => 0) (fun _ => n1 + n2) k j) F (wv f (fun i => decide (i < k + 1)) G M)) (56 + 10 * f + 1 + k) j v = wr f (pr (fun _ => 0) (fun _ => n1 + n2) k (j + 1)) F (wv f (fun i => decide (i < k + 1)) G M) := fun v hv => by
          rw [wr_up (by omega) hv, ← pr_s (Nat.zero_le _)]
        by_cases hkn : k < n1
        · by_cases hjn : j < n1
          · have r2 : wr f (pr (fun _ => 0) (fun _ => n1 + n2) k j) F (wv f (fun i => decide (i < k + 1)) G M) (56 + 10 * o1 + 1 + k) j = F k j := by
              rw [wr_ne (by omega), wv_ne (by omega), hF, jb_ll hjn hkn]; exact h1.1.b hjn hkn
            have ris : isb (F k j) = true := by rw [hF]; exact isb_bI _
            simp (disch := omega) only [g_X7_joins_L82, f_X7_joins_L104, f_X7_joins_L116, f_X7_joins_L124, e4, iN_add, iN_le, if_neg (show ¬ n1 + n2 ≤ j by omega), if_neg (show ¬ n1 ≤ k by omega), if_neg (show ¬ n1 ≤ j by omega), if_true, e10, if_false, chk_inb, clamp_iN, bd_some, r2, ris, chk_t, up _ rfl, iN_s]
          · have rF : F k j = bI st := by
              rw [hF, show j = n1 + (j - n1) by omega, jb_hl hkn]
            cases st
            · have rF0 : (0 : Int32) = F k j := rF.symm
              simp (disch := omega) only [g_X7_joins_L82, f_X7_joins_L104, f_X7_joins_L116, f_X7_joins_L124, e4, iN_add, iN_le, if_neg (show ¬ n1 + n2 ≤ j by omega), if_neg (show ¬ n1 ≤ k by omega), if_pos (show n1 ≤ j by omega), e10, e01, if_false, if_true, bI_f, chk_inb, clamp_iN, bd_some, isb0, chk_t, up 0 rF0, iN_s]
            · have rF1 : (1 : Int32) = F k j := rF.symm
              simp (disch := omega) only [g_X7_joins_L82, f_X7_joins_L104, f_X7_joins_L116, f_X7_joins_L124, e4, iN_add, iN_le, if_neg (show ¬ n1 + n2 ≤ j by omega), if_neg (show ¬ n1 ≤ k by omega), if_pos (show n1 ≤ j by omega), e10, e01, if_false, if_true, bI_t, chk_inb, clamp_iN, bd_some, isb1, chk_t, up 1 rF1, iN_s]
        · by_cases hjn : j < n1
          · have rF0 : (0 : Int32) = F k j := by
              rw [hF, show k = n1 + (k - n1) by omega, jb_lh hjn (by omega)]; rfl
            cases st
            · simp (disch := omega) only [g_X7_joins_L82, f_X7_joins_L104, f_X7_joins_L116, f_X7_joins_L124, e4, iN_add, iN_le, if_neg (show ¬ n1 + n2 ≤ j by omega), if_pos (show n1 ≤ k by omega), if_neg (show ¬ n1 ≤ j by omega), e10, e01, if_false, if_true, bI_f, chk_inb, clamp_iN, bd_some, isb0, chk_t, up 0 rF0, iN_s]
            · simp (disch := omega) only [g_X7_joins_L82, f_X7_joins_L104, f_X7_joins_L116, f_X7_joins_L124, e4, iN_add, iN_le, if_neg (show ¬ n1 + n2 ≤ j by omega), if_pos (show n1 ≤ k by omega), if_neg (show ¬ n1 ≤ j by omega), e10, e01, if_false, if_true, bI_t, chk_inb, clamp_iN, bd_some, isb0, chk_t, up 0 rF0, iN_s]
          · have r2 : wr f (pr (fun _ => 0) (fun _ => n1 + n2) k j) F (wv f (fun i => decide (i < k + 1)) G M) (56 + 10 * o2 + 1 + (k - n1)) (j - n1) = F k j := by
              have eF : F k j = bI ((b2 (j - n1)).testBit (k - n1)) := by
                have := jb_hh (b1 := b1) (n1 := n1) (b2 := b2) (n2 := n2) (st := st) (k := j - n1) (j := k - n1) (by omega)
                rw [hF, ← this, show n1 + (j - n1) = j by omega, show n1 + (k - n1) = k by omega]
              rw [wr_ne (by omega), wv_ne (by omega), eF]; exact h2.1.b (by omega) (by omega)
            have ris : isb (F k j) = true := by rw [hF]; exact isb_bI _
            simp (disch := omega) only [g_X7_joins_L82, f_X7_joins_L104, f_X7_joins_L116, f_X7_joins_L124, e4, iN_add, iN_le, if_neg (show ¬ n1 + n2 ≤ j by omega), if_pos (show n1 ≤ k by omega), if_pos (show n1 ≤ j by omega), if_true, e10, if_false, iN_sub, chk_inb, clamp_iN, bd_some, r2, ris, chk_t, up _ rfl, iN_s]
      · intro k hk K k'
        simp (disch := omega) only [g_X7_joins_L82, iN_add, iN_le, if_pos (Nat.le_refl (n1 + n2)), iN_s]
      · intro K
        simp (disch := omega) only [g_X7_joins_L29, iN_add, iN_le, if_pos (Nat.le_refl (n1 + n2))]
    rw [← e0] at H
    exact H
  · refine ⟨⟨by omega, hn, ?_, fun k hk => ⟨jn_lt k, fun j hj => ?_⟩⟩, fun k hk => ?_, fun k hk j hj => ?_⟩
    · rw [wr_ne (by omega), wv_ne (by omega)]; exact h48
    · rw [wr_at (by omega), show pr (fun _ => 0) (fun _ => n1 + n2) (n1 + n2) 0 j k = pr (fun _ => 0) (fun _ => n1 + n2) (n1 + n2) ((fun _ => 0) (n1 + n2)) j k from rfl, pr_N, if_pos (by simp; omega), hF]
    · rw [wr_ne (by omega), wv_at, if_pos (decide_eq_true hk), hG]
    · rw [wr_at hk]
      split
      · rw [hF]; exact isb_bI _
      · rw [wv_ne (by omega)]; exact hisb k hk j hj
theorem t_joins (h1 : RP M o1 n1 b1 v1) (h2 : RP M o2 n2 b2 v2) (ho1 : o1 < 4) (ho2 : o2 < 4) (hn : n1 + n2 ≤ 9) (st : Bool) : ∃ M', f_X7_joins M (iN o1) (iN o2) (bI st) = some M' ∧ (TG 4 M M' ∧ RP M' 4 (n1 + n2) (jn b1 n1 b2 n2 st) (fun k => if k < n1 then v1 k else v2 (k - n1))) := by
  have hE : TG 4 M (EM 4 (iN (n1 + n2)) M) := EM_tg
  have hem : f_X7_empty M 4 (iN (n1 + n2)) = some (EM 4 (iN (n1 + n2)) M) := t_empty (M := M) (o := 4) (by omega) (iN (n1 + n2))
  obtain ⟨M', xM', ht, hR⟩ := t_joinRow (h1.tg hE (by omega) (by omega) (by omega)) (h2.tg hE (by omega) (by omega) (by omega)) ho1 ho2 hn st (f := 4) rfl EM_n (fun k hk j hj => by rw [EM_b hk hj]; rfl)
  refine ⟨M', ?_, hE.trans ht, hR⟩
  simp (disch := omega) only [f_X7_joins, chk_inb, clamp_iN, bd_some, h1.1.n, h2.1.n, iN_add, hem, xM']
end JS
