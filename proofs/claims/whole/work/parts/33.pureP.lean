/-! ===== (3) of the theorem ===== -/
section II
variable {n : Nat} {b : Nat → Nat}
/-- rows with u ahead of t -/
def WI (b : Nat → Nat) (n u t : Nat) : Nat := S (2 ^ n) (fun s => if s.testBit u then wt b n s t else 0)
theorem BW_f1u {u t s d : Nat} (hs : s < 2 ^ n) (hu : s.testBit u = true) : BW (cf b (f1 u t)) n d s = BW (cc b) n d s := by
  have hw0 := cf_W0 (b := b) (f1 u t)
  refine BW_cong (fun s => s < 2 ^ n ∧ s.testBit u = true) ?_ ?_ ⟨hs, hu⟩
  · rintro s k hk ⟨h1, h2⟩ hc
    have hb := hw0 s k hc
    exact ⟨plus_lt h1 hk hb, by rw [plus_bit h1 hk hb, h2]; rfl⟩
  · rintro s k hk ⟨h1, h2⟩
    unfold cf f1
    rw [h2]; simp
theorem BW_f1t {u t s d : Nat} (hs : s < 2 ^ n) (ht : s.testBit t = true) : BW (cf b (f1 u t)) n d s = BW (cc b) n d s := by
  have hw0 := cf_W0 (b := b) (f1 u t)
  refine BW_cong (fun s => s < 2 ^ n ∧ s.testBit t = true) ?_ ?_ ⟨hs, ht⟩
  · rintro s k hk ⟨h1, h2⟩ hc
    have hb := hw0 s k hc
    exact ⟨plus_lt h1 hk hb, by rw [plus_bit h1 hk hb, h2]; rfl⟩
  · rintro s k hk ⟨h1, h2⟩
    unfold cf f1
    cases hc : cc b s k
    · rfl
    · have hb := cc_W0 b s k hc
      have : k ≠ t := fun e => by rw [e, h2] at hb; cases hb
      simp [this]
theorem BW_both (hn : n ≤ 9) {u t : Nat} (hu : u < n) (ht : t < n) (hut : u ≠ t) (d : Nat) : ∀ s, s < 2 ^ n → pc s + d = n → s.testBit u = false → s.testBit t = false → BW (cf b (f1 u t)) n d s + BW (cf b (f1 t u)) n d s = BW (cc b) n d s := by
  induction d with
  | zero =>
    intro s hs hp h1 _
    have := (pc_n hs hn).mp (by omega)
    rw [this, all_bit] at h1
    simp [hu] at h1
  | succ d ih =>
    intro s hs hp h1 h2
    rw [BW, BW, BW, ← S_add]
    refine S_congr (fun k hk => ?_)
    have e1 : cf b (f1 u t) s k = (cc b s k && (!decide (k = t) || s.testBit u)) := rfl
    have e2 : cf b (f1 t u) s k = (cc b s k && (!decide (k = u) || s.testBit t)) := rfl
    rw [e1, e2]
    cases hc : cc b s k
    · rfl
    · have hb := cc_W0 b s k hc
      have hlt := plus_lt hs hk hb
      have hpl := plus_pc hs hn hk hb
      by_cases k1 : k = t
      · subst k1
        have := BW_f1u (b := b) (u := k) (t := u) (d := d) hlt (by rw [plus_bit hs hk hb]; simp)
        simp [h1, Ne.symm hut, this]
      · by_cases k2 : k = u
        · subst k2
          have := BW_f1u (b := b) (u := k) (t := t) (d := d) hlt (by rw [plus_bit hs hk hb]; simp)
          simp [h2, hut, this]
        · have := ih (s + 2 ^ k) hlt (by omega) (by rw [plus_bit hs hk hb, h1]; simp [Ne.symm k2]) (by rw [plus_bit hs hk hb, h2]; simp [Ne.symm k1])
          simp [k1, k2, this]
theorem RW_BW : RW b n = BW (cc b) n n 0 := rfl
theorem WI_both (hn : n ≤ 9) {u t : Nat} (hu : u < n) (ht : t < n) (hut : u ≠ t) : WI b n u t + WI b n t u = RW b n := by
  have := BW_both (b := b) hn hu ht hut n 0 (Nat.two_pow_pos n) (by show 0 + n = n; omega) (by simp) (by simp)
  rw [with_eq hn hu ht, with_eq hn ht hu] at this
  exact this
theorem WI_0 (hS : St b n) {u t : Nat} (hu : u < n) (ht : t < n) (h : (b u).testBit t = true) : WI b n u t = 0 := by
  refine S_0.mpr (fun s hs => ?_)
  cases hsu : s.testBit u
  · rfl
  · simp only [if_true]
    unfold wt
    cases hc : cc b s t
    · rfl
    · have hb := cc_W0 b s t hc
      simp only [if_true]
      rcases Classical.em (FC b n s = 0) with h0 | h0
      · rw [h0, Nat.zero_mul]
      · have hcl := (cl_iff hS.2.1 hS.1).mp ((FC_pos hS hs).mp h0) u hu hsu t ht h
        rw [hb] at hcl; cases hcl
/-- rows of the order behind a put() -/
theorem RW_lk (hS : St b n) {u t : Nat} (hu : u < n) (ht : t < n) (hr : ub b t u = false) : RW (lk b u t) n = WI b n u t := by
  have hn := hS.1
  have hw0 := cc_W0 (lk b u t)
  have hlk : ∀ k, k < n → lk b u t k < 2 ^ n := fun k hk => lk_lt hS.2.1 hu hk
  unfold WI
  rw [RW_BW, ← with_eq hn hu ht]
  have hw : ∀ s k, k < n → (s < 2 ^ n ∧ cl b n s = true ∧ (s.testBit t = true → s.testBit u = true)) → cc (lk b u t) s k = cf b (f1 u t) s k := by
    rintro s k hk ⟨h1, h2, h3⟩
    have hcl := (cl_iff hS.2.1 hn).mp h2
    have e1 : cf b (f1 u t) s k = (cc b s k && (!decide (k = t) || s.testBit u)) := rfl
    rw [e1, Bool.eq_iff_iff, Bool.and_eq_true, cc_iff (hlk k hk) hn, cc_iff (hS.2.1 k hk) hn]
    constructor
    · rintro ⟨h4, h5⟩
      refine ⟨⟨h4, fun j hj hb => h5 j hj (by rw [lk_bit, hb]; rfl)⟩, ?_⟩
      by_cases e : k = t
      · have := h5 u hu (by rw [lk_bit, e]; unfold ub; simp)
        rw [this]; simp
      · simp [e]
    · rintro ⟨⟨h4, h5⟩, h6⟩
      refine ⟨h4, fun j hj hb => ?_⟩
      rw [lk_bit, Bool.or_eq_true, Bool.and_eq_true] at hb
      rcases hb with hb | ⟨hb1, hb2⟩
      · exact h5 j hj hb
      · have hsu : s.testBit u = true := by
          unfold ub at hb1
          rw [Bool.or_eq_true, decide_eq_true_eq] at hb1
          rcases hb1 with e | hb1
          · simpa [e] using h6
          · exact h3 (h5 t ht hb1)
        unfold ub at hb2
        rw [Bool.or_eq_true, decide_eq_true_eq] at hb2
        rcases hb2 with e | hb2
        · rw [e]; exact hsu
        · exact hcl u hu hsu j hj hb2
  refine BW_cong (fun s => s < 2 ^ n ∧ cl b n s = true ∧ (s.testBit t = true → s.testBit u = true)) (fun s k hk hP hc => ?_) hw ⟨Nat.two_pow_pos n, cl_0 hS.2.1 hn, fun h => by simp at h⟩
  have hb := hw0 s k hc
  have hcf := hw s k hk hP
  rw [hc] at hcf
  obtain ⟨h1, h2, h3⟩ := hP
  have e1 : cf b (f1 u t) s k = (cc b s k && (!decide (k = t) || s.testBit u)) := rfl
  rw [e1] at hcf
  have hcf := hcf.symm
  rw [Bool.and_eq_true] at hcf
  refine ⟨plus_lt h1 hk hb, cl_plus hS.2.1 hn h1 hk h2 hcf.1, fun h4 => ?_⟩
  rw [plus_bit h1 hk hb] at h4 ⊢
  rw [Bool.or_eq_true] at h4 ⊢
  rcases h4 with h4 | h4
  · exact Or.inl (h3 h4)
  · have e : t = k := of_decide_eq_true h4
    left
    simpa [e] using hcf.2
theorem WI_pos (hS : St b n) {u t : Nat} (hu : u < n) (ht : t < n) (h1 : ub b t u = false) (h2 : ub b u t = false) : 0 < WI b n u t ∧ WI b n u t < RW b n := by
  have e1 := RW_lk hS hu ht h1
  have e2 := RW_lk hS ht hu h2
  have p1 := RW_pos (lk_St hS hu ht h1)
  have p2 := RW_pos (lk_St hS ht hu h2)
  have hut : u ≠ t := fun e => by unfold ub at h1; simp [e] at h1
  have := WI_both (b := b) hS.1 hu ht hut
  omega
theorem s_rowsTellPair {M : Mem} {q1 : Nat} (hS : St b n) (h : OR M q1 n b) (hd : q1 + 2 < 27 ∨ 41 < q1) (hF : RF M 33 n b) {u t : Nat} (hu : u < n) (ht : t < n) (hut : u ≠ t) : ∃ r, f_X5_rowsTellPair M q1 (iN u) (iN t) (iN (RW b n)) = some r ∧ (r.1 = 1 ∧ Fr M r.2 [27, 28, 29, 38]) := by
  have h9 := h.le
  have hle := RW_le (b := b) h9
  have hca : f_X4_countAhead M 33 q1 (iN u) (iN t) = some (iN (WI b n u t)) := s_countAhead' hS h hF hu ht
  have hbo := WI_both (b := b) h9 hu ht hut
  unfold f_X5_rowsTellPair
  cases h1 : (b u).testBit t
  · cases h2 : (b t).testBit u
    · have u1 : ub b t u = false := by unfold ub; simp [h1, Ne.symm hut]
      have u2 : ub b u t = false := by unfold ub; simp [h2, hut]
      obtain ⟨p1, p2⟩ := WI_pos hS hu ht u1 u2
      obtain ⟨M1, e1, hf1, hn1, hv1⟩ := s_become (M := M) (q0 := 27) (q1 := q1) (by unfold dj; omega)
      have ho1 : OR M1 27 n b := h.of hn1 (fun k hk => (hv1 k (by omega)).1)
      obtain ⟨⟨r2, M2⟩, e2, hr2, hf2, ho2⟩ := s_link ho1 hu ht u1
      dsimp only at hr2 hf2 ho2
      obtain ⟨⟨r3, M3⟩, e3, hr3, hf3, -⟩ := s_rcount' (q := 37) (lk_St hS hu ht u1) ho2 (by omega)
      dsimp only at hr3 hf3
      rw [RW_lk hS hu ht u1] at hr3
      subst hr3
      refine ⟨(1, M3), ?_, rfl, ((hf1.mono (by simp)).trans (hf2.mono (by simp))).trans (hf3.mono (by simp))⟩
      have c1 : (iN (WI b n u t) ≤ 0) = False := by rw [iN_0, iN_le (by omega) (by decide)]; simp; omega
      have c2 : (iN (RW b n) ≤ iN (WI b n u t)) = False := by rw [iN_le (by omega) (by omega)]; simp; omega
      simp (disch := omega) only [hca, s_isBelow h, h1, h2, e1, e2, c1, c2, e3, iN_le, iN_lt, chk_inb, chk_t, clamp_iN, bd_some, iN_add, iN_s, iN_and, iN_or, iN_shl, e10, e01, e00, bI_0, bI_1, bI_t, bI_f, has_iN, bitc, within_iN, mk_or1, xhas_iN, add_z, if_true, if_false, ite_true, ite_false, reduceCtorEq, Bool.false_eq_true, Bool.true_and, Bool.false_and, Bool.and_true, Bool.and_false, Bool.not_true, Bool.not_false]
    · have hz := WI_0 hS ht hu h2
      have : WI b n u t = RW b n := by omega
      refine ⟨(1, M), ?_, rfl, Fr.refl _ _⟩
      simp (disch := omega) only [hca, s_isBelow h, h1, h2, this, iN_le, iN_lt, chk_inb, chk_t, clamp_iN, bd_some, iN_add, iN_s, iN_and, iN_or, iN_shl, e10, e01, e00, bI_0, bI_1, bI_t, bI_f, has_iN, bitc, within_iN, mk_or1, xhas_iN, add_z, if_true, if_false, ite_true, ite_false, reduceCtorEq, Bool.false_eq_true, Bool.true_and, Bool.false_and, Bool.and_true, Bool.and_false, Bool.not_true, Bool.not_false]
  · have hz := WI_0 hS hu ht h1
    refine ⟨(1, M), ?_, rfl, Fr.refl _ _⟩
    have c0 : iN 0 = (0 : Int32) := rfl
    simp (disch := omega) only [hca, s_isBelow h, h1, hz, c0, iN_le, iN_lt, chk_inb, chk_t, clamp_iN, bd_some, iN_add, iN_s, iN_and, iN_or, iN_shl, e10, e01, e00, bI_0, bI_1, bI_t, bI_f, has_iN, bitc, within_iN, mk_or1, xhas_iN, add_z, if_true, if_false, ite_true, ite_false, reduceCtorEq, Bool.false_eq_true, Bool.true_and, Bool.false_and, Bool.and_true, Bool.and_false, Bool.not_true, Bool.not_false]
theorem s_rowsTellPairs {M : Mem} {q1 : Nat} (hS : St b n) (h : OR M q1 n b) (hd : q1 + 2 < 27 ∨ 41 < q1) : ∃ r, f_X5_rowsTellPairs M q1 = some r ∧ (r.1 = 1 ∧ Fr M r.2 [27, 28, 29, 34, 35, 38]) := by
  have h9 := h.le
  have hq0 : q1 ∉ [27, 28, 29, 34, 35, 38] := by simp only [List.mem_cons, List.not_mem_nil, or_false, not_or]; omega
  have hq1 : q1 + 1 ∉ [27, 28, 29, 34, 35, 38] := by simp only [List.mem_cons, List.not_mem_nil, or_false, not_or]; omega
  obtain ⟨⟨r1, M1⟩, e1, hr1, hf1, hF1⟩ := s_fill (q := 33) hS h (by omega)
  dsimp only at hr1 hf1 hF1
  subst hr1
  unfold f_X5_rowsTellPairs
  rw [e1, bd_some]
  dsimp only
  refine lp_to (fun l a => l ≤ n ∧ a.1 = iN l ∧ Fr M a.2 [27, 28, 29, 34, 35, 38] ∧ RF a.2 33 n b) n (FU_lt h9) ⟨by omega, rfl, hf1.mono (by simp), hF1⟩ ?_
  rintro l ⟨a, M2⟩ ⟨hl, h0, hf, hF⟩
  dsimp only at h0 hf hF
  subst h0
  have h2 := h.fr hf hq0 hq1
  rcases Nat.lt_or_ge l n with hl1 | hl1
  · left
    refine ⟨hl1, ?_⟩
    have key : ∃ z : Int32 × Mem, (z.1 = iN (l + 1) ∧ Fr M z.2 [27, 28, 29, 34, 35, 38] ∧ RF z.2 33 n b) ∧ ∀ K, lp (g_X5_rowsTellPairs_L22 q1 (iN (RW b n)) (iN l) K) FU (0, M2) = K z := by
      refine lp_cps (G := fun K => g_X5_rowsTellPairs_L22 q1 (iN (RW b n)) (iN l) K) (fun j a => j ≤ n ∧ a.1 = iN j ∧ Fr M a.2 [27, 28, 29, 34, 35, 38] ∧ RF a.2 33 n b) n (FU_lt h9) ⟨by omega, rfl, hf, hF⟩ ?_
      rintro j ⟨a, M3⟩ ⟨hj, h0, hf3, hF3⟩
      dsimp only at h0 hf3 hF3
      subst h0
      have h3 := h.fr hf3 hq0 hq1
      rcases Nat.lt_or_ge j n with hl2 | hl2
      · left
        refine ⟨hl2, ?_⟩
        by_cases e : l = j
        · refine ⟨(iN (j + 1), M3), ⟨by omega, rfl, hf3, hF3⟩, fun K k => ?_⟩
          subst e
          simp (disch := omega) only [g_X5_rowsTellPairs_L22, h3.n, if_neg (show ¬ n ≤ l by omega), iN_le, iN_lt, chk_inb, chk_t, clamp_iN, bd_some, iN_add, iN_s, iN_and, iN_or, iN_shl, e10, e01, e00, bI_0, bI_1, bI_t, bI_f, has_iN, bitc, within_iN, mk_or1, xhas_iN, add_z, if_true, if_false, ite_true, ite_false, reduceCtorEq, Bool.false_eq_true, Bool.true_and, Bool.false_and, Bool.and_true, Bool.and_false, Bool.not_true, Bool.not_false]
        · obtain ⟨⟨r4, M4⟩, e4, hr4, hf4⟩ := s_rowsTellPair hS h3 hd hF3 hl1 hl2 e
          dsimp only at hr4 hf4
          subst hr4
          have ene : (iN l = iN j) = False := by rw [iN_eq (by omega) (by omega)]; exact eq_false e
          refine ⟨(iN (j + 1), M4), ⟨by omega, rfl, hf3.trans (hf4.mono (by simp)), hF3.same (hf4 _ (by simp)) (hf4 _ (by simp))⟩, fun K k => ?_⟩
          simp (disch := omega) only [g_X5_rowsTellPairs_L22, h3.n, if_neg (show ¬ n ≤ j by omega), ene, e4, iN_le, iN_lt, chk_inb, chk_t, clamp_iN, bd_some, iN_add, iN_s, iN_and, iN_or, iN_shl, e10, e01, e00, bI_0, bI_1, bI_t, bI_f, has_iN, bitc, within_iN, mk_or1, xhas_iN, add_z, if_true, if_false, ite_true, ite_false, reduceCtorEq, Bool.false_eq_true, Bool.true_and, Bool.false_and, Bool.and_true, Bool.and_false, Bool.not_true, Bool.not_false]
      · right
        refine ⟨(iN (l + 1), M3), ⟨rfl, hf3, hF3⟩, fun K k => ?_⟩
        simp (disch := omega) only [g_X5_rowsTellPairs_L22, h3.n, if_pos hl2, iN_le, iN_lt, chk_inb, chk_t, clamp_iN, bd_some, iN_add, iN_s, iN_and, iN_or, iN_shl, e10, e01, e00, bI_0, bI_1, bI_t, bI_f, has_iN, bitc, within_iN, mk_or1, xhas_iN, add_z, if_true, if_false, ite_true, ite_false, reduceCtorEq, Bool.false_eq_true, Bool.true_and, Bool.false_and, Bool.and_true, Bool.and_false, Bool.not_true, Bool.not_false]
    obtain ⟨⟨z1, M3⟩, ⟨hz1, hz2, hz3⟩, hk⟩ := key
    dsimp only at hz1 hz2 hz3
    subst hz1
    refine ⟨(iN (l + 1), M3), ⟨hl1, rfl, hz2, hz3⟩, fun k => ?_⟩
    have hk' : ∀ K, f_X5_rowsTellPairs_L22 q1 (iN (RW b n)) (iN l) K FU (0, M2) = K (iN (l + 1), M3) := hk
    simp (disch := omega) only [g_X5_rowsTellPairs_L11, h2.n, if_neg (show ¬ n ≤ l by omega), hk', iN_le, iN_lt, chk_inb, chk_t, clamp_iN, bd_some, iN_add, iN_s, iN_and, iN_or, iN_shl, e10, e01, e00, bI_0, bI_1, bI_t, bI_f, has_iN, bitc, within_iN, mk_or1, xhas_iN, add_z, if_true, if_false, ite_true, ite_false, reduceCtorEq, Bool.false_eq_true, Bool.true_and, Bool.false_and, Bool.and_true, Bool.and_false, Bool.not_true, Bool.not_false]
  · right
    refine ⟨(1, M2), ⟨rfl, hf⟩, fun k => ?_⟩
    simp (disch := omega) only [g_X5_rowsTellPairs_L11, h2.n, if_pos hl1, iN_le, iN_lt, chk_inb, chk_t, clamp_iN, bd_some, iN_add, iN_s, iN_and, iN_or, iN_shl, e10, e01, e00, bI_0, bI_1, bI_t, bI_f, has_iN, bitc, within_iN, mk_or1, xhas_iN, add_z, if_true, if_false, ite_true, ite_false, reduceCtorEq, Bool.false_eq_true, Bool.true_and, Bool.false_and, Bool.and_true, Bool.and_false, Bool.not_true, Bool.not_false]
end II
