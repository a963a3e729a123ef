/-! ===== (4) and (5) of the theorem ===== -/
section JJ
variable {n : Nat} {b : Nat → Nat}
theorem s_coversFit {M : Mem} {q1 : Nat} (hS : St b n) (h : OR M q1 n b) (hd : q1 + 2 < 27 ∨ 46 < q1) : ∃ r, f_X5_coversFit M q1 = some r ∧ (r.1 = 1 ∧ Fr M r.2 [42, 43]) := by
  have h9 := h.le
  have h8 := p2_le h9
  have h7 := Nat.two_pow_pos n
  obtain ⟨⟨r1, M1⟩, e1, hr1, hf1, -⟩ := s_chainCover (q0 := 41) hS h (by omega)
  dsimp only at hr1 hf1
  subst hr1
  have h1 : OR M1 q1 n b := h.fr hf1 (by simp; omega) (by simp; omega)
  have hl : lw b n (2 ^ n - 1) = hh b n := rfl
  unfold f_X5_coversFit
  refine ⟨(1, M1), ?_, rfl, hf1⟩
  simp (disch := omega) only [e1, s_mostApart h1, s_layerCount h1, s_all h1, s_longestWithin h1, ly_hh hS, hl, iN_le, iN_lt, chk_inb, chk_t, clamp_iN, bd_some, iN_add, iN_s, iN_and, iN_or, iN_shl, e10, e01, e00, bI_0, bI_1, bI_t, bI_f, has_iN, bitc, within_iN, mk_or1, xhas_iN, add_z, if_true, if_false, ite_true, ite_false, reduceCtorEq, Bool.false_eq_true, Bool.true_and, Bool.false_and, Bool.and_true, Bool.and_false, Bool.not_true, Bool.not_false]
/-- a thing that can come to a closed set -/
theorem ex_min (hS : St b n) {s : Nat} (d : Nat) : ∀ k < n, pc (b k) < d → s.testBit k = false → ∃ i, i < n ∧ cc b s i = true := by
  induction d with
  | zero => intro k _ h; omega
  | succ d ih =>
    intro k hk hd hb
    rcases Classical.em (∃ j, j < n ∧ (b k).testBit j = true ∧ s.testBit j = false) with ⟨j, hj, h1, h2⟩ | h
    · have := pc_b_lt hS hk hj h1
      exact ih j hj (by omega) h2
    · refine ⟨k, hk, (cc_iff (hS.2.1 k hk) hS.1).mpr ⟨hb, fun j hj h1 => ?_⟩⟩
      cases h2 : s.testBit j
      · exact absurd ⟨j, hj, h1, h2⟩ h
      · rfl
theorem can_grow (hS : St b n) {s : Nat} (hs : s < 2 ^ n) (h : s ≠ 2 ^ n - 1) : ∃ i, i < n ∧ cc b s i = true := by
  rcases Classical.em (∃ k, k < n ∧ s.testBit k = false) with ⟨k, hk, hb⟩ | h1
  · exact ex_min hS 10 k hk (by have := pc_le (b k); omega) hb
  · refine absurd (set_ext hs all_lt (fun k hk => ?_)) h
    rw [all_bit]
    cases hb : s.testBit k
    · exact absurd ⟨k, hk, hb⟩ h1
    · simp [hk]
/-- with all below -/
def fi (b : Nat → Nat) (n a : Nat) : Nat := a ||| un b a n
theorem fi_lt (hb : ∀ k < n, b k < 2 ^ n) {a : Nat} (ha : a < 2 ^ n) : fi b n a < 2 ^ n := or_lt ha (un_lt hb)
theorem fi_bit {a k : Nat} : (fi b n a).testBit k = true ↔ a.testBit k = true ∨ ∃ j, j < n ∧ a.testBit j = true ∧ (b j).testBit k = true := by
  unfold fi
  rw [Nat.testBit_or, Bool.or_eq_true, un_bit]
theorem gr_iff (hb : ∀ k < n, b k < 2 ^ n) (hn : n ≤ 9) {s k : Nat} (hs : s < 2 ^ n) : (gr b n s).testBit k = true ↔ s.testBit k = true ∧ ∀ j < n, s.testBit j = true → (b j).testBit k = false := by
  rw [gr_bit hb hn hs, Bool.and_eq_true, Bool.not_eq_true', ← Bool.not_eq_true, un_bit]
  constructor
  · rintro ⟨h1, h2⟩
    refine ⟨h1, fun j hj h3 => ?_⟩
    cases h4 : (b j).testBit k
    · rfl
    · exact absurd ⟨j, hj, h3, h4⟩ h2
  · rintro ⟨h1, h2⟩
    refine ⟨h1, ?_⟩
    rintro ⟨j, hj, h3, h4⟩
    rw [h2 j hj h3] at h4; cases h4
theorem gr_above (hS : St b n) {s : Nat} (hs : s < 2 ^ n) (d : Nat) : ∀ k < n, 10 < pc (b k) + d → s.testBit k = true → ∃ g, g < n ∧ (gr b n s).testBit g = true ∧ ub b k g = true := by
  induction d with
  | zero => intro k _ h; have := pc_le (b k); omega
  | succ d ih =>
    intro k hk hd hb
    rcases Classical.em (∃ j, j < n ∧ s.testBit j = true ∧ (b j).testBit k = true) with ⟨j, hj, h1, h2⟩ | h
    · have := pc_b_lt hS hj hk h2
      obtain ⟨g, hg, h3, h4⟩ := ih j hj (by omega) h1
      exact ⟨g, hg, h3, ub_trans hS hk hj hg (bit_ub h2) h4⟩
    · refine ⟨k, hk, (gr_iff hS.2.1 hS.1 hs).mpr ⟨hb, fun j hj h1 => ?_⟩, by unfold ub; simp⟩
      cases h2 : (b j).testBit k
      · rfl
      · exact absurd ⟨j, hj, h1, h2⟩ h
theorem fi_gr (hS : St b n) {s : Nat} (hs : s < 2 ^ n) (hc : cl b n s = true) : fi b n (gr b n s) = s := by
  have hcl := (cl_iff hS.2.1 hS.1).mp hc
  refine set_ext (fi_lt hS.2.1 (gr_lt hs)) hs (fun k hk => ?_)
  rw [Bool.eq_iff_iff, fi_bit]
  constructor
  · rintro (h | ⟨j, hj, h1, h2⟩)
    · exact ((gr_iff hS.2.1 hS.1 hs).mp h).1
    · exact hcl j hj ((gr_iff hS.2.1 hS.1 hs).mp h1).1 k hk h2
  · intro h
    obtain ⟨g, hg, h1, h2⟩ := gr_above hS hs 11 k hk (by omega) h
    unfold ub at h2
    rw [Bool.or_eq_true, decide_eq_true_eq] at h2
    rcases h2 with e | h2
    · left; rw [e]; exact h1
    · exact Or.inr ⟨g, hg, h1, h2⟩
theorem gr_ap (hS : St b n) {s : Nat} (hs : s < 2 ^ n) : ap b n (gr b n s) = true := by
  rw [ap_iff hS.2.1]
  intro k hk h1 j hj h2
  exact ((gr_iff hS.2.1 hS.1 hs).mp h2).2 k hk ((gr_iff hS.2.1 hS.1 hs).mp h1).1
theorem fi_cl (hS : St b n) {a : Nat} (ha : a < 2 ^ n) : cl b n (fi b n a) = true := by
  rw [cl_iff hS.2.1 hS.1]
  intro k hk h1 j hj h2
  rw [fi_bit] at h1 ⊢
  rcases h1 with h1 | ⟨i, hi, h3, h4⟩
  · exact Or.inr ⟨k, hk, h1, h2⟩
  · exact Or.inr ⟨i, hi, h3, hS.2.2.2 i hi k hk h4 j hj h2⟩
theorem gr_fi (hS : St b n) {a : Nat} (ha : a < 2 ^ n) (hp : ap b n a = true) : gr b n (fi b n a) = a := by
  have hap := (ap_iff hS.2.1).mp hp
  refine set_ext (gr_lt (fi_lt hS.2.1 ha)) ha (fun k hk => ?_)
  rw [Bool.eq_iff_iff, gr_iff hS.2.1 hS.1 (fi_lt hS.2.1 ha)]
  constructor
  · rintro ⟨h1, h2⟩
    rw [fi_bit] at h1
    rcases h1 with h1 | ⟨j, hj, h3, h4⟩
    · exact h1
    · rw [h2 j hj (fi_bit.mpr (Or.inl h3))] at h4; cases h4
  · intro h1
    refine ⟨fi_bit.mpr (Or.inl h1), fun j hj h2 => ?_⟩
    rcases fi_bit.mp h2 with h3 | ⟨i, hi, h3, h4⟩
    · exact hap j hj h3 k hk h1
    · cases h5 : (b j).testBit k
      · rfl
      · have := hap i hi h3 k hk h1
        rw [hS.2.2.2 i hi j hj h4 k hk h5] at this; cases this
theorem ct_bij {N : Nat} {p q : Nat → Bool} {f g : Nat → Nat} (hf : ∀ s < N, p s = true → f s < N ∧ q (f s) = true ∧ g (f s) = s) (hg : ∀ t < N, q t = true → g t < N ∧ p (g t) = true ∧ f (g t) = t) : ct N p = ct N q := by
  have e1 : ct N p = S N (fun s => S N (fun t => if p s && decide (f s = t) then 1 else 0)) := S_congr (fun s hs => by
    cases hp : p s
    · rw [S_congr (n := N) (g := fun _ => 0) (fun t _ => by simp), S_zero]; rfl
    · obtain ⟨h1, h2, h3⟩ := hf s hs hp
      rw [S_congr (n := N) (g := fun t => if t = f s then 1 else 0) (fun t _ => by
        by_cases e : t = f s
        · simp [e]
        · simp [e, Ne.symm e]), S_one h1 (fun _ => 1)]; rfl)
  rw [e1, S_comm]
  refine S_congr (fun t ht => ?_)
  cases hq : q t
  · rw [S_congr (n := N) (g := fun _ => 0) (fun s hs => ?_), S_zero]
    · rfl
    · cases hp : p s
      · rfl
      · obtain ⟨h1, h2, h3⟩ := hf s hs hp
        have : f s ≠ t := fun e => by rw [e, hq] at h2; cases h2
        simp [this]
  · obtain ⟨h1, h2, h3⟩ := hg t ht hq
    rw [S_congr (n := N) (g := fun s => if s = g t then 1 else 0) (fun s hs => ?_), S_one h1 (fun _ => 1)]
    · rfl
    · by_cases e : s = g t
      · subst e; simp [h2, h3]
      · cases hp : p s
        · simp [e]
        · obtain ⟨h4, h5, h6⟩ := hf s hs hp
          have : f s ≠ t := fun e2 => e (by rw [← e2, h6])
          simp [e, this]
/-- closed sets are as many as sets apart -/
theorem cl_ap (hS : St b n) : ct (2 ^ n) (cl b n) = ct (2 ^ n) (ap b n) :=
  ct_bij (f := gr b n) (g := fi b n) (fun s hs h => ⟨gr_lt hs, gr_ap hS hs, fi_gr hS hs h⟩) (fun t ht h => ⟨fi_lt hS.2.1 ht, fi_cl hS ht, gr_fi hS ht h⟩)
section MM
variable {M : Mem} {q1 : Nat}
theorem s_isReached (hS : St b n) (hT : ∀ t < 2 ^ n, M 34 t = iN (FC b n t)) {s : Nat} (hs : s < 2 ^ n) : f_X4_isReached M 33 (iN s) = some (bI (cl b n s)) := by
  have h9 := hS.1
  have h8 := p2_le h9
  have hle := FC_le (b := b) h9 hs
  have hFC := FC_pos hS hs
  unfold f_X4_isReached
  have e : M (33 + 1) s = iN (FC b n s) := hT s hs
  cases hc : cl b n s
  · have : FC b n s = 0 := by
      rcases Classical.em (FC b n s = 0) with h | h
      · exact h
      · rw [hFC.mp h] at hc; cases hc
    simp (disch := omega) only [e, iN_ne0, this, iN_le, iN_lt, chk_inb, chk_t, clamp_iN, bd_some, iN_add, iN_s, iN_and, iN_or, iN_shl, e10, e01, e00, bI_0, bI_1, bI_t, bI_f, has_iN, bitc, within_iN, mk_or1, xhas_iN, add_z, if_true, if_false, ite_true, ite_false, reduceCtorEq, Bool.false_eq_true, Bool.true_and, Bool.false_and, Bool.and_true, Bool.and_false, Bool.not_true, Bool.not_false]
  · have : FC b n s ≠ 0 := hFC.mpr hc
    simp (disch := omega) only [e, iN_ne0, this, iN_le, iN_lt, chk_inb, chk_t, clamp_iN, bd_some, iN_add, iN_s, iN_and, iN_or, iN_shl, e10, e01, e00, bI_0, bI_1, bI_t, bI_f, has_iN, bitc, within_iN, mk_or1, xhas_iN, add_z, if_true, if_false, ite_true, ite_false, reduceCtorEq, Bool.false_eq_true, Bool.true_and, Bool.false_and, Bool.and_true, Bool.and_false, Bool.not_true, Bool.not_false]
theorem s_closedSetFits (hS : St b n) (h : OR M q1 n b) {s : Nat} (hs : s < 2 ^ n) (hc : cl b n s = true) : f_X5_closedSetFits M q1 (iN s) = some 1 := by
  have h9 := h.le
  have h8 := p2_le h9
  have h7 := Nat.two_pow_pos n
  have key : f_X5_closedSetFits_L16 M q1 (iN s) FU (bI (decide (s = 2 ^ n - 1)), 0) = some 1 := by
    have e0 : (bI (decide (s = 2 ^ n - 1)), (0 : Int32)) = (fun j => (bI (decide (s = 2 ^ n - 1) || !al j (fun i => !cc b s i)), iN j)) 0 := by
      simp only [al, Bool.not_true, Bool.or_false]; rfl
    rw [e0]
    refine lp_for (fun j => (bI (decide (s = 2 ^ n - 1) || !al j (fun i => !cc b s i)), iN j)) n (FU_lt h9) ?_ ?_
    · intro j hj k
      cases hg : (decide (s = 2 ^ n - 1) || !al j (fun i => !cc b s i))
      · have hg2 := hg
        rw [Bool.or_eq_false_iff] at hg2
        have hal : al j (fun i => !cc b s i) = true := by simpa using hg2.2
        cases hcc : cc b s j
        · simp (disch := omega) only [g_X5_closedSetFits_L16, h.n, if_neg (show ¬ n ≤ j by omega), s_canCome h (show s < 512 by omega) hj, hcc, al, hal, hg2.1, Bool.or_false, iN_le, iN_lt, chk_inb, chk_t, clamp_iN, bd_some, iN_add, iN_s, iN_and, iN_or, iN_shl, e10, e01, e00, bI_0, bI_1, bI_t, bI_f, has_iN, bitc, within_iN, mk_or1, xhas_iN, add_z, if_true, if_false, ite_true, ite_false, reduceCtorEq, Bool.false_eq_true, Bool.true_and, Bool.false_and, Bool.and_true, Bool.and_false, Bool.not_true, Bool.not_false]
        · simp (disch := omega) only [g_X5_closedSetFits_L16, h.n, if_neg (show ¬ n ≤ j by omega), s_canCome h (show s < 512 by omega) hj, hcc, al, hal, hg2.1, Bool.or_true, iN_le, iN_lt, chk_inb, chk_t, clamp_iN, bd_some, iN_add, iN_s, iN_and, iN_or, iN_shl, e10, e01, e00, bI_0, bI_1, bI_t, bI_f, has_iN, bitc, within_iN, mk_or1, xhas_iN, add_z, if_true, if_false, ite_true, ite_false, reduceCtorEq, Bool.false_eq_true, Bool.true_and, Bool.false_and, Bool.and_true, Bool.and_false, Bool.not_true, Bool.not_false]
      · have hg2 : (decide (s = 2 ^ n - 1) || !al (j + 1) (fun i => !cc b s i)) = true := by
          rw [Bool.or_eq_true] at hg ⊢
          rcases hg with h1 | h1
          · exact Or.inl h1
          · right
            rw [al]
            have : al j (fun i => !cc b s i) = false := by simpa using h1
            rw [this]; rfl
        simp (disch := omega) only [g_X5_closedSetFits_L16, h.n, if_neg (show ¬ n ≤ j by omega), hg2, iN_le, iN_lt, chk_inb, chk_t, clamp_iN, bd_some, iN_add, iN_s, iN_and, iN_or, iN_shl, e10, e01, e00, bI_0, bI_1, bI_t, bI_f, has_iN, bitc, within_iN, mk_or1, xhas_iN, add_z, if_true, if_false, ite_true, ite_false, reduceCtorEq, Bool.false_eq_true, Bool.true_and, Bool.false_and, Bool.and_true, Bool.and_false, Bool.not_true, Bool.not_false]
    · intro k
      have hg : (decide (s = 2 ^ n - 1) || !al n (fun i => !cc b s i)) = true := by
        by_cases e : s = 2 ^ n - 1
        · simp [e]
        · obtain ⟨i, hi, hcc⟩ := can_grow hS hs e
          have : al n (fun i => !cc b s i) = false := al_f.mpr ⟨i, hi, by rw [hcc]; rfl⟩
          rw [this]; simp
      have hgl := gr_lt (b := b) (n := n) hs
      have hfg : gr b n s ||| un b (gr b n s) n = s := fi_gr hS hs hc
      simp (disch := omega) only [g_X5_closedSetFits_L16, h.n, if_pos (Nat.le_refl n), hg, s_greatestOf h (show s < 512 by omega), s_filledUp h, hfg, iN_le, iN_lt, chk_inb, chk_t, clamp_iN, bd_some, iN_add, iN_s, iN_and, iN_or, iN_shl, e10, e01, e00, bI_0, bI_1, bI_t, bI_f, has_iN, bitc, within_iN, mk_or1, xhas_iN, add_z, if_true, if_false, ite_true, ite_false, reduceCtorEq, Bool.false_eq_true, Bool.true_and, Bool.false_and, Bool.and_true, Bool.and_false, Bool.not_true, Bool.not_false]
  unfold f_X5_closedSetFits
  by_cases e : s = 2 ^ n - 1
  · rw [decide_eq_true e] at key
    have key' : f_X5_closedSetFits_L16 M q1 (iN s) FU (1, 0) = some 1 := key
    have : iN (2 ^ n - 1) = iN s := by rw [e]
    simp (disch := omega) only [s_all h, this, key', iN_le, iN_lt, chk_inb, chk_t, clamp_iN, bd_some, iN_add, iN_s, iN_and, iN_or, iN_shl, e10, e01, e00, bI_0, bI_1, bI_t, bI_f, has_iN, bitc, within_iN, mk_or1, xhas_iN, add_z, if_true, if_false, ite_true, ite_false, reduceCtorEq, Bool.false_eq_true, Bool.true_and, Bool.false_and, Bool.and_true, Bool.and_false, Bool.not_true, Bool.not_false]
  · rw [decide_eq_false e] at key
    have key' : f_X5_closedSetFits_L16 M q1 (iN s) FU (0, 0) = some 1 := key
    have ene : (iN s = iN (2 ^ n - 1)) = False := by rw [iN_eq (by omega) (by omega)]; exact eq_false e
    simp (disch := omega) only [s_all h, ene, key', iN_le, iN_lt, chk_inb, chk_t, clamp_iN, bd_some, iN_add, iN_s, iN_and, iN_or, iN_shl, e10, e01, e00, bI_0, bI_1, bI_t, bI_f, has_iN, bitc, within_iN, mk_or1, xhas_iN, add_z, if_true, if_false, ite_true, ite_false, reduceCtorEq, Bool.false_eq_true, Bool.true_and, Bool.false_and, Bool.and_true, Bool.and_false, Bool.not_true, Bool.not_false]
theorem cl_u (hS : St b n) {s t : Nat} (ht : t < n) (hc : cl b n s = true) : cl b n (s ||| (b t ||| 2 ^ t)) = true := by
  have hcl := (cl_iff hS.2.1 hS.1).mp hc
  rw [cl_iff hS.2.1 hS.1]
  intro k hk h1 j hj h2
  rw [Nat.testBit_or, Nat.testBit_or, pow_bit, Bool.or_eq_true, Bool.or_eq_true, decide_eq_true_eq] at h1 ⊢
  rcases h1 with h1 | h1 | h1
  · exact Or.inl (hcl k hk h1 j hj h2)
  · exact Or.inr (Or.inl (hS.2.2.2 t ht k hk h1 j hj h2))
  · subst h1; exact Or.inr (Or.inl h2)
theorem cl_d (hS : St b n) {s t : Nat} (hs : s < 2 ^ n) (ht : t < n) (hc : cl b n s = true) : cl b n (dif s ((mk n fun k => (b k).testBit t) ||| 2 ^ t)) = true := by
  have hcl := (cl_iff hS.2.1 hS.1).mp hc
  have hs9 : s < 512 := Nat.lt_of_lt_of_le hs (p2_le hS.1)
  rw [cl_iff hS.2.1 hS.1]
  intro k hk h1 j hj h2
  rw [dif_bit hs9, Nat.testBit_or, mk_bit, pow_bit, Bool.and_eq_true, Bool.not_eq_true', Bool.or_eq_false_iff, Bool.and_eq_false_iff, decide_eq_false_iff_not, decide_eq_false_iff_not] at h1 ⊢
  refine ⟨hcl k hk h1.1 j hj h2, Or.inr ?_, fun e => ?_⟩
  · cases h3 : (b j).testBit t
    · rfl
    · rcases h1.2.1 with h4 | h4
      · exact absurd hk h4
      · rw [hS.2.2.2 k hk j hj h2 t ht h3] at h4; cases h4
  · subst e
    rcases h1.2.1 with h4 | h4
    · exact absurd hk h4
    · rw [h2] at h4; cases h4
theorem s_staysClosedBy (hS : St b n) (h : OR M q1 n b) (hT : ∀ t < 2 ^ n, M 34 t = iN (FC b n t)) {t : Nat} (ht : t < n) : f_X5_staysClosedBy M q1 (iN t) = some 1 := by
  have h9 := h.le
  have h8 := p2_le h9
  have h7 := Nat.two_pow_pos n
  have hu : b t ||| 2 ^ t < 2 ^ n := or_lt (hS.2.1 t ht) (pow_lt ht)
  have hv : (mk n fun k => (b k).testBit t) ||| 2 ^ t < 2 ^ n := or_lt (mk_lt n _) (pow_lt ht)
  have key : ∀ u v : Nat, u < 2 ^ n → v < 2 ^ n → (∀ s < 2 ^ n, cl b n s = true → cl b n (s ||| u) = true) → (∀ s < 2 ^ n, cl b n s = true → cl b n (dif s v) = true) → f_X5_staysClosedBy_L25 M q1 (iN u) (iN v) FU 0 = some 1 := by
    intro u v hu hv h1 h2
    refine lp_for (fun j => iN j) (2 ^ n) (FU_lt2 h8) ?_ ?_
    · intro s hs k
      have hs9 : s < 512 := by omega
      cases hc : cl b n s
      · simp (disch := omega) only [g_X5_staysClosedBy_L25, s_setLimit h, if_neg (show ¬ 2 ^ n ≤ s by omega), s_isReached hS hT hs, hc, iN_le, iN_lt, chk_inb, chk_t, clamp_iN, bd_some, iN_add, iN_s, iN_and, iN_or, iN_shl, e10, e01, e00, bI_0, bI_1, bI_t, bI_f, has_iN, bitc, within_iN, mk_or1, xhas_iN, add_z, if_true, if_false, ite_true, ite_false, reduceCtorEq, Bool.false_eq_true, Bool.true_and, Bool.false_and, Bool.and_true, Bool.and_false, Bool.not_true, Bool.not_false]
      · have l1 : s ||| u < 2 ^ n := or_lt hs hu
        have l2 : dif s v < 2 ^ n := Nat.lt_of_le_of_lt Nat.and_le_left hs
        simp (disch := omega) only [g_X5_staysClosedBy_L25, s_setLimit h, if_neg (show ¬ 2 ^ n ≤ s by omega), s_isReached hS hT hs, hc, s_isReached hS hT l1, h1 s hs hc, iN_andn hs9, s_isReached hS hT l2, h2 s hs hc, iN_le, iN_lt, chk_inb, chk_t, clamp_iN, bd_some, iN_add, iN_s, iN_and, iN_or, iN_shl, e10, e01, e00, bI_0, bI_1, bI_t, bI_f, has_iN, bitc, within_iN, mk_or1, xhas_iN, add_z, if_true, if_false, ite_true, ite_false, reduceCtorEq, Bool.false_eq_true, Bool.true_and, Bool.false_and, Bool.and_true, Bool.and_false, Bool.not_true, Bool.not_false]
    · intro k
      simp (disch := omega) only [g_X5_staysClosedBy_L25, s_setLimit h, if_pos (Nat.le_refl (2 ^ n)), iN_le, iN_lt, chk_inb, chk_t, clamp_iN, bd_some, iN_add, iN_s, iN_and, iN_or, iN_shl, e10, e01, e00, bI_0, bI_1, bI_t, bI_f, has_iN, bitc, within_iN, mk_or1, xhas_iN, add_z, if_true, if_false, ite_true, ite_false, reduceCtorEq, Bool.false_eq_true, Bool.true_and, Bool.false_and, Bool.and_true, Bool.and_false, Bool.not_true, Bool.not_false]
  have hab := s_aboveOf h ht
  unfold f_X5_staysClosedBy
  rw [chk_inb (show t < 9 by omega) (by omega), clamp_iN (by omega), h.b ht, iN_shl (by omega), iN_or, bd_some, hab, bd_some, iN_or, bd_some]
  exact key _ _ hu hv (fun s hs hc => cl_u hS ht hc) (fun s hs hc => cl_d hS hs ht hc)
theorem s_closedSetsFit (hS : St b n) (h : OR M q1 n b) (hd : q1 + 2 < 27 ∨ 46 < q1) : ∃ r, f_X5_closedSetsFit M q1 = some r ∧ (r.1 = 1 ∧ Fr M r.2 [34]) := by
  have h9 := h.le
  have h8 := p2_le h9
  obtain ⟨⟨r1, M1⟩, e1, hr1, hf1, hT⟩ := s_rcount' (q := 33) hS h (by omega)
  dsimp only at hr1 hf1 hT
  have h1 : OR M1 q1 n b := h.fr hf1 (by simp; omega) (by simp; omega)
  have e2 : f_X5_closedSetsFit_L59 M1 q1 FU 0 = some (1, M1) := by
    refine lp_for (fun j => iN j) n (FU_lt h9) ?_ ?_
    · intro j hj k
      simp (disch := omega) only [g_X5_closedSetsFit_L59, h1.n, if_neg (show ¬ n ≤ j by omega), s_staysClosedBy hS h1 hT hj, iN_le, iN_lt, chk_inb, chk_t, clamp_iN, bd_some, iN_add, iN_s, iN_and, iN_or, iN_shl, e10, e01, e00, bI_0, bI_1, bI_t, bI_f, has_iN, bitc, within_iN, mk_or1, xhas_iN, add_z, if_true, if_false, ite_true, ite_false, reduceCtorEq, Bool.false_eq_true, Bool.true_and, Bool.false_and, Bool.and_true, Bool.and_false, Bool.not_true, Bool.not_false]
    · intro k
      simp (disch := omega) only [g_X5_closedSetsFit_L59, h1.n, if_pos (Nat.le_refl n), s_count h1, s_apartCount h1, cl_ap hS, iN_le, iN_lt, chk_inb, chk_t, clamp_iN, bd_some, iN_add, iN_s, iN_and, iN_or, iN_shl, e10, e01, e00, bI_0, bI_1, bI_t, bI_f, has_iN, bitc, within_iN, mk_or1, xhas_iN, add_z, if_true, if_false, ite_true, ite_false, reduceCtorEq, Bool.false_eq_true, Bool.true_and, Bool.false_and, Bool.and_true, Bool.and_false, Bool.not_true, Bool.not_false]
  unfold f_X5_closedSetsFit
  rw [e1, bd_some]
  refine ⟨(1, M1), ?_, rfl, hf1⟩
  refine lp_for (fun j => iN j) (2 ^ n) (FU_lt2 h8) ?_ ?_
  · intro s hs k
    cases hc : cl b n s
    · simp (disch := omega) only [g_X5_closedSetsFit_L11, s_setLimit h1, if_neg (show ¬ 2 ^ n ≤ s by omega), s_isClosedBelow h1 (show s < 512 by omega), s_isReached hS hT hs, hc, iN_le, iN_lt, chk_inb, chk_t, clamp_iN, bd_some, iN_add, iN_s, iN_and, iN_or, iN_shl, e10, e01, e00, bI_0, bI_1, bI_t, bI_f, has_iN, bitc, within_iN, mk_or1, xhas_iN, add_z, if_true, if_false, ite_true, ite_false, reduceCtorEq, Bool.false_eq_true, Bool.true_and, Bool.false_and, Bool.and_true, Bool.and_false, Bool.not_true, Bool.not_false]
    · simp (disch := omega) only [g_X5_closedSetsFit_L11, s_setLimit h1, if_neg (show ¬ 2 ^ n ≤ s by omega), s_isClosedBelow h1 (show s < 512 by omega), s_isReached hS hT hs, hc, s_closedSetFits hS h1 hs hc, iN_le, iN_lt, chk_inb, chk_t, clamp_iN, bd_some, iN_add, iN_s, iN_and, iN_or, iN_shl, e10, e01, e00, bI_0, bI_1, bI_t, bI_f, has_iN, bitc, within_iN, mk_or1, xhas_iN, add_z, if_true, if_false, ite_true, ite_false, reduceCtorEq, Bool.false_eq_true, Bool.true_and, Bool.false_and, Bool.and_true, Bool.and_false, Bool.not_true, Bool.not_false]
  · intro k
    simp (disch := omega) only [g_X5_closedSetsFit_L11, s_setLimit h1, if_pos (Nat.le_refl (2 ^ n)), e2, iN_le, iN_lt, chk_inb, chk_t, clamp_iN, bd_some, iN_add, iN_s, iN_and, iN_or, iN_shl, e10, e01, e00, bI_0, bI_1, bI_t, bI_f, has_iN, bitc, within_iN, mk_or1, xhas_iN, add_z, if_true, if_false, ite_true, ite_false, reduceCtorEq, Bool.false_eq_true, Bool.true_and, Bool.false_and, Bool.and_true, Bool.and_false, Bool.not_true, Bool.not_false]
end MM
end JJ
