/-! ===== (1) of the theorem; things that go ===== -/
section RT
variable {M : Mem} {q q0 q1 n : Nat} {b : Nat → Nat}
theorem nm3 {a x : Nat} (h : a < x ∨ x + 2 < a) : a ∉ [x, x + 1, x + 2] := by
  simp only [List.mem_cons, List.not_mem_nil, or_false, not_or]; omega
theorem OR.fr {M' : Mem} {c : List Nat} (h : OR M q n b) (hf : Fr M M' c) (h0 : q ∉ c) (h1 : q + 1 ∉ c) : OR M' q n b := h.same (hf q h0) (hf (q + 1) h1)
theorem s_linksLeast (hS : St b n) (h : OR M q1 n b) (hd : dj 27 q1) : ∃ r, f_X5_linksLeast M q1 = some r ∧ (r.1 = 1 ∧ Fr M r.2 [27, 28, 29]) := by
  have h9 := h.le
  have hd' := hd
  unfold dj at hd'
  have hq0 : q1 ∉ [27, 28, 29] := by simp only [List.mem_cons, List.not_mem_nil, or_false, not_or]; omega
  have hq1 : q1 + 1 ∉ [27, 28, 29] := by simp only [List.mem_cons, List.not_mem_nil, or_false, not_or]; omega
  refine lp_to (fun l a => l ≤ n ∧ a.1 = iN l ∧ Fr M a.2 [27, 28, 29]) n (FU_lt h9) ⟨by omega, rfl, Fr.refl _ _⟩ ?_
  rintro l ⟨a, M1⟩ ⟨hl, h0, hf⟩
  dsimp only at h0 hf
  subst h0
  have h1 := h.fr hf hq0 hq1
  rcases Nat.lt_or_ge l n with hl1 | hl1
  · left
    refine ⟨hl1, ?_⟩
    have key : ∃ z : Int32 × Mem, (z.1 = iN (l + 1) ∧ Fr M z.2 [27, 28, 29]) ∧ ∀ K, lp (g_X5_linksLeast_L12 q1 (iN l) K) FU (0, M1) = K z := by
      refine lp_cps (G := fun K => g_X5_linksLeast_L12 q1 (iN l) K) (fun j a => j ≤ n ∧ a.1 = iN j ∧ Fr M a.2 [27, 28, 29]) n (FU_lt h9) ⟨by omega, rfl, hf⟩ ?_
      rintro j ⟨a, M2⟩ ⟨hj, h0, hf2⟩
      dsimp only at h0 hf2
      subst h0
      have h2 := h.fr hf2 hq0 hq1
      rcases Nat.lt_or_ge j n with hl2 | hl2
      · left
        obtain ⟨⟨r1, M3⟩, e3, hr3, hf3⟩ := s_linksLeast1 hS h2 hd hl1 hl2
        dsimp only at hr3 hf3
        subst hr3
        refine ⟨hl2, (iN (j + 1), M3), ⟨by omega, rfl, hf2.trans hf3⟩, fun K k => ?_⟩
        simp (disch := omega) only [g_X5_linksLeast_L12, h2.n, if_neg (show ¬ n ≤ j by omega), e3, iN_le, iN_lt, chk_inb, chk_t, clamp_iN, bd_some, iN_add, iN_s, iN_and, iN_or, iN_shl, e10, e01, e00, bI_0, bI_1, bI_t, bI_f, has_iN, bitc, within_iN, mk_or1, xhas_iN, add_z, if_true, if_false, ite_true, ite_false, reduceCtorEq, Bool.false_eq_true, Bool.true_and, Bool.false_and, Bool.and_true, Bool.and_false, Bool.not_true, Bool.not_false]
      · right
        refine ⟨(iN (l + 1), M2), ⟨rfl, hf2⟩, fun K k => ?_⟩
        simp (disch := omega) only [g_X5_linksLeast_L12, h2.n, if_pos hl2, iN_le, iN_lt, chk_inb, chk_t, clamp_iN, bd_some, iN_add, iN_s, iN_and, iN_or, iN_shl, e10, e01, e00, bI_0, bI_1, bI_t, bI_f, has_iN, bitc, within_iN, mk_or1, xhas_iN, add_z, if_true, if_false, ite_true, ite_false, reduceCtorEq, Bool.false_eq_true, Bool.true_and, Bool.false_and, Bool.and_true, Bool.and_false, Bool.not_true, Bool.not_false]
    obtain ⟨⟨z1, M2⟩, ⟨hz1, hz2⟩, hk⟩ := key
    dsimp only at hz1 hz2
    subst hz1
    refine ⟨(iN (l + 1), M2), ⟨hl1, rfl, hz2⟩, fun k => ?_⟩
    have hk' : ∀ K, f_X5_linksLeast_L12 q1 (iN l) K FU (0, M1) = K (iN (l + 1), M2) := hk
    simp (disch := omega) only [g_X5_linksLeast_L2, h1.n, if_neg (show ¬ n ≤ l by omega), hk', iN_le, iN_lt, chk_inb, chk_t, clamp_iN, bd_some, iN_add, iN_s, iN_and, iN_or, iN_shl, e10, e01, e00, bI_0, bI_1, bI_t, bI_f, has_iN, bitc, within_iN, mk_or1, xhas_iN, add_z, if_true, if_false, ite_true, ite_false, reduceCtorEq, Bool.false_eq_true, Bool.true_and, Bool.false_and, Bool.and_true, Bool.and_false, Bool.not_true, Bool.not_false]
  · right
    refine ⟨(1, M1), ⟨rfl, hf⟩, fun k => ?_⟩
    simp (disch := omega) only [g_X5_linksLeast_L2, h1.n, if_pos hl1, iN_le, iN_lt, chk_inb, chk_t, clamp_iN, bd_some, iN_add, iN_s, iN_and, iN_or, iN_shl, e10, e01, e00, bI_0, bI_1, bI_t, bI_f, has_iN, bitc, within_iN, mk_or1, xhas_iN, add_z, if_true, if_false, ite_true, ite_false, reduceCtorEq, Bool.false_eq_true, Bool.true_and, Bool.false_and, Bool.and_true, Bool.and_false, Bool.not_true, Bool.not_false]
/-- below k once the pair goes -/
def cu (b : Nat → Nat) (l h k : Nat) : Nat := if k = h then b h - 2 ^ l else b k
theorem dif_minus {s l : Nat} (hs : s < 2 ^ n) (hn : n ≤ 9) (h : s.testBit l = true) : dif s (2 ^ l) = s - 2 ^ l := by
  have h9 : s < 512 := Nat.lt_of_lt_of_le hs (p2_le hn)
  refine set_ext (n := n) (Nat.lt_of_le_of_lt Nat.and_le_left hs) (minus_lt hs) (fun k hk => ?_)
  rw [dif_bit h9, minus_bit hs h, pow_bit]
theorem cu_bit {l h k i : Nat} (hb : b h < 2 ^ n) (hx : (b h).testBit l = true) : (cu b l h k).testBit i = ((b k).testBit i && !(decide (k = h) && decide (i = l))) := by
  unfold cu
  by_cases e : k = h
  · subst e; rw [if_pos rfl, minus_bit hb hx]; simp
  · simp [e]
theorem s_cut (h : OR M q n b) {l t : Nat} (hl : l < n) (ht : t < n) (hx : (b t).testBit l = true) : ∃ M', f_X3_cut M q (iN l) (iN t) = some M' ∧ (Fr M M' [q + 1] ∧ OR M' q n (cu b l t)) := by
  have h9 := h.le
  unfold f_X3_cut
  simp (disch := omega) only [h.b ht, iN_andn (h.lt9 ht), dif_minus (h.lt ht) h9 hx, iN_le, iN_lt, chk_inb, chk_t, clamp_iN, bd_some, iN_add, iN_s, iN_and, iN_or, iN_shl, e10, e01, e00, bI_0, bI_1, bI_t, bI_f, has_iN, bitc, within_iN, mk_or1, xhas_iN, add_z, if_true, if_false, ite_true, ite_false, reduceCtorEq, Bool.false_eq_true, Bool.true_and, Bool.false_and, Bool.and_true, Bool.and_false, Bool.not_true, Bool.not_false]
  refine ⟨_, rfl, Fr.up (by simp), h9, ?_, fun k hk => ⟨?_, ?_⟩⟩
  · rw [upM_ne2 (by omega)]; exact h.n
  · rw [upM_at]
    unfold cu
    split
    · rfl
    · exact h.b hk
  · unfold cu
    split
    · exact minus_lt (h.lt ht)
    · exact h.lt hk
theorem nx_no (hb : ∀ k < n, b k < 2 ^ n) {l t : Nat} (ht : t < n) (hx : nx b n l t = true) : (b t).testBit l = true ∧ ∀ i < n, (b i).testBit l = true → (b t).testBit i = true → False := by
  unfold nx at hx
  rw [Bool.and_eq_true, al_iff] at hx
  refine ⟨hx.1, fun i hi h1 h2 => ?_⟩
  have := hx.2 i hi
  rw [h1, h2] at this
  cases this
theorem cu_St (hS : St b n) {l t : Nat} (hl : l < n) (ht : t < n) (hx : nx b n l t = true) : St (cu b l t) n := by
  obtain ⟨h1, h2⟩ := nx_no hS.2.1 ht hx
  have hb : ∀ k i, (cu b l t k).testBit i = ((b k).testBit i && !(decide (k = t) && decide (i = l))) := fun k i => cu_bit (hS.2.1 t ht) h1
  refine ⟨hS.1, fun k hk => ?_, fun k hk => ?_, fun k hk j hj hbj i hi hbi => ?_⟩
  · unfold cu
    split
    · exact minus_lt (hS.2.1 t ht)
    · exact hS.2.1 k hk
  · rw [hb, hS.2.2.1 k hk]; rfl
  · rw [hb, Bool.and_eq_true] at hbj hbi ⊢
    refine ⟨hS.2.2.2 k hk j hj hbj.1 i hi hbi.1, ?_⟩
    by_cases e1 : k = t
    · by_cases e2 : i = l
      · subst e1 e2
        exact (h2 j hj hbi.1 hbj.1).elim
      · simp [e2]
    · simp [e1]
theorem lk_cu (hS : St b n) {l t : Nat} (hl : l < n) (ht : t < n) (hx : nx b n l t = true) : ∀ k < n, lk (cu b l t) l t k = b k := by
  obtain ⟨h1, h2⟩ := nx_no hS.2.1 ht hx
  have hb : ∀ k i, (cu b l t k).testBit i = ((b k).testBit i && !(decide (k = t) && decide (i = l))) := fun k i => cu_bit (hS.2.1 t ht) h1
  have hSc := cu_St hS hl ht hx
  intro k hk
  have hlt : l ≠ t := fun e => by rw [e, hS.2.2.1 t ht] at h1; cases h1
  refine set_ext (lk_lt hSc.2.1 hl hk) (hS.2.1 k hk) (fun i hi => ?_)
  rw [lk_bit]
  have hu1 : ub (cu b l t) t k = ub b t k := by
    unfold ub
    rw [hb]; simp [Ne.symm hlt]
  have hu2 : ub (cu b l t) i l = ub b i l := by
    unfold ub
    rw [hb]; simp [hlt]
  rw [hu1, hu2, hb]
  rw [Bool.eq_iff_iff, Bool.or_eq_true, Bool.and_eq_true, Bool.and_eq_true]
  constructor
  · rintro (h3 | ⟨h3, h4⟩)
    · exact h3.1
    · exact ub_lt' hS hi hl hk h4 (lt_ub' hS hl ht hk h1 h3)
  · intro h3
    by_cases e1 : k = t
    · by_cases e2 : i = l
      · right; unfold ub; simp [e1, e2]
      · left; exact ⟨h3, by simp [e2]⟩
    · left; exact ⟨h3, by simp [e1]⟩
theorem pc_cu (hS : St b n) {l t : Nat} (hl : l < n) (ht : t < n) (hx : (b t).testBit l = true) : (S n fun k => pc (b k)) = (S n fun k => pc (cu b l t k)) + 1 := by
  rw [← S_one ht (fun _ => 1), ← S_add]
  refine S_congr (fun k hk => ?_)
  unfold cu
  by_cases e : k = t
  · subst e
    rw [if_pos rfl, if_pos rfl, minus_pc (hS.2.1 k hk) hS.1 hx]
  · rw [if_neg e, if_neg e]; rfl
theorem s_looseComesBack (hS : St b n) (h : OR M q1 n b) (hd : dj 27 q1) : ∃ r, f_X5_looseComesBack M q1 = some r ∧ (r.1 = 1 ∧ Fr M r.2 [27, 28, 29]) := by
  have h9 := h.le
  have hd' := hd
  unfold dj at hd'
  have hq0 : q1 ∉ [27, 28, 29] := by simp only [List.mem_cons, List.not_mem_nil, or_false, not_or]; omega
  have hq1 : q1 + 1 ∉ [27, 28, 29] := by simp only [List.mem_cons, List.not_mem_nil, or_false, not_or]; omega
  refine lp_to (fun l a => l ≤ n ∧ a.1 = iN l ∧ Fr M a.2 [27, 28, 29]) n (FU_lt h9) ⟨by omega, rfl, Fr.refl _ _⟩ ?_
  rintro l ⟨a, M1⟩ ⟨hl, h0, hf⟩
  dsimp only at h0 hf
  subst h0
  have h1 := h.fr hf hq0 hq1
  rcases Nat.lt_or_ge l n with hl1 | hl1
  · left
    refine ⟨hl1, ?_⟩
    have key : ∃ z : Int32 × Mem, (z.1 = iN (l + 1) ∧ Fr M z.2 [27, 28, 29]) ∧ ∀ K, lp (g_X5_looseComesBack_L12 q1 (iN l) K) FU (0, M1) = K z := by
      refine lp_cps (G := fun K => g_X5_looseComesBack_L12 q1 (iN l) K) (fun j a => j ≤ n ∧ a.1 = iN j ∧ Fr M a.2 [27, 28, 29]) n (FU_lt h9) ⟨by omega, rfl, hf⟩ ?_
      rintro j ⟨a, M2⟩ ⟨hj, h0, hf2⟩
      dsimp only at h0 hf2
      subst h0
      have h2 := h.fr hf2 hq0 hq1
      rcases Nat.lt_or_ge j n with hl2 | hl2
      · left
        have hnb := s_isNextBelow h2 hl1 hl2
        rw [nx_eq hS.2.1 hl2] at hnb
        refine ⟨hl2, ?_⟩
        cases hx : nx b n l j
        · rw [hx] at hnb
          refine ⟨(iN (j + 1), M2), ⟨by omega, rfl, hf2⟩, fun K k => ?_⟩
          simp (disch := omega) only [g_X5_looseComesBack_L12, h2.n, if_neg (show ¬ n ≤ j by omega), hnb, iN_le, iN_lt, chk_inb, chk_t, clamp_iN, bd_some, iN_add, iN_s, iN_and, iN_or, iN_shl, e10, e01, e00, bI_0, bI_1, bI_t, bI_f, has_iN, bitc, within_iN, mk_or1, xhas_iN, add_z, if_true, if_false, ite_true, ite_false, reduceCtorEq, Bool.false_eq_true, Bool.true_and, Bool.false_and, Bool.and_true, Bool.and_false, Bool.not_true, Bool.not_false]
        · rw [hx] at hnb
          obtain ⟨hb1, hb2⟩ := nx_no hS.2.1 hl2 hx
          obtain ⟨M3, e3, hf3, hn3, hv3⟩ := s_become (M := M2) hd
          have h3 : OR M3 27 n b := h2.of hn3 (fun k hk => (hv3 k (by omega)).1)
          obtain ⟨M4, e4, hf4, h4⟩ := s_cut h3 hl1 hl2 hb1
          have hSc := cu_St hS hl1 hl2 hx
          have hio := s_isOrdered hSc h4
          have hnr : ub (cu b l j) j l = false := by
            unfold ub
            rw [cu_bit (hS.2.1 j hl2) hb1]
            have hlt : l ≠ j := fun e => by rw [e, hS.2.2.1 j hl2] at hb1; cases hb1
            have : (b l).testBit j = false := by
              cases hz : (b l).testBit j
              · rfl
              · have := hS.2.2.2 j hl2 l hl1 hb1 j hl2 hz
                rw [hS.2.2.1 j hl2] at this; cases this
            simp [this, Ne.symm hlt]
          obtain ⟨⟨r5, M5⟩, e5, hr5, hf5, h5⟩ := s_link h4 hl1 hl2 hnr
          dsimp only at hr5 hf5 h5
          have hlkb := lk_cu hS hl1 hl2 hx
          have h5' : OR M5 27 n b := h5.ext hlkb
          have hr51 : r5 = 1 := by
            rw [hr5, S_congr (f := fun k => pc (lk (cu b l j) l j k)) (g := fun k => pc (b k)) (fun k hk => by rw [hlkb k hk]), pc_cu hS hl1 hl2 hb1, iN_sub (by omega), Nat.add_sub_cancel_left]; rfl
          subst hr51
          have hf25 : Fr M2 M5 [27, 28, 29] := (hf3.trans (hf4.mono (by simp))).trans (hf5.mono (by simp))
          have h6 := h2.fr hf25 hq0 hq1
          have hhp := s_hasPairs_eq h5' h6
          refine ⟨(iN (j + 1), M5), ⟨by omega, rfl, hf2.trans hf25⟩, fun K k => ?_⟩
          simp (disch := omega) only [g_X5_looseComesBack_L12, h2.n, if_neg (show ¬ n ≤ j by omega), hnb, e3, e4, hio, e5, hhp, iN_le, iN_lt, chk_inb, chk_t, clamp_iN, bd_some, iN_add, iN_s, iN_and, iN_or, iN_shl, e10, e01, e00, bI_0, bI_1, bI_t, bI_f, has_iN, bitc, within_iN, mk_or1, xhas_iN, add_z, if_true, if_false, ite_true, ite_false, reduceCtorEq, Bool.false_eq_true, Bool.true_and, Bool.false_and, Bool.and_true, Bool.and_false, Bool.not_true, Bool.not_false]
      · right
        refine ⟨(iN (l + 1), M2), ⟨rfl, hf2⟩, fun K k => ?_⟩
        simp (disch := omega) only [g_X5_looseComesBack_L12, h2.n, if_pos hl2, iN_le, iN_lt, chk_inb, chk_t, clamp_iN, bd_some, iN_add, iN_s, iN_and, iN_or, iN_shl, e10, e01, e00, bI_0, bI_1, bI_t, bI_f, has_iN, bitc, within_iN, mk_or1, xhas_iN, add_z, if_true, if_false, ite_true, ite_false, reduceCtorEq, Bool.false_eq_true, Bool.true_and, Bool.false_and, Bool.and_true, Bool.and_false, Bool.not_true, Bool.not_false]
    obtain ⟨⟨z1, M2⟩, ⟨hz1, hz2⟩, hk⟩ := key
    dsimp only at hz1 hz2
    subst hz1
    refine ⟨(iN (l + 1), M2), ⟨hl1, rfl, hz2⟩, fun k => ?_⟩
    have hk' : ∀ K, f_X5_looseComesBack_L12 q1 (iN l) K FU (0, M1) = K (iN (l + 1), M2) := hk
    simp (disch := omega) only [g_X5_looseComesBack_L2, h1.n, if_neg (show ¬ n ≤ l by omega), hk', iN_le, iN_lt, chk_inb, chk_t, clamp_iN, bd_some, iN_add, iN_s, iN_and, iN_or, iN_shl, e10, e01, e00, bI_0, bI_1, bI_t, bI_f, has_iN, bitc, within_iN, mk_or1, xhas_iN, add_z, if_true, if_false, ite_true, ite_false, reduceCtorEq, Bool.false_eq_true, Bool.true_and, Bool.false_and, Bool.and_true, Bool.and_false, Bool.not_true, Bool.not_false]
  · right
    refine ⟨(1, M1), ⟨rfl, hf⟩, fun k => ?_⟩
    simp (disch := omega) only [g_X5_looseComesBack_L2, h1.n, if_pos hl1, iN_le, iN_lt, chk_inb, chk_t, clamp_iN, bd_some, iN_add, iN_s, iN_and, iN_or, iN_shl, e10, e01, e00, bI_0, bI_1, bI_t, bI_f, has_iN, bitc, within_iN, mk_or1, xhas_iN, add_z, if_true, if_false, ite_true, ite_false, reduceCtorEq, Bool.false_eq_true, Bool.true_and, Bool.false_and, Bool.and_true, Bool.and_false, Bool.not_true, Bool.not_false]
end RT
