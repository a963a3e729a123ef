/-! ===== the NUMBERS ===== -/
theorem lp_cps {A R σ : Type} {G : (σ → Option R) → (A → Option R) → A → Option R} (I : Nat → A → Prop) (N : Nat) {Q : σ → Prop} {F : Nat} {a : A} (hF : N < F) (h0 : I 0 a) (hs : ∀ j a, I j a → (j < N ∧ ∃ a', I (j + 1) a' ∧ ∀ K k, G K k a = k a') ∨ ∃ z, Q z ∧ ∀ K k, G K k a = K z) : ∃ z, Q z ∧ ∀ K, lp (G K) F a = K z := by
  have H : ∀ d j : Nat, j + d = N → ∀ a, I j a → ∀ F, d < F → ∃ z, Q z ∧ ∀ K, lp (G K) F a = K z := by
    intro d
    induction d with
    | zero =>
      intro j hj a ha F hF
      obtain ⟨F, rfl⟩ := Nat.exists_eq_succ_of_ne_zero (by omega : F ≠ 0)
      rcases hs j a ha with ⟨h1, -⟩ | ⟨z, hz, h2⟩
      · omega
      · exact ⟨z, hz, fun K => by rw [lp_s, h2]⟩
    | succ d ih =>
      intro j hj a ha F hF
      obtain ⟨F, rfl⟩ := Nat.exists_eq_succ_of_ne_zero (by omega : F ≠ 0)
      rcases hs j a ha with ⟨h1, a', ha', h2⟩ | ⟨z, hz, h2⟩
      · obtain ⟨z, hz, h3⟩ := ih (j + 1) (by omega) a' ha' F (by omega)
        exact ⟨z, hz, fun K => by rw [lp_s, h2, h3]⟩
      · exact ⟨z, hz, fun K => by rw [lp_s, h2]⟩
  exact H N 0 (by omega) a h0 F hF
section NN
variable {n : Nat} {b : Nat → Nat}
def mu (b : Nat → Nat) (n : Nat) : Nat → Nat → Nat → Int32
  | 0, _, _ => 0
  | d + 1, l, h => if h = l then 1 else -(SI n (fun k => if (b h).testBit k then mu b n d l k else 0))
def MU (b : Nat → Nat) (n l h : Nat) : Int32 := mu b n 10 l h
theorem mu_fuel (hS : St b n) {l : Nat} (d : Nat) : ∀ d' h, h < n → pc (b h) < d → pc (b h) < d' → mu b n d l h = mu b n d' l h := by
  induction d with
  | zero => intro d' h _ h1; omega
  | succ d ih =>
    intro d' h hh h1 h2
    obtain ⟨d', rfl⟩ := Nat.exists_eq_succ_of_ne_zero (show d' ≠ 0 by omega)
    rw [mu, mu]
    split
    · rfl
    · congr 1
      refine SI_congr (fun k hk => ?_)
      cases hb : (b h).testBit k
      · rfl
      · have := pc_b_lt hS hh hk hb
        simp only [if_true]
        exact ih d' k hk (by omega) (by omega)
theorem MU_s (hS : St b n) {l h : Nat} (hh : h < n) : MU b n l h = if h = l then 1 else -(SI n (fun k => if (b h).testBit k then MU b n l k else 0)) := by
  have h9 : pc (b h) < 11 := by have := pc_le (b h); omega
  unfold MU
  rw [mu_fuel hS 10 11 h hh (by have := pc_le (b h); omega) h9, mu]
theorem SI_0 {n : Nat} {f : Nat → Int32} (h : ∀ k < n, f k = 0) : SI n f = 0 := by
  induction n with
  | zero => rfl
  | succ n ih => rw [SI, ih (fun k hk => h k (by omega)), h n (by omega)]; rfl
theorem MU_0 (hS : St b n) {l : Nat} (d : Nat) : ∀ h, h < n → pc (b h) < d → h ≠ l → (b h).testBit l = false → MU b n l h = 0 := by
  induction d with
  | zero => intro h _ h1; omega
  | succ d ih =>
    intro h hh h1 hne hb
    rw [MU_s hS hh, if_neg hne, SI_0 (fun k hk => ?_)]
    · rfl
    · cases hbk : (b h).testBit k
      · rfl
      · have := pc_b_lt hS hh hk hbk
        have hkl : k ≠ l := fun e => by rw [e, hb] at hbk; cases hbk
        simp only [if_true]
        refine ih k hk (by omega) hkl ?_
        cases hx : (b k).testBit l
        · rfl
        · rcases Nat.lt_or_ge l n with hl | hl
          · rw [hS.2.2.2 h hh k hk hbk l hl hx] at hb; cases hb
          · rw [Nat.testBit_lt_two_pow (Nat.lt_of_lt_of_le (hS.2.1 k hk) (Nat.pow_le_pow_right (n := 2) (by decide) hl))] at hx; cases hx
end NN
section MM
variable {M : Mem} {o n : Nat} {b : Nat → Nat}
theorem t_numberOf (hS : St b n) (h : MR M o n b) {l : Nat} (hl : l < n) (d : Nat) : ∀ t < n, pc (b t) < d → f_X7_numberOf d (M, iN o, iN l, iN t) = some (MU b n l t) := by
  have ho := h.o
  have h9 := h.le
  induction d with
  | zero => intro t _ h; omega
  | succ d ih =>
    intro t ht hd
    unfold f_X7_numberOf
    rw [lp_s, MU_s hS ht]
    show (if iN l = iN t then some 1 else f_X7_numberOf_L13 M (iN o) (iN l) (iN t) (lp b_X7_numberOf d) FU (0, 0)) = _
    by_cases e : t = l
    · subst e; simp
    · have e1 : (iN l = iN t) = False := by rw [iN_eq (by omega) (by omega)]; exact eq_false (Ne.symm e)
      rw [if_neg e]
      simp only [e1, if_false]
      have e2 : SI n (fun k => if (b t).testBit k then MU b n l k else 0) = SI n (fun k => if (decide (l = k) || (b k).testBit l) && (b t).testBit k then MU b n l k else 0) := SI_congr (fun k hk => by
        cases hb : (b t).testBit k
        · simp
        · by_cases hlk : l = k
          · simp [hlk]
          · cases hx : (b k).testBit l
            · simp [hlk, MU_0 hS 10 k hk (by have := pc_le (b k); omega) (Ne.symm hlk) hx]
            · simp)
      rw [e2]
      refine lp_for (fun j => (SI j (fun k => if (decide (l = k) || (b k).testBit l) && (b t).testBit k then MU b n l k else 0), iN j)) n (FU_lt h9) ?_ ?_
      · intro j hj k
        cases hu : (decide (l = j) || (b j).testBit l)
        · simp (disch := omega) only [g_X7_numberOf_L13, h.n, if_neg (show ¬ n ≤ j by omega), t_isUpTo h hl hj, hu, SI, Int32.add_zero, iN_le, iN_lt, chk_inb, chk_t, clamp_iN, bd_some, iN_add, iN_s, iN_and, iN_or, iN_shl, e10, e01, e00, bI_0, bI_1, bI_t, bI_f, has_iN, bitc, within_iN, mk_or1, xhas_iN, add_z, if_true, if_false, ite_true, ite_false, reduceCtorEq, Bool.false_eq_true, Bool.true_and, Bool.false_and, Bool.and_true, Bool.and_false, Bool.not_true, Bool.not_false]
        · cases hb : (b t).testBit j
          · simp (disch := omega) only [g_X7_numberOf_L13, h.n, if_neg (show ¬ n ≤ j by omega), t_isUpTo h hl hj, hu, SI, h.b ht hj, hb, Int32.add_zero, iN_le, iN_lt, chk_inb, chk_t, clamp_iN, bd_some, iN_add, iN_s, iN_and, iN_or, iN_shl, e10, e01, e00, bI_0, bI_1, bI_t, bI_f, has_iN, bitc, within_iN, mk_or1, xhas_iN, add_z, if_true, if_false, ite_true, ite_false, reduceCtorEq, Bool.false_eq_true, Bool.true_and, Bool.false_and, Bool.and_true, Bool.and_false, Bool.not_true, Bool.not_false]
          · have hr := ih j hj (by have := pc_b_lt hS ht hj hb; omega)
            unfold f_X7_numberOf at hr
            simp (disch := omega) only [g_X7_numberOf_L13, h.n, if_neg (show ¬ n ≤ j by omega), t_isUpTo h hl hj, hu, SI, h.b ht hj, hb, hr, iN_le, iN_lt, chk_inb, chk_t, clamp_iN, bd_some, iN_add, iN_s, iN_and, iN_or, iN_shl, e10, e01, e00, bI_0, bI_1, bI_t, bI_f, has_iN, bitc, within_iN, mk_or1, xhas_iN, add_z, if_true, if_false, ite_true, ite_false, reduceCtorEq, Bool.false_eq_true, Bool.true_and, Bool.false_and, Bool.and_true, Bool.and_false, Bool.not_true, Bool.not_false]
      · intro k
        simp (disch := omega) only [g_X7_numberOf_L13, h.n, if_pos (Nat.le_refl n), iN_le, iN_lt, chk_inb, chk_t, clamp_iN, bd_some, iN_add, iN_s, iN_and, iN_or, iN_shl, e10, e01, e00, bI_0, bI_1, bI_t, bI_f, has_iN, bitc, within_iN, mk_or1, xhas_iN, add_z, if_true, if_false, ite_true, ite_false, reduceCtorEq, Bool.false_eq_true, Bool.true_and, Bool.false_and, Bool.and_true, Bool.and_false, Bool.not_true, Bool.not_false]
end MM
/-! ===== the class's NUMBERS ===== -/
section RT
variable {M : Mem} {q q1 n : Nat} {b : Nat → Nat}
theorem s_sumBelow (h : OR M q1 n b) {l t : Nat} (ht : t < n) (hv : ∀ k < n, (b t).testBit k = true → M (q + 1) k = MU b n l k) : f_X2_sumBelow M q q1 (iN t) = some (SI n (fun k => if (b t).testBit k then MU b n l k else 0)) := by
  have h9 := h.le
  have hbt := h.lt9 ht
  refine lp_for (fun j => (SI j (fun k => if (b t).testBit k then MU b n l k else 0), iN j)) n (FU_lt h9) ?_ ?_
  · intro j hj k
    cases hb : (b t).testBit j
    · simp (disch := omega) only [g_X2_sumBelow_L5, h.n, if_neg (show ¬ n ≤ j by omega), h.b ht, hb, SI, Int32.add_zero, iN_le, iN_lt, chk_inb, chk_t, clamp_iN, bd_some, iN_add, iN_s, iN_and, iN_or, iN_shl, e10, e01, e00, bI_0, bI_1, bI_t, bI_f, has_iN, bitc, within_iN, mk_or1, xhas_iN, add_z, if_true, if_false, ite_true, ite_false, reduceCtorEq, Bool.false_eq_true, Bool.true_and, Bool.false_and, Bool.and_true, Bool.and_false, Bool.not_true, Bool.not_false]
    · simp (disch := omega) only [g_X2_sumBelow_L5, h.n, if_neg (show ¬ n ≤ j by omega), h.b ht, hb, SI, hv j hj hb, iN_le, iN_lt, chk_inb, chk_t, clamp_iN, bd_some, iN_add, iN_s, iN_and, iN_or, iN_shl, e10, e01, e00, bI_0, bI_1, bI_t, bI_f, has_iN, bitc, within_iN, mk_or1, xhas_iN, add_z, if_true, if_false, ite_true, ite_false, reduceCtorEq, Bool.false_eq_true, Bool.true_and, Bool.false_and, Bool.and_true, Bool.and_false, Bool.not_true, Bool.not_false]
  · intro k
    simp (disch := omega) only [g_X2_sumBelow_L5, h.n, if_pos (Nat.le_refl n), iN_le, iN_lt, chk_inb, chk_t, clamp_iN, bd_some, iN_add, iN_s, iN_and, iN_or, iN_shl, e10, e01, e00, bI_0, bI_1, bI_t, bI_f, has_iN, bitc, within_iN, mk_or1, xhas_iN, add_z, if_true, if_false, ite_true, ite_false, reduceCtorEq, Bool.false_eq_true, Bool.true_and, Bool.false_and, Bool.and_true, Bool.and_false, Bool.not_true, Bool.not_false]
theorem s_fillFrom (hS : St b n) (h : OR M q1 n b) (hq : q1 ≠ q + 1 ∧ q1 + 1 ≠ q + 1) {l : Nat} (hl : l < n) : ∃ M', f_X2_fillFrom M q q1 (iN l) = some M' ∧ (Fr M M' [q + 1] ∧ ∀ t < n, M' (q + 1) t = MU b n l t) := by
  have h9 := h.le
  refine lp_to (fun d a => d ≤ n ∧ a.1 = iN d ∧ Fr M a.2 [q + 1] ∧ ∀ t < n, pc (b t) < d → a.2 (q + 1) t = MU b n l t) n (FU_lt h9) ⟨by omega, rfl, Fr.refl _ _, fun t _ h => by omega⟩ ?_
  rintro d ⟨a, M1⟩ ⟨hd, h0, hf, hv⟩
  dsimp only at h0 hf hv
  subst h0
  have h1 : OR M1 q1 n b := h.same (hf q1 (by simp [hq.1])) (hf (q1 + 1) (by simpa using hq.2))
  rcases Nat.lt_or_ge d n with hl1 | hl1
  · left
    refine ⟨hl1, ?_⟩
    have key : ∃ z : Int32 × Mem, (z.1 = iN (d + 1) ∧ Fr M z.2 [q + 1] ∧ ∀ t < n, pc (b t) < d + 1 → z.2 (q + 1) t = MU b n l t) ∧ ∀ K, lp (g_X2_fillFrom_L13 q q1 (iN l) (iN d) K) FU (0, M1) = K z := by
      refine lp_cps (G := fun K => g_X2_fillFrom_L13 q q1 (iN l) (iN d) K) (fun j a => j ≤ n ∧ a.1 = iN j ∧ Fr M a.2 [q + 1] ∧ ∀ t < n, (pc (b t) < d ∨ (pc (b t) = d ∧ t < j)) → a.2 (q + 1) t = MU b n l t) n (FU_lt h9) ⟨by omega, rfl, hf, fun t ht h => hv t ht (by omega)⟩ ?_
      rintro j ⟨a, M2⟩ ⟨hj, h0, hf2, hv2⟩
      dsimp only at h0 hf2 hv2
      subst h0
      have h2 : OR M2 q1 n b := h.same (hf2 q1 (by simp [hq.1])) (hf2 (q1 + 1) (by simpa using hq.2))
      rcases Nat.lt_or_ge j n with hl2 | hl2
      · left
        refine ⟨hl2, ?_⟩
        have hbj := h2.lt9 hl2
        have hpj := pc_le (b j)
        by_cases hpd : pc (b j) = d
        · refine ⟨(iN (j + 1), upM M2 (q + 1) j (MU b n l j)), ⟨by omega, rfl, hf2.trans (Fr.up (by simp)), fun t ht hc => ?_⟩, fun K k => ?_⟩
          · dsimp only
            rw [upM_at]
            split
            · next e => rw [e]
            · exact hv2 t ht (by omega)
          · by_cases hjl : j = l
            · subst hjl
              have e1 : MU b n j j = 1 := by rw [MU_s hS hl2, if_pos rfl]
              rw [e1]
              simp (disch := omega) only [g_X2_fillFrom_L13, h2.n, if_neg (show ¬ n ≤ j by omega), h2.b hl2, bitc hbj, hpd, iN_le, iN_lt, chk_inb, chk_t, clamp_iN, bd_some, iN_add, iN_s, iN_and, iN_or, iN_shl, e10, e01, e00, bI_0, bI_1, bI_t, bI_f, has_iN, bitc, within_iN, mk_or1, xhas_iN, add_z, if_true, if_false, ite_true, ite_false, reduceCtorEq, Bool.false_eq_true, Bool.true_and, Bool.false_and, Bool.and_true, Bool.and_false, Bool.not_true, Bool.not_false]
            · have e1 : (iN j = iN l) = False := by rw [iN_eq (by omega) (by omega)]; exact eq_false hjl
              have e2 := s_sumBelow (q := q) (l := l) h2 hl2 (fun k hk hb => hv2 k hk (Or.inl (by have := pc_b_lt hS hl2 hk hb; omega)))
              rw [MU_s hS hl2, if_neg hjl]
              simp (disch := omega) only [g_X2_fillFrom_L13, h2.n, if_neg (show ¬ n ≤ j by omega), h2.b hl2, bitc hbj, hpd, e1, e2, iN_le, iN_lt, chk_inb, chk_t, clamp_iN, bd_some, iN_add, iN_s, iN_and, iN_or, iN_shl, e10, e01, e00, bI_0, bI_1, bI_t, bI_f, has_iN, bitc, within_iN, mk_or1, xhas_iN, add_z, if_true, if_false, ite_true, ite_false, reduceCtorEq, Bool.false_eq_true, Bool.true_and, Bool.false_and, Bool.and_true, Bool.and_false, Bool.not_true, Bool.not_false]
        · have e1 : (iN (pc (b j)) = iN d) = False := by rw [iN_eq (by omega) (by omega)]; exact eq_false hpd
          refine ⟨(iN (j + 1), M2), ⟨by omega, rfl, hf2, fun t ht hc => hv2 t ht ?_⟩, fun K k => ?_⟩
          · rcases hc with hc | ⟨hc1, hc2⟩
            · exact Or.inl hc
            · by_cases e : t = j
              · subst e; exact absurd hc1 hpd
              · exact Or.inr ⟨hc1, by omega⟩
          · simp (disch := omega) only [g_X2_fillFrom_L13, h2.n, if_neg (show ¬ n ≤ j by omega), h2.b hl2, bitc hbj, e1, iN_le, iN_lt, chk_inb, chk_t, clamp_iN, bd_some, iN_add, iN_s, iN_and, iN_or, iN_shl, e10, e01, e00, bI_0, bI_1, bI_t, bI_f, has_iN, bitc, within_iN, mk_or1, xhas_iN, add_z, if_true, if_false, ite_true, ite_false, reduceCtorEq, Bool.false_eq_true, Bool.true_and, Bool.false_and, Bool.and_true, Bool.and_false, Bool.not_true, Bool.not_false]
      · right
        refine ⟨(iN (d + 1), M2), ⟨rfl, hf2, fun t ht hc => hv2 t ht (by omega)⟩, fun K k => ?_⟩
        simp (disch := omega) only [g_X2_fillFrom_L13, h2.n, if_pos hl2, iN_le, iN_lt, chk_inb, chk_t, clamp_iN, bd_some, iN_add, iN_s, iN_and, iN_or, iN_shl, e10, e01, e00, bI_0, bI_1, bI_t, bI_f, has_iN, bitc, within_iN, mk_or1, xhas_iN, add_z, if_true, if_false, ite_true, ite_false, reduceCtorEq, Bool.false_eq_true, Bool.true_and, Bool.false_and, Bool.and_true, Bool.and_false, Bool.not_true, Bool.not_false]
    obtain ⟨⟨z1, M2⟩, ⟨hz1, hz2, hz3⟩, hk⟩ := key
    dsimp only at hz1 hz2 hz3
    subst hz1
    refine ⟨(iN (d + 1), M2), ⟨hl1, rfl, hz2, hz3⟩, fun k => ?_⟩
    have hk' : ∀ K, f_X2_fillFrom_L13 q q1 (iN l) (iN d) K FU (0, M1) = K (iN (d + 1), M2) := hk
    simp (disch := omega) only [g_X2_fillFrom_L2, h1.n, if_neg (show ¬ n ≤ d by omega), hk', iN_le, iN_lt, chk_inb, chk_t, clamp_iN, bd_some, iN_add, iN_s, iN_and, iN_or, iN_shl, e10, e01, e00, bI_0, bI_1, bI_t, bI_f, has_iN, bitc, within_iN, mk_or1, xhas_iN, add_z, if_true, if_false, ite_true, ite_false, reduceCtorEq, Bool.false_eq_true, Bool.true_and, Bool.false_and, Bool.and_true, Bool.and_false, Bool.not_true, Bool.not_false]
  · right
    refine ⟨M1, ⟨hf, fun t ht => hv t ht ?_⟩, fun k => by simp (disch := omega) only [g_X2_fillFrom_L2, h1.n, if_pos hl1, iN_le, iN_lt, chk_inb, chk_t, clamp_iN, bd_some, iN_add, iN_s, iN_and, iN_or, iN_shl, e10, e01, e00, bI_0, bI_1, bI_t, bI_f, has_iN, bitc, within_iN, mk_or1, xhas_iN, add_z, if_true, if_false, ite_true, ite_false, reduceCtorEq, Bool.false_eq_true, Bool.true_and, Bool.false_and, Bool.and_true, Bool.and_false, Bool.not_true, Bool.not_false]⟩
    have e1 : pc (b t) < n := by
      have h3 := pc_le_n (hS.2.1 t ht) h9
      rcases Nat.lt_or_ge (pc (b t)) n with h4 | h4
      · exact h4
      · have := (pc_n (hS.2.1 t ht) h9).mp (by omega)
        have h5 := hS.2.2.1 t ht
        rw [this, all_bit] at h5
        simp [ht] at h5
    omega
end RT
