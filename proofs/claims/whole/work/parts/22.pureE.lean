/-! ===== the reference's count of rows ===== -/
theorem MR.same {M M' : Mem} {o n : Nat} {b : Nat → Nat} (h : MR M o n b) (hf : ∀ a, (a = 48 ∨ (57 ≤ a ∧ a < 106)) → M' a = M a) : MR M' o n b := by
  have ho := h.o
  refine ⟨h.1, h.2.1, by rw [hf 48 (Or.inl rfl)]; exact h.2.2.1, fun k hk => ⟨(h.2.2.2 k hk).1, fun j hj => ?_⟩⟩
  have h9 := h.le
  rw [hf _ (Or.inr (by omega))]
  exact (h.2.2.2 k hk).2 j hj
theorem and_self_iff {s t n : Nat} (hs : s < 2 ^ n) (hn : n ≤ 9) : s &&& t = s ↔ sb s t = true := by
  rw [sb_iff hs hn]
  constructor
  · intro h k hk hb
    have := Nat.testBit_and s t k
    rw [h, hb] at this
    simpa using this.symm
  · intro h
    refine set_ext (n := n) (Nat.lt_of_le_of_lt Nat.and_le_left hs) hs (fun k hk => ?_)
    rw [Nat.testBit_and]
    cases hb : s.testBit k
    · rfl
    · rw [h k hk hb]; rfl
section MM
variable {M : Mem} {o n : Nat} {b : Nat → Nat}
theorem BW_s {w : Nat → Nat → Bool} (hw : W0 w) (hn : n ≤ 9) {s : Nat} (hs : s < 2 ^ n) (h0 : s ≠ 2 ^ n - 1) : BW w n (n - pc s) s = S n (fun k => if w s k then BW w n (n - pc (s + 2 ^ k)) (s + 2 ^ k) else 0) := by
  have h1 : pc s ≠ n := fun e => h0 ((pc_n hs hn).mp e)
  have h2 := pc_le_n hs hn
  obtain ⟨d, hd⟩ := Nat.exists_eq_succ_of_ne_zero (show n - pc s ≠ 0 by omega)
  rw [hd, BW]
  refine S_congr (fun k hk => ?_)
  cases hc : w s k
  · rfl
  · have := plus_pc hs hn hk (hw s k hc)
    rw [this, show n - (pc s + 1) = d by omega]
/-- with a further word on each step -/
def cf (b : Nat → Nat) (ft : Nat → Nat → Bool) (s k : Nat) : Bool := cc b s k && ft s k
theorem cf_W0 (ft : Nat → Nat → Bool) : W0 (cf b ft) := fun s k h => by
  unfold cf at h
  rw [Bool.and_eq_true] at h
  exact cc_W0 b s k h.1
set_option maxRecDepth 100000 in
theorem t_follow (h : MR M o n b) {x2 x3 x4 : Int32} (ft : Nat → Nat → Bool) (hft : ∀ s < 2 ^ n, ∀ k < n, ∀ M v y k60 k71, f_X7_follow_L117 M (iN o) x2 x3 x4 (iN s) v (iN k) y k60 k71 = f_X7_follow_L180 M (iN o) x2 x3 x4 (iN s) v (iN k) y (bI (ft s k)) k60 k71) : ∃ r, f_X7_follow M (iN o) x2 x3 x4 = some r ∧ (r.1 = iN (BW (cf b ft) n n 0) ∧ Fr M r.2 [106, 109] ∧ (∀ s < 2 ^ n, r.2 106 s = iN (BW (cf b ft) n (n - pc s) s)) ∧ ∀ k < n, r.2 109 k = iN (b k)) := by
  have ho := h.o
  have h9 := h.le
  have h8 := p2_le h9
  have h7 := Nat.two_pow_pos n
  have hall : iN (2 ^ n) - 1 = iN (2 ^ n - 1) := by rw [iN_1, iN_sub (by omega)]
  unfold f_X7_follow
  simp (disch := omega) only [h.n, hall, iN_le, iN_lt, chk_inb, chk_t, clamp_iN, bd_some, iN_add, iN_s, iN_and, iN_or, iN_shl, e10, e01, e00, bI_0, bI_1, bI_t, bI_f, has_iN, bitc, within_iN, mk_or1, xhas_iN, add_z, if_true, if_false, ite_true, ite_false, reduceCtorEq, Bool.false_eq_true, Bool.true_and, Bool.false_and, Bool.and_true, Bool.and_false, Bool.not_true, Bool.not_false]
  refine lp_to (fun j a => j ≤ n ∧ a.1 = iN j ∧ Fr M a.2 [106, 109] ∧ ∀ k < j, a.2 109 k = iN (b k)) n (FU_lt h9) ⟨by omega, rfl, Fr.refl _ _, fun k hk => by omega⟩ ?_
  rintro j ⟨a, M1⟩ ⟨hj, h0, hf, hlo⟩
  dsimp only at h0 hf hlo
  subst h0
  have h1 : MR M1 o n b := h.same (fun a ha => hf a (by simp; omega))
  rcases Nat.lt_or_ge j n with hl | hl
  · left
    refine ⟨hl, (iN (j + 1), upM M1 109 j (iN (b j))), ⟨hl, rfl, hf.trans (Fr.up (by simp)), fun k hk => ?_⟩, fun k => ?_⟩
    · dsimp only
      rw [upM_at]
      split
      · next e => rw [e]
      · exact hlo k (by omega)
    · simp (disch := omega) only [g_X7_follow_L15, h1.n, if_neg (show ¬ n ≤ j by omega), t_lowerOf h1 hl, iN_le, iN_lt, chk_inb, chk_t, clamp_iN, bd_some, iN_add, iN_s, iN_and, iN_or, iN_shl, e10, e01, e00, bI_0, bI_1, bI_t, bI_f, has_iN, bitc, within_iN, mk_or1, xhas_iN, add_z, if_true, if_false, ite_true, ite_false, reduceCtorEq, Bool.false_eq_true, Bool.true_and, Bool.false_and, Bool.and_true, Bool.and_false, Bool.not_true, Bool.not_false]
  · right
    have e : j = n := by omega
    subst e
    have hin : inb (iN (2 ^ j - 1)) 512 = true := by rw [inb_iN (by omega)]; simp; omega
    have hin0 : inb 0 512 = true := by decide
    have hc0 : (0 : Int32).toNatClampNeg = 0 := rfl
    have e2 : ∃ r, f_X7_follow_L60 (iN o) x2 x3 x4 FU (iN (2 ^ j - 1) - 1, upM M1 106 (2 ^ j - 1) 1) = some r ∧ (r.1 = iN (BW (cf b ft) j j 0) ∧ Fr M r.2 [106, 109] ∧ (∀ s < 2 ^ j, r.2 106 s = iN (BW (cf b ft) j (j - pc s) s)) ∧ ∀ k < j, r.2 109 k = iN (b k)) := by
      refine lp_to (fun i a => i + 1 ≤ 2 ^ j ∧ a.1 = iN (2 ^ j - 1 - i) - 1 ∧ Fr M a.2 [106, 109] ∧ (∀ s < 2 ^ j, 2 ^ j - 1 ≤ s + i → a.2 106 s = iN (BW (cf b ft) j (j - pc s) s)) ∧ ∀ k < j, a.2 109 k = iN (b k)) (2 ^ j) (FU_lt2 h8) ⟨by omega, by simp, hf.trans (Fr.up (by simp)), fun s h2 h3 => ?_, fun k hk => ?_⟩ ?_
      · dsimp only
        have : s = 2 ^ j - 1 := by omega
        rw [this, upM_eq, pc_all h9, Nat.sub_self]; rfl
      · dsimp only
        rw [← hlo k hk]
        simp [upM]
      · rintro i ⟨a, M2⟩ ⟨hi, h0, hf2, hw2, hl2⟩
        dsimp only at h0 hf2 hw2 hl2
        subst h0
        have h2 : MR M2 o j b := h.same (fun a ha => hf2 a (by simp; omega))
        rcases Nat.lt_or_ge (i + 1) (2 ^ j) with hl | hl
        · left
          have e3 : iN (2 ^ j - 1 - i) - 1 = iN (2 ^ j - 1 - (i + 1)) := by
            rw [iN_1, iN_sub (by omega)]; congr 1
          rw [e3]
          generalize hs : 2 ^ j - 1 - (i + 1) = s
          have hs2 : s < 2 ^ j := by omega
          have hne : s ≠ 2 ^ j - 1 := by omega
          have hnext : iN s + (-1) = iN s - 1 := by rw [Int32.sub_eq_add_neg]
          refine ⟨by omega, (iN s - 1, upM M2 106 s (iN (BW (cf b ft) j (j - pc s) s))), ⟨by omega, rfl, hf2.trans (Fr.up (by simp)), fun t h3 h4 => ?_, fun k hk => ?_⟩, fun k => ?_⟩
          · dsimp only
            rw [upM_at]
            split
            · next e => rw [e]
            · exact hw2 t h3 (by omega)
          · dsimp only
            rw [← hl2 k hk]
            simp [upM]
          · simp (disch := omega) only [g_X7_follow_L60, iN_n0, iN_le, iN_lt, chk_inb, chk_t, clamp_iN, bd_some, iN_add, iN_s, iN_and, iN_or, iN_shl, e10, e01, e00, bI_0, bI_1, bI_t, bI_f, has_iN, bitc, within_iN, mk_or1, xhas_iN, add_z, if_true, if_false, ite_true, ite_false, reduceCtorEq, Bool.false_eq_true, Bool.true_and, Bool.false_and, Bool.and_true, Bool.and_false, Bool.not_true, Bool.not_false]
            rw [BW_s (cf_W0 ft) h9 hs2 hne]
            refine lp_for (fun m => (iN (S m fun k => if cf b ft s k then BW (cf b ft) j (j - pc (s + 2 ^ k)) (s + 2 ^ k) else 0), iN m)) j (FU_lt h9) ?_ ?_
            · intro m hm g
              have hbm := h2.lt9 hm
              have eq1 : (iN (b m &&& s) = iN (b m)) = (sb (b m) s = true) := by
                rw [iN_eq (Nat.lt_trans (and_lt9 hbm) (by decide)) (by omega)]
                exact propext (and_self_iff (h2.lt hm) h9)
              have ecf : cf b ft s m = ((!s.testBit m && sb (b m) s) && ft s m) := rfl
              cases hb : s.testBit m
              · cases hsb : sb (b m) s
                · simp (disch := omega) only [g_X7_follow_L71, h2.n, if_neg (show ¬ j ≤ m by omega), hb, hl2 m hm, eq1, hsb, f_X7_follow_L116, hft s hs2 m hm, f_X7_follow_L180, S, ecf, Nat.add_zero, iN_le, iN_lt, chk_inb, chk_t, clamp_iN, bd_some, iN_add, iN_s, iN_and, iN_or, iN_shl, e10, e01, e00, bI_0, bI_1, bI_t, bI_f, has_iN, bitc, within_iN, mk_or1, xhas_iN, add_z, if_true, if_false, ite_true, ite_false, reduceCtorEq, Bool.false_eq_true, Bool.true_and, Bool.false_and, Bool.and_true, Bool.and_false, Bool.not_true, Bool.not_false]
                · cases hff : ft s m
                  · simp (disch := omega) only [g_X7_follow_L71, h2.n, if_neg (show ¬ j ≤ m by omega), hb, hl2 m hm, eq1, hsb, f_X7_follow_L116, hft s hs2 m hm, f_X7_follow_L180, S, ecf, hff, Nat.add_zero, iN_le, iN_lt, chk_inb, chk_t, clamp_iN, bd_some, iN_add, iN_s, iN_and, iN_or, iN_shl, e10, e01, e00, bI_0, bI_1, bI_t, bI_f, has_iN, bitc, within_iN, mk_or1, xhas_iN, add_z, if_true, if_false, ite_true, ite_false, reduceCtorEq, Bool.false_eq_true, Bool.true_and, Bool.false_and, Bool.and_true, Bool.and_false, Bool.not_true, Bool.not_false]
                  · have h5 := plus_lt hs2 hm hb
                    have := Nat.two_pow_pos m
                    have h6 := hw2 (s + 2 ^ m) h5 (by omega)
                    simp (disch := omega) only [g_X7_follow_L71, h2.n, if_neg (show ¬ j ≤ m by omega), hb, hl2 m hm, eq1, hsb, f_X7_follow_L116, hft s hs2 m hm, f_X7_follow_L180, S, ecf, hff, h6, iN_le, iN_lt, chk_inb, chk_t, clamp_iN, bd_some, iN_add, iN_s, iN_and, iN_or, iN_shl, e10, e01, e00, bI_0, bI_1, bI_t, bI_f, has_iN, bitc, within_iN, mk_or1, xhas_iN, add_z, if_true, if_false, ite_true, ite_false, reduceCtorEq, Bool.false_eq_true, Bool.true_and, Bool.false_and, Bool.and_true, Bool.and_false, Bool.not_true, Bool.not_false]
              · simp (disch := omega) only [g_X7_follow_L71, h2.n, if_neg (show ¬ j ≤ m by omega), hb, f_X7_follow_L116, hft s hs2 m hm, f_X7_follow_L180, S, ecf, Nat.add_zero, iN_le, iN_lt, chk_inb, chk_t, clamp_iN, bd_some, iN_add, iN_s, iN_and, iN_or, iN_shl, e10, e01, e00, bI_0, bI_1, bI_t, bI_f, has_iN, bitc, within_iN, mk_or1, xhas_iN, add_z, if_true, if_false, ite_true, ite_false, reduceCtorEq, Bool.false_eq_true, Bool.true_and, Bool.false_and, Bool.and_true, Bool.and_false, Bool.not_true, Bool.not_false]
            · intro g
              simp (disch := omega) only [g_X7_follow_L71, h2.n, if_pos (Nat.le_refl j), hnext, iN_le, iN_lt, chk_inb, chk_t, clamp_iN, bd_some, iN_add, iN_s, iN_and, iN_or, iN_shl, e10, e01, e00, bI_0, bI_1, bI_t, bI_f, has_iN, bitc, within_iN, mk_or1, xhas_iN, add_z, if_true, if_false, ite_true, ite_false, reduceCtorEq, Bool.false_eq_true, Bool.true_and, Bool.false_and, Bool.and_true, Bool.and_false, Bool.not_true, Bool.not_false]
        · right
          have e3 : 2 ^ j - 1 - i = 0 := by omega
          have e4 : (iN 0 - 1 < 0) = True := by decide
          refine ⟨(iN (BW (cf b ft) j j 0), M2), ⟨rfl, hf2, fun s h3 => hw2 s h3 (by omega), hl2⟩, fun k => ?_⟩
          have h5 := hw2 0 h7 (by omega)
          have h6 : j - pc 0 = j := rfl
          rw [h6] at h5
          simp (disch := omega) only [g_X7_follow_L60, e3, e4, hin0, hc0, h5, iN_le, iN_lt, chk_inb, chk_t, clamp_iN, bd_some, iN_add, iN_s, iN_and, iN_or, iN_shl, e10, e01, e00, bI_0, bI_1, bI_t, bI_f, has_iN, bitc, within_iN, mk_or1, xhas_iN, add_z, if_true, if_false, ite_true, ite_false, reduceCtorEq, Bool.false_eq_true, Bool.true_and, Bool.false_and, Bool.and_true, Bool.and_false, Bool.not_true, Bool.not_false]
    obtain ⟨r, e3, hr⟩ := e2
    refine ⟨r, hr, fun k => ?_⟩
    simp (disch := omega) only [g_X7_follow_L15, h1.n, if_pos (Nat.le_refl j), hin, e3, iN_le, iN_lt, chk_inb, chk_t, clamp_iN, bd_some, iN_add, iN_s, iN_and, iN_or, iN_shl, e10, e01, e00, bI_0, bI_1, bI_t, bI_f, has_iN, bitc, within_iN, mk_or1, xhas_iN, add_z, if_true, if_false, ite_true, ite_false, reduceCtorEq, Bool.false_eq_true, Bool.true_and, Bool.false_and, Bool.and_true, Bool.and_false, Bool.not_true, Bool.not_false]
end MM
/-! ===== the reference's rows ===== -/
section MM
variable {M : Mem} {o n : Nat} {b : Nat → Nat}
theorem cf_true : cf b (fun _ _ => true) = cc b := by
  funext s k; unfold cf; simp
/-- the reference's table for all rows -/
def MF (M : Mem) (n : Nat) (b : Nat → Nat) : Prop := (∀ s < 2 ^ n, M 106 s = iN (BC b n s)) ∧ ∀ k < n, M 109 k = iN (b k)
theorem t_rowsOf (h : MR M o n b) : ∃ r, f_X7_rowsOf M (iN o) = some r ∧ (r.1 = iN (RW b n) ∧ Fr M r.2 [106, 109] ∧ MF r.2 n b) := by
  obtain ⟨r, e, h1, h2, h3, h4⟩ := t_follow h (x2 := -1) (x3 := -1) (x4 := 0) (fun _ _ => true) (fun s hs k hk M v y k60 k71 => by
    simp only [f_X7_follow_L117, if_true, f_X7_follow_L175, bI_t])
  rw [cf_true] at h1 h3
  exact ⟨(r.1, r.2), by unfold f_X7_rowsOf; rw [e, bd_some], h1, h2, h3, h4⟩
def f1 (u t s k : Nat) : Bool := !decide (k = t) || s.testBit u
def f2 (t p : Nat) (_b : Unit) (s k : Nat) : Bool := decide (k = t) == decide (pc s = p)
theorem t_with (h : MR M o n b) {u t : Nat} (hu : u < n) (ht : t < n) (hut : u ≠ t) : ∃ r, f_X7_with M (iN o) (iN u) (iN t) = some r ∧ (r.1 = iN (BW (cf b (f1 u t)) n n 0) ∧ Fr M r.2 [106, 109]) := by
  have h9 := h.le
  have h8 := p2_le h9
  have e1 : (iN u = iN t) = False := by rw [iN_eq (by omega) (by omega)]; exact eq_false hut
  obtain ⟨r, e, h1, h2, h3, h4⟩ := t_follow h (x2 := iN u) (x3 := iN t) (x4 := 0) (f1 u t) (fun s hs k hk M v y k60 k71 => by
    unfold f1
    by_cases hkt : k = t
    · subst hkt
      cases hb : s.testBit u
      · simp (disch := omega) only [f_X7_follow_L117, f_X7_follow_L175, f_X7_follow_L179, oI_n, decide_true, hb, Bool.or_false, iN_le, iN_lt, chk_inb, chk_t, clamp_iN, bd_some, iN_add, iN_s, iN_and, iN_or, iN_shl, e10, e01, e00, bI_0, bI_1, bI_t, bI_f, has_iN, bitc, within_iN, mk_or1, xhas_iN, add_z, if_true, if_false, ite_true, ite_false, reduceCtorEq, Bool.false_eq_true, Bool.true_and, Bool.false_and, Bool.and_true, Bool.and_false, Bool.not_true, Bool.not_false]
      · simp (disch := omega) only [f_X7_follow_L117, f_X7_follow_L175, f_X7_follow_L179, oI_n, decide_true, hb, Bool.or_true, iN_le, iN_lt, chk_inb, chk_t, clamp_iN, bd_some, iN_add, iN_s, iN_and, iN_or, iN_shl, e10, e01, e00, bI_0, bI_1, bI_t, bI_f, has_iN, bitc, within_iN, mk_or1, xhas_iN, add_z, if_true, if_false, ite_true, ite_false, reduceCtorEq, Bool.false_eq_true, Bool.true_and, Bool.false_and, Bool.and_true, Bool.and_false, Bool.not_true, Bool.not_false]
    · have e2 : (iN k = iN t) = False := by rw [iN_eq (by omega) (by omega)]; exact eq_false hkt
      simp (disch := omega) only [f_X7_follow_L117, f_X7_follow_L175, f_X7_follow_L179, oI_n, e2, hkt, decide_false, Bool.true_or, iN_le, iN_lt, chk_inb, chk_t, clamp_iN, bd_some, iN_add, iN_s, iN_and, iN_or, iN_shl, e10, e01, e00, bI_0, bI_1, bI_t, bI_f, has_iN, bitc, within_iN, mk_or1, xhas_iN, add_z, if_true, if_false, ite_true, ite_false, reduceCtorEq, Bool.false_eq_true, Bool.true_and, Bool.false_and, Bool.and_true, Bool.and_false, Bool.not_true, Bool.not_false])
  refine ⟨(r.1, r.2), ?_, h1, h2⟩
  unfold f_X7_with
  simp (disch := omega) only [e1, e, iN_le, iN_lt, chk_inb, chk_t, clamp_iN, bd_some, iN_add, iN_s, iN_and, iN_or, iN_shl, e10, e01, e00, bI_0, bI_1, bI_t, bI_f, has_iN, bitc, within_iN, mk_or1, xhas_iN, add_z, if_true, if_false, ite_true, ite_false, reduceCtorEq, Bool.false_eq_true, Bool.true_and, Bool.false_and, Bool.and_true, Bool.and_false, Bool.not_true, Bool.not_false]
theorem t_at (h : MR M o n b) {t p : Nat} (ht : t < n) (hp : p < n) : ∃ r, f_X7_at M (iN o) (iN t) (iN p) = some r ∧ (r.1 = iN (BW (cf b (f2 t p ())) n n 0) ∧ Fr M r.2 [106, 109]) := by
  have h9 := h.le
  have h8 := p2_le h9
  have ho := h.o
  obtain ⟨r, e, h1, h2, h3, h4⟩ := t_follow h (x2 := iN t) (x3 := iN p) (x4 := 1) (f2 t p ()) (fun s hs k hk M v y k60 k71 => by
    have h7 := pc_le s
    unfold f2
    by_cases hkt : k = t
    · subst hkt
      by_cases hb : pc s = p
      · simp (disch := omega) only [f_X7_follow_L117, f_X7_follow_L140, f_X7_follow_L154, f_X7_follow_L175, f_X7_follow_L179, oI_n, t_manyIn, decide_true, hb, beq_self_eq_true, iN_le, iN_lt, chk_inb, chk_t, clamp_iN, bd_some, iN_add, iN_s, iN_and, iN_or, iN_shl, e10, e01, e00, bI_0, bI_1, bI_t, bI_f, has_iN, bitc, within_iN, mk_or1, xhas_iN, add_z, if_true, if_false, ite_true, ite_false, reduceCtorEq, Bool.false_eq_true, Bool.true_and, Bool.false_and, Bool.and_true, Bool.and_false, Bool.not_true, Bool.not_false]
      · have e2 : (iN (pc s) = iN p) = False := by rw [iN_eq (by omega) (by omega)]; exact eq_false hb
        simp (disch := omega) only [f_X7_follow_L117, f_X7_follow_L140, f_X7_follow_L154, f_X7_follow_L175, f_X7_follow_L179, oI_n, t_manyIn, decide_true, decide_false, hb, e2, iN_le, iN_lt, chk_inb, chk_t, clamp_iN, bd_some, iN_add, iN_s, iN_and, iN_or, iN_shl, e10, e01, e00, bI_0, bI_1, bI_t, bI_f, has_iN, bitc, within_iN, mk_or1, xhas_iN, add_z, if_true, if_false, ite_true, ite_false, reduceCtorEq, Bool.false_eq_true, Bool.true_and, Bool.false_and, Bool.and_true, Bool.and_false, Bool.not_true, Bool.not_false]; rfl
    · have e3 : (iN k = iN t) = False := by rw [iN_eq (by omega) (by omega)]; exact eq_false hkt
      by_cases hb : pc s = p
      · simp (disch := omega) only [f_X7_follow_L117, f_X7_follow_L140, f_X7_follow_L154, f_X7_follow_L175, f_X7_follow_L179, oI_n, t_manyIn, decide_true, hb, e3, hkt, decide_false, iN_le, iN_lt, chk_inb, chk_t, clamp_iN, bd_some, iN_add, iN_s, iN_and, iN_or, iN_shl, e10, e01, e00, bI_0, bI_1, bI_t, bI_f, has_iN, bitc, within_iN, mk_or1, xhas_iN, add_z, if_true, if_false, ite_true, ite_false, reduceCtorEq, Bool.false_eq_true, Bool.true_and, Bool.false_and, Bool.and_true, Bool.and_false, Bool.not_true, Bool.not_false]; rfl
      · have e2 : (iN (pc s) = iN p) = False := by rw [iN_eq (by omega) (by omega)]; exact eq_false hb
        simp (disch := omega) only [f_X7_follow_L117, f_X7_follow_L140, f_X7_follow_L154, f_X7_follow_L175, f_X7_follow_L179, oI_n, t_manyIn, decide_false, hb, e2, e3, hkt, beq_self_eq_true, iN_le, iN_lt, chk_inb, chk_t, clamp_iN, bd_some, iN_add, iN_s, iN_and, iN_or, iN_shl, e10, e01, e00, bI_0, bI_1, bI_t, bI_f, has_iN, bitc, within_iN, mk_or1, xhas_iN, add_z, if_true, if_false, ite_true, ite_false, reduceCtorEq, Bool.false_eq_true, Bool.true_and, Bool.false_and, Bool.and_true, Bool.and_false, Bool.not_true, Bool.not_false])
  refine ⟨(r.1, r.2), ?_, h1, h2⟩
  have e4 : iN n - 1 = iN (n - 1) := by rw [iN_1, iN_sub (by omega)]
  unfold f_X7_at f_X7_in
  simp (disch := omega) only [h.n, e4, iN_n0, if_neg (show ¬ n - 1 < p by omega), e, iN_le, iN_lt, chk_inb, chk_t, clamp_iN, bd_some, iN_add, iN_s, iN_and, iN_or, iN_shl, e10, e01, e00, bI_0, bI_1, bI_t, bI_f, has_iN, bitc, within_iN, mk_or1, xhas_iN, add_z, if_true, if_false, ite_true, ite_false, reduceCtorEq, Bool.false_eq_true, Bool.true_and, Bool.false_and, Bool.and_true, Bool.and_false, Bool.not_true, Bool.not_false]
theorem MF.same {M' : Mem} (h : MF M n b) (h1 : M' 106 = M 106) (h2 : M' 109 = M 109) : MF M' n b := ⟨fun s hs => by rw [h1]; exact h.1 s hs, fun k hk => by rw [h2]; exact h.2 k hk⟩
theorem WL2_s {s k : Nat} : WL2 b n s (k + 1) = WL2 b n s k + (if cc b s k then BC b n (s + 2 ^ k) else 0) := rfl
set_option maxRecDepth 100000 in
theorem t_lineUp (hS : St b n) (h : MR M o n b) {p : Nat} (hp : p < RW b n) : ∃ r, f_X7_lineUp M (iN o) (iN p) = some r ∧ (r.1 = iN (nu b n p n) ∧ Fr M r.2 [106, 108, 109] ∧ ∀ k < n, r.2 108 k = iN (lt b n p k)) := by
  have ho := h.o
  have h9 := h.le
  have h8 := p2_le h9
  obtain ⟨⟨r1, M1⟩, e1, hr, hf, hF⟩ := t_rowsOf h
  dsimp only at hr hf hF
  unfold f_X7_lineUp
  rw [e1, bd_some]
  dsimp only
  refine lp_to (fun j a => j ≤ n ∧ a.1 = iN (wk b n p j).2 ∧ a.2.1 = iN (wk b n p j).1 ∧ a.2.2.1 = iN (nu b n p j) ∧ a.2.2.2.1 = iN j ∧ Fr M a.2.2.2.2 [106, 108, 109] ∧ MF a.2.2.2.2 n b ∧ ∀ k < j, a.2.2.2.2 108 k = iN (lt b n p k)) n (FU_lt h9) ⟨by omega, rfl, rfl, rfl, rfl, hf.mono (by simp), hF, fun k hk => by omega⟩ ?_
  rintro j ⟨a1, a2, a3, a4, M2⟩ ⟨hj, h1, h2, h3, h4, hf2, hF2, hline⟩
  dsimp only at h1 h2 h3 h4 hf2 hF2 hline
  subst h1 h2 h3 h4
  have h' : MR M2 o n b := h.same (fun a ha => hf2 a (by simp; omega))
  obtain ⟨w1, w2, w3, w4⟩ := wk_ok hS hp hj
  have w5 := BC_le (b := b) h9 w1
  rcases Nat.lt_or_ge j n with hl | hl
  · left
    obtain ⟨t1, t2, t3, t4⟩ := lt_ok hS hp hl
    have tb := cc_W0 b _ _ t2
    have hp2 := plus_lt w1 t1 tb
    refine ⟨hl, (iN (wk b n p (j + 1)).2, iN (wk b n p (j + 1)).1, iN (nu b n p (j + 1)), iN (j + 1), upM M2 108 j (iN (lt b n p j))), ⟨hl, rfl, rfl, rfl, rfl, hf2.trans (Fr.up (by simp)), hF2.same (by funext i; simp [upM]) (by funext i; simp [upM]), fun k hk => ?_⟩, fun k => ?_⟩
    · dsimp only
      rw [upM_at]
      split
      · next e => rw [e]
      · exact hline k (by omega)
    · have q1 : (wk b n p (j + 1)).1 = (wk b n p j).1 + 2 ^ lt b n p j := rfl
      have q2 : (wk b n p (j + 1)).2 = (wk b n p j).2 - WL2 b n (wk b n p j).1 (lt b n p j) := rfl
      have q3 : nu b n p (j + 1) = nu b n p j * 10 + lt b n p j + 1 := rfl
      rw [q1, q2, q3]
      generalize hs : (wk b n p j).1 = s at *
      generalize hle : (wk b n p j).2 = l at *
      generalize ht : lt b n p j = t at *
      simp (disch := omega) only [g_X7_lineUp_L17, h'.n, if_neg (show ¬ n ≤ j by omega), iN_le, iN_lt, chk_inb, chk_t, clamp_iN, bd_some, iN_add, iN_s, iN_and, iN_or, iN_shl, e10, e01, e00, bI_0, bI_1, bI_t, bI_f, has_iN, bitc, within_iN, mk_or1, xhas_iN, add_z, if_true, if_false, ite_true, ite_false, reduceCtorEq, Bool.false_eq_true, Bool.true_and, Bool.false_and, Bool.and_true, Bool.and_false, Bool.not_true, Bool.not_false]
      have eT : (10 : Int32) = iN 10 := rfl
      have e0 : (iN l, (0 : Int32), (0 : Int32)) = (fun i => if i ≤ t then (iN (l - WL2 b n s i), iN i, (0 : Int32)) else (iN (l - WL2 b n s t), iN t, 1)) 0 := by
        simp [WL2, S]; rfl
      rw [e0]
      unfold f_X7_lineUp_L34
      refine lp_for (fun i => if i ≤ t then (iN (l - WL2 b n s i), iN i, (0 : Int32)) else (iN (l - WL2 b n s t), iN t, 1)) (t + 1) (FU_lt (by omega)) ?_ ?_
      · intro i hi g
        have hin : i < n := by omega
        have hbi := h'.lt9 hin
        have eq1 : (iN (b i &&& s) = iN (b i)) = (sb (b i) s = true) := by
          rw [iN_eq (Nat.lt_trans (and_lt9 hbi) (by decide)) (by omega)]
          exact propext (and_self_iff (h'.lt hin) h9)
        have hm1 := WL2_mono (b := b) (n := n) (s := s) (show i ≤ t by omega)
        have hws := WL2_s (b := b) (n := n) (s := s) (k := i)
        have ecc : cc b s i = (!s.testBit i && sb (b i) s) := rfl
        simp only [if_pos (show i ≤ t by omega)]
        by_cases hit : i = t
        · subst hit
          simp only [if_neg (show ¬ i + 1 ≤ i by omega)]
          rw [t2] at hws
          simp only [if_true] at hws
          have hb : s.testBit i = false := tb
          have hsb : sb (b i) s = true := by rw [t2, hb] at ecc; simpa using ecc.symm
          have hlt : ¬ BC b n (s + 2 ^ i) ≤ l - WL2 b n s i := by omega
          have hbc := BC_le (b := b) h9 hp2
          simp (disch := omega) only [g_X7_lineUp_L34, hb, hF2.2 i hin, eq1, hsb, f_X7_lineUp_L74, f_X7_lineUp_L97, f_X7_lineUp_L110, hF2.1 _ hp2, hlt, Int32.sub_zero, Int32.add_zero, iN_le, iN_lt, chk_inb, chk_t, clamp_iN, bd_some, iN_add, iN_s, iN_and, iN_or, iN_shl, e10, e01, e00, bI_0, bI_1, bI_t, bI_f, has_iN, bitc, within_iN, mk_or1, xhas_iN, add_z, if_true, if_false, ite_true, ite_false, reduceCtorEq, Bool.false_eq_true, Bool.true_and, Bool.false_and, Bool.and_true, Bool.and_false, Bool.not_true, Bool.not_false]
        · have hm2 := WL2_mono (b := b) (n := n) (s := s) (show i + 1 ≤ t by omega)
          simp only [if_pos (show i + 1 ≤ t by omega)]
          have hsub : iN (l - WL2 b n s i) - iN (if cc b s i then BC b n (s + 2 ^ i) else 0) = iN (l - WL2 b n s (i + 1)) := by
            rw [iN_sub (by omega)]; congr 1; omega
          cases hb : s.testBit i
          · cases hsb : sb (b i) s
            · rw [hb, hsb] at ecc
              rw [ecc] at hsub
              simp only [Bool.and_false, Bool.false_eq_true, if_false] at hsub
              simp (disch := omega) only [g_X7_lineUp_L34, hb, hF2.2 i hin, eq1, hsb, f_X7_lineUp_L73, f_X7_lineUp_L74, f_X7_lineUp_L97, f_X7_lineUp_L110, iN_0, if_pos (Nat.zero_le (l - WL2 b n s i)), hsub, iN_le, iN_lt, chk_inb, chk_t, clamp_iN, bd_some, iN_add, iN_s, iN_and, iN_or, iN_shl, e10, e01, e00, bI_0, bI_1, bI_t, bI_f, has_iN, bitc, within_iN, mk_or1, xhas_iN, add_z, if_true, if_false, ite_true, ite_false, reduceCtorEq, Bool.false_eq_true, Bool.true_and, Bool.false_and, Bool.and_true, Bool.and_false, Bool.not_true, Bool.not_false]
            · rw [hb, hsb] at ecc
              rw [ecc] at hsub hws
              simp only [Bool.not_false, Bool.and_true, if_true] at hsub hws
              have hp3 := plus_lt w1 hin hb
              have hbc := BC_le (b := b) h9 hp3
              have hle2 : BC b n (s + 2 ^ i) ≤ l - WL2 b n s i := by omega
              simp (disch := omega) only [g_X7_lineUp_L34, hb, hF2.2 i hin, eq1, hsb, f_X7_lineUp_L73, f_X7_lineUp_L74, f_X7_lineUp_L97, f_X7_lineUp_L110, hF2.1 _ hp3, if_pos hle2, hsub, iN_le, iN_lt, chk_inb, chk_t, clamp_iN, bd_some, iN_add, iN_s, iN_and, iN_or, iN_shl, e10, e01, e00, bI_0, bI_1, bI_t, bI_f, has_iN, bitc, within_iN, mk_or1, xhas_iN, add_z, if_true, if_false, ite_true, ite_false, reduceCtorEq, Bool.false_eq_true, Bool.true_and, Bool.false_and, Bool.and_true, Bool.and_false, Bool.not_true, Bool.not_false]
          · rw [hb] at ecc
            rw [ecc] at hsub
            simp only [Bool.not_true, Bool.false_and, Bool.false_eq_true, if_false] at hsub
            have e5 : ((0 : Int32) ≤ iN (l - WL2 b n s i)) = True := by rw [iN_0, iN_le (by omega) (by omega)]; simp
            rw [show iN 0 = (0 : Int32) from rfl] at hsub
            simp (disch := omega) only [g_X7_lineUp_L34, hb, f_X7_lineUp_L73, f_X7_lineUp_L74, f_X7_lineUp_L97, f_X7_lineUp_L110, e5, hsub, iN_le, iN_lt, chk_inb, chk_t, clamp_iN, bd_some, iN_add, iN_s, iN_and, iN_or, iN_shl, e10, e01, e00, bI_0, bI_1, bI_t, bI_f, has_iN, bitc, within_iN, mk_or1, xhas_iN, add_z, if_true, if_false, ite_true, ite_false, reduceCtorEq, Bool.false_eq_true, Bool.true_and, Bool.false_and, Bool.and_true, Bool.and_false, Bool.not_true, Bool.not_false]
      · intro g
        simp only [if_neg (show ¬ t + 1 ≤ t by omega)]
        simp (disch := omega) only [g_X7_lineUp_L34, eT, iN_mul, Nat.mul_comm 10 (nu b n p j), iN_le, iN_lt, chk_inb, chk_t, clamp_iN, bd_some, iN_add, iN_s, iN_and, iN_or, iN_shl, e10, e01, e00, bI_0, bI_1, bI_t, bI_f, has_iN, bitc, within_iN, mk_or1, xhas_iN, add_z, if_true, if_false, ite_true, ite_false, reduceCtorEq, Bool.false_eq_true, Bool.true_and, Bool.false_and, Bool.and_true, Bool.and_false, Bool.not_true, Bool.not_false]
  · right
    have e : j = n := by omega
    subst e
    exact ⟨(iN (nu b j p j), M2), ⟨rfl, hf2, hline⟩, fun k => by simp (disch := omega) only [g_X7_lineUp_L17, h'.n, if_pos (Nat.le_refl j), iN_le, iN_lt, chk_inb, chk_t, clamp_iN, bd_some, iN_add, iN_s, iN_and, iN_or, iN_shl, e10, e01, e00, bI_0, bI_1, bI_t, bI_f, has_iN, bitc, within_iN, mk_or1, xhas_iN, add_z, if_true, if_false, ite_true, ite_false, reduceCtorEq, Bool.false_eq_true, Bool.true_and, Bool.false_and, Bool.and_true, Bool.and_false, Bool.not_true, Bool.not_false]⟩
end MM
/-! ===== the reference's place of a row ===== -/
section MM
variable {M : Mem} {o n : Nat} {b : Nat → Nat}
theorem neg_1 {n j : Nat} (hj : j < n) (hn : n ≤ 9) : (if j = n then (-1 : Int32) else iN (n - 1 - j)) = iN (n - 1 - j) ∧ iN (n - 1 - j) + (-1) = (if j + 1 = n then (-1 : Int32) else iN (n - 1 - (j + 1))) := by
  refine ⟨if_neg (by omega), ?_⟩
  by_cases e : j + 1 = n
  · rw [if_pos e, show n - 1 - j = 0 by omega]; decide
  · rw [if_neg e, show n - 1 - j = n - 1 - (j + 1) + 1 by omega, ← iN_s, Int32.add_assoc, show (1 : Int32) + -1 = 0 by decide, Int32.add_zero]
theorem neg_0 {n : Nat} (hn : n ≤ 9) : iN n - 1 = (if 0 = n then (-1 : Int32) else iN (n - 1 - 0)) := by
  rcases Nat.eq_zero_or_pos n with rfl | h
  · decide
  · rw [if_neg (by omega), iN_1, iN_sub (by omega)]; rfl
theorem t_placeOfRow_neg (h : MR M o n b) {x : Int32} (hx : x < 0) : ∃ z, f_X7_placeOfRow M (iN o) x = some z ∧ (z.1 = -1 ∧ Fr M z.2 [106, 108, 109]) := by
  have ho := h.o
  have h9 := h.le
  unfold f_X7_placeOfRow
  simp (disch := omega) only [h.n, neg_0 h9, iN_le, iN_lt, chk_inb, chk_t, clamp_iN, bd_some, iN_add, iN_s, iN_and, iN_or, iN_shl, e10, e01, e00, bI_0, bI_1, bI_t, bI_f, has_iN, bitc, within_iN, mk_or1, xhas_iN, add_z, if_true, if_false, ite_true, ite_false, reduceCtorEq, Bool.false_eq_true, Bool.true_and, Bool.false_and, Bool.and_true, Bool.and_false, Bool.not_true, Bool.not_false]
  refine lp_to (fun j a => j ≤ n ∧ a.2.1 = (if j = n then (-1 : Int32) else iN (n - 1 - j)) ∧ Fr M a.2.2 [106, 108, 109]) n (FU_lt h9) ⟨by omega, rfl, Fr.refl _ _⟩ ?_
  rintro j ⟨a, a2, M1⟩ ⟨hj, h0, hf⟩
  dsimp only at h0 hf
  subst h0
  rcases Nat.lt_or_ge j n with hl | hl
  · left
    refine ⟨hl, (a / 10, if j + 1 = n then (-1 : Int32) else iN (n - 1 - (j + 1)), upM M1 108 (n - 1 - j) ((a - a / 10 * 10) - 1)), ⟨hl, rfl, hf.trans (Fr.up (by simp))⟩, fun k => ?_⟩
    rw [(neg_1 hl h9).1, ← (neg_1 hl h9).2]
    simp (disch := omega) only [g_X7_placeOfRow_L15, iN_n0, iN_le, iN_lt, chk_inb, chk_t, clamp_iN, bd_some, iN_add, iN_s, iN_and, iN_or, iN_shl, e10, e01, e00, bI_0, bI_1, bI_t, bI_f, has_iN, bitc, within_iN, mk_or1, xhas_iN, add_z, if_true, if_false, ite_true, ite_false, reduceCtorEq, Bool.false_eq_true, Bool.true_and, Bool.false_and, Bool.and_true, Bool.and_false, Bool.not_true, Bool.not_false]
  · right
    refine ⟨(-1, M1), ⟨rfl, hf⟩, fun k => ?_⟩
    rw [if_pos (show j = n by omega)]
    have e : ((-1 : Int32) < 0) = True := by decide
    simp only [g_X7_placeOfRow_L15, e, if_true, hx]
set_option maxRecDepth 100000 in
theorem t_placeOfRow (hS : St b n) (h : MR M o n b) {r : Nat} (hr : r < 2 ^ 31) : ∃ z, f_X7_placeOfRow M (iN o) (iN r) = some z ∧ (z.1 = oI (fp b n r) ∧ Fr M z.2 [106, 108, 109]) := by
  have ho := h.o
  have h9 := h.le
  have h8 := p2_le h9
  unfold f_X7_placeOfRow fp
  simp (disch := omega) only [h.n, neg_0 h9, iN_le, iN_lt, chk_inb, chk_t, clamp_iN, bd_some, iN_add, iN_s, iN_and, iN_or, iN_shl, e10, e01, e00, bI_0, bI_1, bI_t, bI_f, has_iN, bitc, within_iN, mk_or1, xhas_iN, add_z, if_true, if_false, ite_true, ite_false, reduceCtorEq, Bool.false_eq_true, Bool.true_and, Bool.false_and, Bool.and_true, Bool.and_false, Bool.not_true, Bool.not_false]
  refine lp_to (fun j a => j ≤ n ∧ a.1 = iN (r / 10 ^ j) ∧ a.2.1 = (if j = n then (-1 : Int32) else iN (n - 1 - j)) ∧ Fr M a.2.2 [106, 108, 109] ∧ ∀ k < n, n ≤ k + j → a.2.2 108 k = iN (r / 10 ^ (n - (k + 1)) % 10) - 1) n (FU_lt h9) ⟨by omega, by simp, rfl, Fr.refl _ _, fun k h1 h2 => by omega⟩ ?_
  rintro j ⟨a, a2, M1⟩ ⟨hj, h1, h0, hf, hline⟩
  dsimp only at h1 h0 hf hline
  subst h1 h0
  have hdv : r / 10 ^ j < 2 ^ 31 := Nat.lt_of_le_of_lt (Nat.div_le_self _ _) hr
  have eT : (10 : Int32) = iN 10 := rfl
  rcases Nat.lt_or_ge j n with hl | hl
  · left
    have hmod : iN (r / 10 ^ j) - iN (r / 10 ^ j / 10) * 10 = iN (r / 10 ^ j % 10) := by
      rw [eT, iN_mul, iN_sub (by omega)]
      congr 1; omega
    refine ⟨hl, (iN (r / 10 ^ (j + 1)), if j + 1 = n then (-1 : Int32) else iN (n - 1 - (j + 1)), upM M1 108 (n - 1 - j) (iN (r / 10 ^ j % 10) - 1)), ⟨hl, rfl, rfl, hf.trans (Fr.up (by simp)), fun k h2 h3 => ?_⟩, fun k => ?_⟩
    · dsimp only
      rw [upM_at]
      by_cases e : k = n - 1 - j
      · rw [if_pos e, show n - (k + 1) = j by omega]
      · rw [if_neg e]; exact hline k h2 (by omega)
    · rw [(neg_1 hl h9).1, ← (neg_1 hl h9).2]
      simp (disch := omega) only [g_X7_placeOfRow_L15, iN_n0, hmod, iN_div10 hdv, Nat.pow_succ, ← Nat.div_div_eq_div_mul, iN_le, iN_lt, chk_inb, chk_t, clamp_iN, bd_some, iN_add, iN_s, iN_and, iN_or, iN_shl, e10, e01, e00, bI_0, bI_1, bI_t, bI_f, has_iN, bitc, within_iN, mk_or1, xhas_iN, add_z, if_true, if_false, ite_true, ite_false, reduceCtorEq, Bool.false_eq_true, Bool.true_and, Bool.false_and, Bool.and_true, Bool.and_false, Bool.not_true, Bool.not_false]
  · right
    have e : j = n := by omega
    subst e
    rw [if_pos rfl]
    have em : ((-1 : Int32) < 0) = True := by decide
    by_cases hz : r / 10 ^ j = 0
    · have h1 : MR M1 o j b := h.same (fun a ha => hf a (by simp; omega))
      obtain ⟨⟨r1, M2⟩, e1, hr1, hf2, hF⟩ := t_rowsOf h1
      dsimp only at hr1 hf2 hF
      have hf3 : Fr M M2 [106, 108, 109] := hf.trans (hf2.mono (by simp))
      have hl2 : ∀ k < j, M2 108 k = iN (r / 10 ^ (j - (k + 1)) % 10) - 1 := fun k hk => by
        rw [hf2 108 (by simp)]; exact hline k hk (by omega)
      have h2 : MR M2 o j b := h.same (fun a ha => hf3 a (by simp; omega))
      have e0 : ((iN 0) = 0) = True := by simp [iN_0]
      have key : ∃ z, f_X7_placeOfRow_L73 M2 (iN j) FU (0, 0, 0) = some z ∧ (z.1 = oI (if r / 10 ^ j = 0 then (fw b j r j).map (·.2) else none) ∧ Fr M z.2 [106, 108, 109]) := by
        rw [if_pos hz]
        refine lp_to (fun i a => i ≤ j ∧ a.2.2 = iN i ∧ ∃ z, fw b j r i = some z ∧ a.2.1 = iN z.1 ∧ a.1 = iN z.2) j (FU_lt h9) ⟨by omega, rfl, (0, 0), rfl, rfl, rfl⟩ ?_
        rintro i ⟨a1, a2, a3⟩ ⟨hi, h3, z, hfw, h4, h5⟩
        dsimp only at h3 h4 h5
        subst h3 h4 h5
        obtain ⟨w1, w2, w3⟩ := fw_ok hS hi hfw
        rcases Nat.lt_or_ge i j with hl | hl
        · have hfs : fw b j r (i + 1) = if decide (r / 10 ^ (j - (i + 1)) % 10 ≠ 0) && (decide (r / 10 ^ (j - (i + 1)) % 10 - 1 < j) && cc b z.1 (r / 10 ^ (j - (i + 1)) % 10 - 1)) then some (z.1 + 2 ^ (r / 10 ^ (j - (i + 1)) % 10 - 1), z.2 + WL2 b j z.1 (r / 10 ^ (j - (i + 1)) % 10 - 1)) else none := by
            rw [fw, hfw]
          have hli := hl2 i hl
          generalize hg : r / 10 ^ (j - (i + 1)) % 10 = g at *
          have hg9 : g < 10 := by omega
          have ej : iN j - 1 = iN (j - 1) := by rw [iN_1, iN_sub (by omega)]
          by_cases hg0 : g = 0
          · right
            subst hg0
            have hno : fw b j r j = none := fw_none (k := i + 1) (by rw [hfs]; simp) (by omega)
            have em1 : iN 0 - 1 = (-1 : Int32) := by decide
            refine ⟨(-1, M2), ⟨by rw [hno]; rfl, hf3⟩, fun k => ?_⟩
            simp (disch := omega) only [g_X7_placeOfRow_L73, if_neg (show ¬ j ≤ i by omega), hli, em1, f_X7_in, em, iN_le, iN_lt, chk_inb, chk_t, clamp_iN, bd_some, iN_add, iN_s, iN_and, iN_or, iN_shl, e10, e01, e00, bI_0, bI_1, bI_t, bI_f, has_iN, bitc, within_iN, mk_or1, xhas_iN, add_z, if_true, if_false, ite_true, ite_false, reduceCtorEq, Bool.false_eq_true, Bool.true_and, Bool.false_and, Bool.and_true, Bool.and_false, Bool.not_true, Bool.not_false]
          · have hg1 : iN g - 1 = iN (g - 1) := by rw [iN_1, iN_sub (by omega)]
            by_cases hgn : g - 1 < j
            · have hbg := h2.lt9 hgn
              have eq1 : (iN (b (g - 1) &&& z.1) = iN (b (g - 1))) = (sb (b (g - 1)) z.1 = true) := by
                rw [iN_eq (Nat.lt_trans (and_lt9 hbg) (by decide)) (by omega)]
                exact propext (and_self_iff (h2.lt hgn) h9)
              have ecc : cc b z.1 (g - 1) = (!z.1.testBit (g - 1) && sb (b (g - 1)) z.1) := rfl
              cases hb : z.1.testBit (g - 1)
              · cases hsb : sb (b (g - 1)) z.1
                · right
                  have hno : fw b j r j = none := fw_none (k := i + 1) (by rw [hfs, ecc, hb, hsb]; simp) (by omega)
                  refine ⟨(-1, M2), ⟨by rw [hno]; rfl, hf3⟩, fun k => ?_⟩
                  simp (disch := omega) only [g_X7_placeOfRow_L73, if_neg (show ¬ j ≤ i by omega), hli, hg1, f_X7_in, iN_n0, ej, if_neg (show ¬ j - 1 < g - 1 by omega), hb, hF.2 _ hgn, eq1, hsb, iN_le, iN_lt, chk_inb, chk_t, clamp_iN, bd_some, iN_add, iN_s, iN_and, iN_or, iN_shl, e10, e01, e00, bI_0, bI_1, bI_t, bI_f, has_iN, bitc, within_iN, mk_or1, xhas_iN, add_z, if_true, if_false, ite_true, ite_false, reduceCtorEq, Bool.false_eq_true, Bool.true_and, Bool.false_and, Bool.and_true, Bool.and_false, Bool.not_true, Bool.not_false]
                · left
                  have hcc : cc b z.1 (g - 1) = true := by rw [ecc, hb, hsb]; rfl
                  refine ⟨hl, (iN (z.2 + WL2 b j z.1 (g - 1)), iN (z.1 + 2 ^ (g - 1)), iN (i + 1)), ⟨hl, rfl, _, by rw [hfs, if_pos (by simp [hg0, hgn, hcc])], rfl, rfl⟩, fun k => ?_⟩
                  simp (disch := omega) only [g_X7_placeOfRow_L73, if_neg (show ¬ j ≤ i by omega), hli, hg1, f_X7_in, iN_n0, ej, if_neg (show ¬ j - 1 < g - 1 by omega), hb, hF.2 _ hgn, eq1, hsb, iN_le, iN_lt, chk_inb, chk_t, clamp_iN, bd_some, iN_add, iN_s, iN_and, iN_or, iN_shl, e10, e01, e00, bI_0, bI_1, bI_t, bI_f, has_iN, bitc, within_iN, mk_or1, xhas_iN, add_z, if_true, if_false, ite_true, ite_false, reduceCtorEq, Bool.false_eq_true, Bool.true_and, Bool.false_and, Bool.and_true, Bool.and_false, Bool.not_true, Bool.not_false]
                  have e0 : (iN z.2, (0 : Int32)) = (fun m => (iN (z.2 + WL2 b j z.1 m), iN m)) 0 := rfl
                  rw [e0]
                  refine lp_for (fun m => (iN (z.2 + WL2 b j z.1 m), iN m)) (g - 1) (FU_lt (by omega)) ?_ ?_
                  · intro m hm f
                    have hmj : m < j := by omega
                    have hbm := h2.lt9 hmj
                    have eq2 : (iN (b m &&& z.1) = iN (b m)) = (sb (b m) z.1 = true) := by
                      rw [iN_eq (Nat.lt_trans (and_lt9 hbm) (by decide)) (by omega)]
                      exact propext (and_self_iff (h2.lt hmj) h9)
                    have ecm : cc b z.1 m = (!z.1.testBit m && sb (b m) z.1) := rfl
                    cases hbb : z.1.testBit m
                    · cases hss : sb (b m) z.1
                      · simp (disch := omega) only [g_X7_placeOfRow_L135, if_neg (show ¬ g - 1 ≤ m by omega), hbb, hF.2 _ hmj, eq2, hss, f_X7_placeOfRow_L176, f_X7_placeOfRow_L177, WL2_s, ecm, Nat.add_zero, iN_le, iN_lt, chk_inb, chk_t, clamp_iN, bd_some, iN_add, iN_s, iN_and, iN_or, iN_shl, e10, e01, e00, bI_0, bI_1, bI_t, bI_f, has_iN, bitc, within_iN, mk_or1, xhas_iN, add_z, if_true, if_false, ite_true, ite_false, reduceCtorEq, Bool.false_eq_true, Bool.true_and, Bool.false_and, Bool.and_true, Bool.and_false, Bool.not_true, Bool.not_false]
                      · have hp3 := plus_lt w1 hmj hbb
                        simp (disch := omega) only [g_X7_placeOfRow_L135, if_neg (show ¬ g - 1 ≤ m by omega), hbb, hF.2 _ hmj, eq2, hss, f_X7_placeOfRow_L176, f_X7_placeOfRow_L177, WL2_s, ecm, hF.1 _ hp3, ← Nat.add_assoc, iN_le, iN_lt, chk_inb, chk_t, clamp_iN, bd_some, iN_add, iN_s, iN_and, iN_or, iN_shl, e10, e01, e00, bI_0, bI_1, bI_t, bI_f, has_iN, bitc, within_iN, mk_or1, xhas_iN, add_z, if_true, if_false, ite_true, ite_false, reduceCtorEq, Bool.false_eq_true, Bool.true_and, Bool.false_and, Bool.and_true, Bool.and_false, Bool.not_true, Bool.not_false]
                    · simp (disch := omega) only [g_X7_placeOfRow_L135, if_neg (show ¬ g - 1 ≤ m by omega), hbb, f_X7_placeOfRow_L176, f_X7_placeOfRow_L177, WL2_s, ecm, Nat.add_zero, iN_le, iN_lt, chk_inb, chk_t, clamp_iN, bd_some, iN_add, iN_s, iN_and, iN_or, iN_shl, e10, e01, e00, bI_0, bI_1, bI_t, bI_f, has_iN, bitc, within_iN, mk_or1, xhas_iN, add_z, if_true, if_false, ite_true, ite_false, reduceCtorEq, Bool.false_eq_true, Bool.true_and, Bool.false_and, Bool.and_true, Bool.and_false, Bool.not_true, Bool.not_false]
                  · intro f
                    simp (disch := omega) only [g_X7_placeOfRow_L135, if_pos (Nat.le_refl (g - 1)), iN_le, iN_lt, chk_inb, chk_t, clamp_iN, bd_some, iN_add, iN_s, iN_and, iN_or, iN_shl, e10, e01, e00, bI_0, bI_1, bI_t, bI_f, has_iN, bitc, within_iN, mk_or1, xhas_iN, add_z, if_true, if_false, ite_true, ite_false, reduceCtorEq, Bool.false_eq_true, Bool.true_and, Bool.false_and, Bool.and_true, Bool.and_false, Bool.not_true, Bool.not_false]
              · right
                have hno : fw b j r j = none := fw_none (k := i + 1) (by rw [hfs, ecc, hb]; simp) (by omega)
                refine ⟨(-1, M2), ⟨by rw [hno]; rfl, hf3⟩, fun k => ?_⟩
                simp (disch := omega) only [g_X7_placeOfRow_L73, if_neg (show ¬ j ≤ i by omega), hli, hg1, f_X7_in, iN_n0, ej, if_neg (show ¬ j - 1 < g - 1 by omega), hb, iN_le, iN_lt, chk_inb, chk_t, clamp_iN, bd_some, iN_add, iN_s, iN_and, iN_or, iN_shl, e10, e01, e00, bI_0, bI_1, bI_t, bI_f, has_iN, bitc, within_iN, mk_or1, xhas_iN, add_z, if_true, if_false, ite_true, ite_false, reduceCtorEq, Bool.false_eq_true, Bool.true_and, Bool.false_and, Bool.and_true, Bool.and_false, Bool.not_true, Bool.not_false]
            · right
              have hno : fw b j r j = none := fw_none (k := i + 1) (by rw [hfs]; simp [hgn]) (by omega)
              refine ⟨(-1, M2), ⟨by rw [hno]; rfl, hf3⟩, fun k => ?_⟩
              simp (disch := omega) only [g_X7_placeOfRow_L73, if_neg (show ¬ j ≤ i by omega), hli, hg1, f_X7_in, iN_n0, ej, if_pos (show j - 1 < g - 1 by omega), iN_le, iN_lt, chk_inb, chk_t, clamp_iN, bd_some, iN_add, iN_s, iN_and, iN_or, iN_shl, e10, e01, e00, bI_0, bI_1, bI_t, bI_f, has_iN, bitc, within_iN, mk_or1, xhas_iN, add_z, if_true, if_false, ite_true, ite_false, reduceCtorEq, Bool.false_eq_true, Bool.true_and, Bool.false_and, Bool.and_true, Bool.and_false, Bool.not_true, Bool.not_false]
        · right
          have e : i = j := by omega
          subst e
          refine ⟨(iN z.2, M2), ⟨by rw [hfw]; rfl, hf3⟩, fun k => ?_⟩
          simp (disch := omega) only [g_X7_placeOfRow_L73, if_pos (Nat.le_refl i), iN_le, iN_lt, chk_inb, chk_t, clamp_iN, bd_some, iN_add, iN_s, iN_and, iN_or, iN_shl, e10, e01, e00, bI_0, bI_1, bI_t, bI_f, has_iN, bitc, within_iN, mk_or1, xhas_iN, add_z, if_true, if_false, ite_true, ite_false, reduceCtorEq, Bool.false_eq_true, Bool.true_and, Bool.false_and, Bool.and_true, Bool.and_false, Bool.not_true, Bool.not_false]
      obtain ⟨z, e2, hz2⟩ := key
      refine ⟨z, hz2, fun k => ?_⟩
      simp (disch := omega) only [g_X7_placeOfRow_L15, em, iN_n0, hz, e0, e1, e2, iN_le, iN_lt, chk_inb, chk_t, clamp_iN, bd_some, iN_add, iN_s, iN_and, iN_or, iN_shl, e10, e01, e00, bI_0, bI_1, bI_t, bI_f, has_iN, bitc, within_iN, mk_or1, xhas_iN, add_z, if_true, if_false, ite_true, ite_false, reduceCtorEq, Bool.false_eq_true, Bool.true_and, Bool.false_and, Bool.and_true, Bool.and_false, Bool.not_true, Bool.not_false]
    · refine ⟨(-1, M1), ⟨by rw [if_neg hz]; rfl, hf⟩, fun k => ?_⟩
      simp (disch := omega) only [g_X7_placeOfRow_L15, em, iN_n0, iN_ne0, hz, iN_le, iN_lt, chk_inb, chk_t, clamp_iN, bd_some, iN_add, iN_s, iN_and, iN_or, iN_shl, e10, e01, e00, bI_0, bI_1, bI_t, bI_f, has_iN, bitc, within_iN, mk_or1, xhas_iN, add_z, if_true, if_false, ite_true, ite_false, reduceCtorEq, Bool.false_eq_true, Bool.true_and, Bool.false_and, Bool.and_true, Bool.and_false, Bool.not_true, Bool.not_false]
end MM
