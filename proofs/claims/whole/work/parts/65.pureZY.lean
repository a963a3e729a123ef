/-! ===== orders that change: met, put, turned, straightened ===== -/
section MT
variable {M : Mem} {o o1 o2 n : Nat} {b b1 b2 : Nat → Nat} {v : Nat → Int32}
theorem t_meetRow (h1 : RP M o1 n b1 v) (h2 : MR M o2 n b2) (ho1 : o1 < 4) (ho2 : o2 < 4) (ho : o < 4) {f : Nat} (hf : f = 4) (h48 : M 48 f = iN n) (hisb : ∀ k < 9, ∀ j < 9, isb (M (56 + 10 * f + 1 + k) j) = true) : ∃ M', f_X7_meet_L68 (iN o1) (iN o2) (iN o) FU (0, M) = some (iN (S n fun k => pc (b1 k &&& b2 k)), M') ∧ ((∃ M1, TG f M M1 ∧ TG o M1 M') ∧ RP M' o n (fun k => b1 k &&& b2 k) v) := by
  have h9 := h1.1.le
  have e4 : (4 : Int32) = iN f := by rw [hf]; rfl
  let F : Nat → Nat → Int32 := fun x y => bI ((b1 y).testBit x && (b2 y).testBit x)
  have hF : ∀ x y, F x y = bI ((b1 y).testBit x && (b2 y).testBit x) := fun _ _ => rfl
  clear_value F
  have R : RP (wr f (pr (fun _ => 0) (fun _ => n) n 0) F (wv f (fun i => decide (i < n)) v M)) f n (fun k => b1 k &&& b2 k) v := by
    refine ⟨⟨by omega, h9, ?_, fun k hk => ⟨Nat.lt_of_le_of_lt Nat.and_le_left (h1.1.lt hk), fun j hj => ?_⟩⟩, fun k hk => ?_, fun k hk j hj => ?_⟩
    · rw [wr_ne (by omega), wv_ne (by omega)]; exact h48
    · rw [wr_at (by omega), show pr (fun _ => 0) (fun _ => n) n 0 j k = pr (fun _ => 0) (fun _ => n) n ((fun _ => 0) n) j k from rfl, pr_N, if_pos (by simp; omega), hF, Nat.testBit_and]
    · rw [wr_ne (by omega), wv_at, if_pos (decide_eq_true hk)]
    · rw [wr_at hk]
      split
      · rw [hF]; exact isb_bI _
      · rw [wv_ne (by omega)]; exact hisb k hk j hj
  obtain ⟨M', xM', htg, hRP⟩ := t_becomes (o := o) (by omega) R
  refine ⟨M', ?_, ⟨_, TG.wv.trans TG.wr, htg⟩, hRP⟩
  have e0 : M = (fun k => wv f (fun i => decide (i < k)) v M) 0 := wv_0.symm
  have H : lp (g_X7_meet_L68 (iN o1) (iN o2) (iN o)) FU (iN 0, (fun k => wv f (fun i => decide (i < k)) v M) 0) = some (iN (S n fun k => pc (b1 k &&& b2 k)), M') := by
    refine lpW (gi := fun k K => g_X7_meet_L100 (iN o1) (iN o2) (iN o) (iN k) K) f n (fun _ => 0) (fun _ => n) F (fun k => wv f (fun i => decide (i < k)) v M) h9 (fun _ _ => ⟨by omega, h9⟩) ?_ ?_ ?_ ?_
    · intro k hk K
      have r1 : wr f (pr (fun _ => 0) (fun _ => n) k 0) F (wv f (fun i => decide (i < k)) v M) 48 o1 = iN n := by rw [wr_ne (by omega), wv_ne (by omega)]; exact h1.1.n
      have r2 : wr f (pr (fun _ => 0) (fun _ => n) k 0) F (wv f (fun i => decide (i < k)) v M) (50 + o1) k = v k := by
        rw [wr_ne (by omega), wv_ne (by omega)]; exact h1.2.1 _ hk
      simp (disch := omega) only [g_X7_meet_L68, e4, chk_inb, clamp_iN, r1, iN_le, if_neg (show ¬ n ≤ k by omega), bd_some, r2]
      rw [wr_upo (by omega), wv_s rfl]; rfl
    · intro k hk j _ hj K k'
      have r1 : wr f (pr (fun _ => 0) (fun _ => n) k j) F (wv f (fun i => decide (i < k + 1)) v M) 48 o1 = iN n := by rw [wr_ne (by omega), wv_ne (by omega)]; exact h1.1.n
      have r2 : wr f (pr (fun _ => 0) (fun _ => n) k j) F (wv f (fun i => decide (i < k + 1)) v M) (56 + 10 * o1 + 1 + k) j = bI ((b1 j).testBit k) := by
        rw [wr_ne (by omega), wv_ne (by omega)]; exact h1.1.b hj hk
      have r3 : wr f (pr (fun _ => 0) (fun _ => n) k j) F (wv f (fun i => decide (i < k + 1)) v M) (56 + 10 * o2 + 1 + k) j = bI ((b2 j).testBit k) := by
        rw [wr_ne (by omega), wv_ne (by omega)]; exact h2.b hj hk
      have up : ∀ v', v' = F k j → upM (wr f (pr (fun _ => 0) (fun _ => n) k j) F (wv f (fun i => decide (i < k + 1)) v M)) (56 + 10 * f + 1 + k) j v' = wr f (pr (fun _ => 0) (fun _ => n) k (j + 1)) F (wv f (fun i => decide (i < k + 1)) v M) := fun v' hv => by
        rw [wr_up (by omega) hv, ← pr_s (Nat.zero_le _)]
      have hFkj := hF k j
      cases x1 : (b1 j).testBit k
      · rw [x1] at r2 hFkj
        have rF : (0 : Int32) = F k j := by rw [hFkj]; rfl
        simp (disch := omega) only [g_X7_meet_L100, e4, chk_inb, clamp_iN, r1, iN_le, if_neg (show ¬ n ≤ j by omega), r2, bI_f, if_true, isb0, chk_t, bd_some, up 0 rF, iN_s]
      · cases x2 : (b2 j).testBit k
        · rw [x1] at r2; rw [x2] at r3; rw [x1, x2] at hFkj
          have rF : (0 : Int32) = F k j := by rw [hFkj]; rfl
          simp (disch := omega) only [g_X7_meet_L100, e4, chk_inb, clamp_iN, r1, iN_le, if_neg (show ¬ n ≤ j by omega), r2, r3, bI_t, e10, if_false, bI_f, if_true, isb0, chk_t, bd_some, up 0 rF, iN_s]
        · rw [x1] at r2; rw [x2] at r3; rw [x1, x2] at hFkj
          have rF : (1 : Int32) = F k j := by rw [hFkj]; rfl
          simp (disch := omega) only [g_X7_meet_L100, e4, chk_inb, clamp_iN, r1, iN_le, if_neg (show ¬ n ≤ j by omega), r2, r3, bI_t, e10, if_false, isb1, chk_t, bd_some, up 1 rF, iN_s]
    · intro k hk K k'
      have r1 : wr f (pr (fun _ => 0) (fun _ => n) k n) F (wv f (fun i => decide (i < k + 1)) v M) 48 o1 = iN n := by rw [wr_ne (by omega), wv_ne (by omega)]; exact h1.1.n
      simp (disch := omega) only [g_X7_meet_L100, chk_inb, clamp_iN, r1, iN_le, if_pos (Nat.le_refl n), iN_s]
    · intro K
      have r1 : wr f (pr (fun _ => 0) (fun _ => n) n 0) F (wv f (fun i => decide (i < n)) v M) 48 o1 = iN n := by rw [wr_ne (by omega), wv_ne (by omega)]; exact h1.1.n
      simp (disch := omega) only [g_X7_meet_L68, e4, chk_inb, clamp_iN, r1, iN_le, if_pos (Nat.le_refl n), xM', bd_some, t_pairsOf hRP.1]
  rw [← e0] at H
  exact H
/-- put -/
theorem t_putRow (h : RP M o n b v) (ho : o < 4) {l t : Nat} (hl : l < n) (ht : t < n) (hr : ub b t l = false) (hb' : ∀ k < n, lk b l t k < 2 ^ n) (x : Int32) : ∃ M', f_X7_put_L56 (iN o) (iN l) (iN t) x FU (0, M) = some (iN (S n fun k => pc (lk b l t k)) - x, M') ∧ (TG o M M' ∧ RP M' o n (lk b l t) v) := by
  have h9 := h.1.le
  let F : Nat → Nat → Int32 := fun x y => bI ((lk b l t y).testBit x)
  have hF : ∀ x y, F x y = bI ((b y).testBit x || (ub b t y && ub b x l)) := fun x y => by
    show bI ((lk b l t y).testBit x) = _
    rw [lk_bit]
  have hF0 : ∀ x y, F x y = bI ((lk b l t y).testBit x) := fun _ _ => rfl
  clear_value F
  have R : RP (wr o (pr (fun _ => 0) (fun _ => n) n 0) F M) o n (lk b l t) v := by
    refine ⟨⟨h.1.o, h9, ?_, fun k hk => ⟨hb' k hk, fun j hj => ?_⟩⟩, fun k hk => ?_, fun k hk j hj => ?_⟩
    · rw [wr_ne (by omega)]; exact h.1.n
    · rw [wr_at (by omega), show pr (fun _ => 0) (fun _ => n) n 0 j k = pr (fun _ => 0) (fun _ => n) n ((fun _ => 0) n) j k from rfl, pr_N, if_pos (by simp; omega), hF0]
    · rw [wr_ne (by omega)]; exact h.2.1 k hk
    · rw [wr_at hk]
      split
      · rw [hF]; exact isb_bI _
      · exact h.2.2 k hk j hj
  refine ⟨_, ?_, TG.wr, R⟩
  have H : lp (g_X7_put_L56 (iN o) (iN l) (iN t) x) FU (iN 0, (fun _ => M) 0) = some (iN (S n fun k => pc (lk b l t k)) - x, wr o (pr (fun _ => 0) (fun _ => n) n 0) F M) := by
    refine lpW (gi := fun k K => g_X7_put_L70 (iN o) (iN l) (iN t) x (iN k) K) o n (fun _ => 0) (fun _ => n) F (fun _ => M) h9 (fun _ _ => ⟨by omega, h9⟩) ?_ ?_ ?_ ?_
    · intro k hk K
      have r1 : wr o (pr (fun _ => 0) (fun _ => n) k 0) F M 48 o = iN n := by rw [wr_ne (by omega)]; exact h.1.n
      simp (disch := omega) only [g_X7_put_L56, chk_inb, clamp_iN, r1, iN_le, if_neg (show ¬ n ≤ k by omega)]; rfl
    · intro k hk j _ hj K k'
      have r1 : wr o (pr (fun _ => 0) (fun _ => n) k j) F M 48 o = iN n := by rw [wr_ne (by omega)]; exact h.1.n
      have r2 : wr o (pr (fun _ => 0) (fun _ => n) k j) F M (56 + 10 * o + 1 + k) l = bI ((b l).testBit k) := by
        rw [wr_at (by omega), h.1.b hl hk, hF, hr, Bool.false_and, Bool.or_false, ite_self]
      have r3 : wr o (pr (fun _ => 0) (fun _ => n) k j) F M (56 + 10 * o + 1 + t) j = bI ((b j).testBit t) := by
        rw [wr_at (by omega), h.1.b hj ht, hF, hr, Bool.and_false, Bool.or_false, ite_self]
      have u1 : f_X7_isUpTo (wr o (pr (fun _ => 0) (fun _ => n) k j) F M) (iN o) (iN k) (iN l) = some (bI (ub b k l)) := by
        unfold f_X7_isUpTo ub
        by_cases e : k = l
        · subst e; simp [bI]
        · have e2 : (iN k = iN l) = False := by rw [iN_eq (by omega) (by omega)]; exact eq_false e
          simp (disch := omega) only [e2, if_false, chk_inb, clamp_iN, r2, decide_eq_false e, Bool.false_or]
          cases (b l).testBit k <;> rfl
      have u2 : f_X7_isUpTo (wr o (pr (fun _ => 0) (fun _ => n) k j) F M) (iN o) (iN t) (iN j) = some (bI (ub b t j)) := by
        unfold f_X7_isUpTo ub
        by_cases e : t = j
        · subst e; simp [bI]
        · have e2 : (iN t = iN j) = False := by rw [iN_eq (by omega) (by omega)]; exact eq_false e
          simp (disch := omega) only [e2, if_false, chk_inb, clamp_iN, r3, decide_eq_false e, Bool.false_or]
          cases (b j).testBit t <;> rfl
      have skip : (ub b t j && ub b k l) = false → wr o (pr (fun _ => 0) (fun _ => n) k j) F M = wr o (pr (fun _ => 0) (fun _ => n) k (j + 1)) F M := fun hc => by
        rw [wr_skip (k := k) (j := j) (by omega) (by rw [h.1.b hj hk, hF, hc, Bool.or_false]), ← pr_s (Nat.zero_le _)]
      cases c1 : ub b k l
      · rw [c1] at u1
        rw [← skip (by rw [c1, Bool.and_false])]
        simp (disch := omega) only [g_X7_put_L70, chk_inb, clamp_iN, r1, iN_le, if_neg (show ¬ n ≤ j by omega), u1, bd_some, bI_f, if_true, iN_s]
      · cases c2 : ub b t j
        · rw [c1] at u1; rw [c2] at u2
          rw [← skip (by rw [c2, Bool.false_and])]
          simp (disch := omega) only [g_X7_put_L70, chk_inb, clamp_iN, r1, iN_le, if_neg (show ¬ n ≤ j by omega), u1, u2, bd_some, bI_t, e10, if_false, bI_f, if_true, iN_s]
        · rw [c1] at u1; rw [c2] at u2
          have rF : (1 : Int32) = F k j := by rw [hF, c1, c2, Bool.and_true, Bool.or_true]; rfl
          simp (disch := omega) only [g_X7_put_L70, chk_inb, clamp_iN, r1, iN_le, if_neg (show ¬ n ≤ j by omega), u1, u2, bd_some, bI_t, e10, if_false, isb1, chk_t, iN_s]
          rw [wr_up (by omega) rF, ← pr_s (Nat.zero_le _)]
    · intro k hk K k'
      have r1 : wr o (pr (fun _ => 0) (fun _ => n) k n) F M 48 o = iN n := by rw [wr_ne (by omega)]; exact h.1.n
      simp (disch := omega) only [g_X7_put_L70, chk_inb, clamp_iN, r1, iN_le, if_pos (Nat.le_refl n), iN_s]
    · intro K
      have r1 : wr o (pr (fun _ => 0) (fun _ => n) n 0) F M 48 o = iN n := by rw [wr_ne (by omega)]; exact h.1.n
      simp (disch := omega) only [g_X7_put_L56, chk_inb, clamp_iN, r1, iN_le, if_pos (Nat.le_refl n), bd_some, t_pairsOf R.1]
  exact H
/-- pairs of places looked at so far, either way round -/
def pt (n k j x y : Nat) : Bool := (decide (x < y) && ((decide (x < k) && decide (y < n)) || (decide (x = k) && decide (y < j)))) || (decide (y < x) && ((decide (y < k) && decide (x < n)) || (decide (y = k) && decide (x < j))))
set_option maxRecDepth 100000 in
theorem t_turnRow (h : RP M o n b v) (ho : o < 4) (hS : St b n) : ∃ M', f_X7_turn_L16 (iN o) FU (0, M) = some (iN (S n fun k => pc (op b n k)), M') ∧ (TG o M M' ∧ RP M' o n (op b n) v) := by
  have h9 := h.1.le
  let F : Nat → Nat → Int32 := fun x y => bI ((b x).testBit y)
  have hF : ∀ x y, F x y = bI ((b x).testBit y) := fun _ _ => rfl
  clear_value F
  have R : RP (wr o (pt n n (n + 1)) F M) o n (op b n) v := by
    refine ⟨⟨h.1.o, h9, ?_, fun k hk => ⟨mk_lt _ _, fun j hj => ?_⟩⟩, fun k hk => ?_, fun k hk j hj => ?_⟩
    · rw [wr_ne (by omega)]; exact h.1.n
    · rw [wr_at (by omega), op_bit hj, hF]
      by_cases e : j = k
      · subst e
        rw [h.1.b hk hk, ite_self]
      · rw [if_pos (by unfold pt; simp; omega)]
    · rw [wr_ne (by omega)]; exact h.2.1 k hk
    · rw [wr_at hk]
      split
      · rw [hF]; exact isb_bI _
      · exact h.2.2 k hk j hj
  refine ⟨_, ?_, TG.wr, R⟩
  have e0 : M = (fun k => wr o (pt n k (k + 1)) F M) 0 := (wr_f (fun x y _ => Bool.eq_false_iff.mpr (fun hh => by
    simp only [pt, Bool.or_eq_true, Bool.and_eq_true, decide_eq_true_eq] at hh
    omega))).symm
  have H : lp (g_X7_turn_L16 (iN o)) FU (iN 0, (fun k => wr o (pt n k (k + 1)) F M) 0) = some (iN (S n fun k => pc (op b n k)), wr o (pt n n (n + 1)) F M) := by
    refine lpX (gi := fun k K => g_X7_turn_L30 (iN o) (iN k) K) n (fun k => k + 1) (fun _ => n) (fun k => wr o (pt n k (k + 1)) F M) (fun k j => wr o (pt n k j) F M) h9 (fun _ _ => ⟨by omega, h9⟩) ?_ ?_ ?_ ?_
    · intro k hk K
      have r1 : wr o (pt n k (k + 1)) F M 48 o = iN n := by rw [wr_ne (by omega)]; exact h.1.n
      simp (disch := omega) only [g_X7_turn_L16, chk_inb, clamp_iN, r1, iN_le, if_neg (show ¬ n ≤ k by omega), bd_some, iN_s]; rfl
    · intro k hk j hkj hj K k'
      have r1 : wr o (pt n k j) F M 48 o = iN n := by rw [wr_ne (by omega)]; exact h.1.n
      have r2 : wr o (pt n k j) F M (56 + 10 * o + 1 + k) j = bI ((b j).testBit k) := by
        rw [wr_at (by omega), if_neg (by unfold pt; simp; omega)]; exact h.1.b hj hk
      have r3 : wr o (pt n k j) F M (56 + 10 * o + 1 + j) k = bI ((b k).testBit j) := by
        rw [wr_at (by omega), if_neg (by unfold pt; simp; omega)]; exact h.1.b hk hj
      simp (disch := omega) only [g_X7_turn_L30, chk_inb, clamp_iN, r1, iN_le, if_neg (show ¬ n ≤ j by omega), bd_some, r2, r3, isb_bI, chk_t, iN_s]
      rw [wr_up (by omega) (hF k j).symm, wr_up (by omega) (hF j k).symm]
      congr 2
      refine wr_congr (fun x y _ => ?_)
      rw [Bool.eq_iff_iff]
      simp only [pt, Bool.or_eq_true, Bool.and_eq_true, decide_eq_true_eq]
      omega
    · intro k hk K k'
      have r1 : wr o (pt n k n) F M 48 o = iN n := by rw [wr_ne (by omega)]; exact h.1.n
      simp (disch := omega) only [g_X7_turn_L30, chk_inb, clamp_iN, r1, iN_le, if_pos (Nat.le_refl n), iN_s]
      congr 2
      refine wr_congr (fun x y _ => ?_)
      rw [Bool.eq_iff_iff]
      simp only [pt, Bool.or_eq_true, Bool.and_eq_true, decide_eq_true_eq]
      omega
    · intro K
      have r1 : wr o (pt n n (n + 1)) F M 48 o = iN n := by rw [wr_ne (by omega)]; exact h.1.n
      simp (disch := omega) only [g_X7_turn_L16, chk_inb, clamp_iN, r1, iN_le, if_pos (Nat.le_refl n), bd_some, t_pairsOf R.1]
  rw [← e0] at H
  exact H
end MT
/-! a row as a chain -/
section LN
variable {b : Nat → Nat} {n p : Nat}
/-- the place of y among the first k of the row -/
def fs (b : Nat → Nat) (n p y : Nat) : Nat → Nat
  | 0 => 0
  | k + 1 => if lt b n p k = y then k else fs b n p y k
def ps (b : Nat → Nat) (n p y : Nat) : Nat := fs b n p y n
theorem wk_s {k : Nat} : (wk b n p (k + 1)).1 = (wk b n p k).1 + 2 ^ lt b n p k := rfl
theorem wk_bit (hS : St b n) (hp : p < RW b n) {k : Nat} (hk : k < n) (x : Nat) : (wk b n p (k + 1)).1.testBit x = ((wk b n p k).1.testBit x || decide (x = lt b n p k)) := by
  obtain ⟨h1, h2, -, -⟩ := lt_ok hS hp hk
  rw [wk_s, plus_bit (wk_ok hS hp (Nat.le_of_lt hk)).1 h1 (cc_W0 b _ _ h2)]
theorem wk_iff (hS : St b n) (hp : p < RW b n) {k : Nat} (hk : k ≤ n) (x : Nat) : (wk b n p k).1.testBit x = true ↔ ∃ i, i < k ∧ lt b n p i = x := by
  induction k with
  | zero =>
    have : (wk b n p 0).1 = 0 := rfl
    rw [this]; simp
  | succ k ih =>
    rw [wk_bit hS hp (by omega), Bool.or_eq_true, ih (by omega), decide_eq_true_iff]
    constructor
    · rintro (⟨i, h1, h2⟩ | h)
      · exact ⟨i, by omega, h2⟩
      · exact ⟨k, by omega, h.symm⟩
    · rintro ⟨i, h1, h2⟩
      rcases Nat.lt_succ_iff_lt_or_eq.mp h1 with h | h
      · exact Or.inl ⟨i, h, h2⟩
      · right; rw [← h2, h]
theorem lt_inj (hS : St b n) (hp : p < RW b n) {i j : Nat} (hi : i < n) (hj : j < n) (e : lt b n p i = lt b n p j) : i = j := by
  have aux : ∀ i j, i < j → j < n → lt b n p i = lt b n p j → False := by
    intro i j hij hj e
    obtain ⟨h1, h2, -, -⟩ := lt_ok hS hp hj
    have h3 := cc_W0 b _ _ h2
    have h4 := (wk_iff hS hp (Nat.le_of_lt hj) (lt b n p j)).mpr ⟨i, hij, e⟩
    rw [h3] at h4; cases h4
  rcases Nat.lt_trichotomy i j with h | h | h
  · exact (aux i j h hj e).elim
  · exact h
  · exact (aux j i h hi e.symm).elim
theorem lt_sur (hS : St b n) (hp : p < RW b n) {y : Nat} (hy : y < n) : ∃ i, i < n ∧ lt b n p i = y := by
  obtain ⟨h1, h2, -, -⟩ := wk_ok hS hp (Nat.le_refl n)
  have h3 := (pc_n h1 hS.1).mp h2
  refine (wk_iff hS hp (Nat.le_refl n) y).mp ?_
  rw [h3, all_bit]; exact decide_eq_true hy
theorem fs_ok {y k : Nat} (h : ∃ i, i < k ∧ lt b n p i = y) : fs b n p y k < k ∧ lt b n p (fs b n p y k) = y := by
  induction k with
  | zero => obtain ⟨i, h1, -⟩ := h; omega
  | succ k ih =>
    rw [fs]
    split
    · next e => exact ⟨by omega, e⟩
    · next e =>
      obtain ⟨i, h1, h2⟩ := h
      have h3 : i < k := by
        rcases Nat.lt_succ_iff_lt_or_eq.mp h1 with h | h
        · exact h
        · exact absurd (h ▸ h2) e
      have := ih ⟨i, h3, h2⟩
      exact ⟨by omega, this.2⟩
theorem ps_ok (hS : St b n) (hp : p < RW b n) {y : Nat} (hy : y < n) : ps b n p y < n ∧ lt b n p (ps b n p y) = y := fs_ok (lt_sur hS hp hy)
theorem ps_lt (hS : St b n) (hp : p < RW b n) {i : Nat} (hi : i < n) : ps b n p (lt b n p i) = i := by
  obtain ⟨h1, h2⟩ := ps_ok hS hp (lt_ok hS hp hi).1
  exact lt_inj hS hp h1 hi h2
/-- all ahead of y -/
def lb (b : Nat → Nat) (n p y : Nat) : Nat := (wk b n p (ps b n p y)).1
theorem lb_lt (hS : St b n) (hp : p < RW b n) {y : Nat} (hy : y < n) : lb b n p y < 2 ^ n := (wk_ok hS hp (Nat.le_of_lt (ps_ok hS hp hy).1)).1
theorem lb_bit (hS : St b n) (hp : p < RW b n) {x y : Nat} (hx : x < n) (hy : y < n) : (lb b n p y).testBit x = decide (ps b n p x < ps b n p y) := by
  rw [Bool.eq_iff_iff, decide_eq_true_iff]
  unfold lb
  rw [wk_iff hS hp (Nat.le_of_lt (ps_ok hS hp hy).1)]
  constructor
  · rintro ⟨i, h1, h2⟩
    have h3 := (ps_ok hS hp hy).1
    rw [← h2, ps_lt hS hp (by omega)]; exact h1
  · intro h
    exact ⟨_, h, (ps_ok hS hp hx).2⟩
theorem lb_St (hS : St b n) (hp : p < RW b n) : St (lb b n p) n := by
  refine ⟨hS.1, fun k hk => lb_lt hS hp hk, fun k hk => ?_, fun k hk j hj hb i hi hbi => ?_⟩
  · rw [lb_bit hS hp hk hk]; exact decide_eq_false (by omega)
  · rw [lb_bit hS hp hj hk, decide_eq_true_iff] at hb
    rw [lb_bit hS hp hi hj, decide_eq_true_iff] at hbi
    rw [lb_bit hS hp hi hk]; exact decide_eq_true (by omega)
theorem b_lb (hS : St b n) (hp : p < RW b n) {x y : Nat} (hx : x < n) (hy : y < n) (h : (b y).testBit x = true) : ps b n p x < ps b n p y := by
  obtain ⟨h1, h2⟩ := ps_ok hS hp hy
  have h3 := (lt_ok hS hp h1).2.1
  rw [h2] at h3
  have h4 := ((cc_iff (hS.2.1 y hy) hS.1).mp h3).2 x hx h
  have h5 := lb_bit hS hp hx hy
  unfold lb at h5
  rw [h4] at h5
  exact of_decide_eq_true h5.symm
/-- turns k, j of the row's places -/
def pl (b : Nat → Nat) (n p k j x y : Nat) : Bool := (decide (x < n) && decide (y < n)) && (decide (ps b n p x < ps b n p y) && (decide (ps b n p x < k) || (decide (ps b n p x = k) && decide (ps b n p y < j))))
theorem pl_ok {k j x y : Nat} : pl b n p k j x y = true ↔ (x < n ∧ y < n) ∧ ps b n p x < ps b n p y ∧ (ps b n p x < k ∨ ps b n p x = k ∧ ps b n p y < j) := by
  simp only [pl, Bool.or_eq_true, Bool.and_eq_true, decide_eq_true_eq]
set_option maxRecDepth 100000 in
theorem t_lineRow {M : Mem} {o : Nat} {v : Nat → Int32} (hS : St b n) (hp : p < RW b n) (h : RP M o n b v) (ho : o < 4) (hl : ∀ k < n, M 108 k = iN (lt b n p k)) (x : Int32) : ∃ M', f_X7_straighten_L51 (iN o) x FU (0, M) = some (iN (S n fun k => pc (lb b n p k)) - x, M') ∧ (TG o M M' ∧ RP M' o n (lb b n p) v) := by
  have h9 := h.1.le
  let F : Nat → Nat → Int32 := fun _ _ => 1
  have hF : ∀ x y, F x y = 1 := fun _ _ => rfl
  clear_value F
  have R : RP (wr o (pl b n p n (n + 1)) F M) o n (lb b n p) v := by
    refine ⟨⟨h.1.o, h9, ?_, fun k hk => ⟨lb_lt hS hp hk, fun j hj => ?_⟩⟩, fun k hk => ?_, fun k hk j hj => ?_⟩
    · rw [wr_ne (by omega)]; exact h.1.n
    · have h1 := (ps_ok hS hp hj).1
      have h2 := (ps_ok hS hp hk).1
      rw [wr_at (by omega), lb_bit hS hp hj hk]
      by_cases e : ps b n p j < ps b n p k
      · rw [if_pos (pl_ok.mpr ⟨⟨hj, hk⟩, e, Or.inl h1⟩), hF, decide_eq_true e]; rfl
      · rw [if_neg (fun hh => e (pl_ok.mp hh).2.1), h.1.b hk hj, decide_eq_false e]
        cases hb : (b k).testBit j
        · rfl
        · exact absurd (b_lb hS hp hj hk hb) e
    · rw [wr_ne (by omega)]; exact h.2.1 k hk
    · rw [wr_at hk]
      split
      · rw [hF]; rfl
      · exact h.2.2 k hk j hj
  refine ⟨_, ?_, TG.wr, R⟩
  have e0 : M = (fun k => wr o (pl b n p k (k + 1)) F M) 0 := (wr_f (fun x y _ => Bool.eq_false_iff.mpr (fun hh => by
    have := pl_ok.mp hh
    omega))).symm
  have H : lp (g_X7_straighten_L51 (iN o) x) FU (iN 0, (fun k => wr o (pl b n p k (k + 1)) F M) 0) = some (iN (S n fun k => pc (lb b n p k)) - x, wr o (pl b n p n (n + 1)) F M) := by
    refine lpX (gi := fun k K => g_X7_straighten_L68 (iN o) x (iN k) K) n (fun k => k + 1) (fun _ => n) (fun k => wr o (pl b n p k (k + 1)) F M) (fun k j => wr o (pl b n p k j) F M) h9 (fun _ _ => ⟨by omega, h9⟩) ?_ ?_ ?_ ?_
    · intro k hk K
      have r1 : wr o (pl b n p k (k + 1)) F M 48 o = iN n := by rw [wr_ne (by omega)]; exact h.1.n
      simp (disch := omega) only [g_X7_straighten_L51, chk_inb, clamp_iN, r1, iN_le, if_neg (show ¬ n ≤ k by omega), bd_some, iN_s]; rfl
    · intro k hk j hkj hj K k'
      have hk' := (lt_ok hS hp hk).1
      have hj' := (lt_ok hS hp hj).1
      have r1 : wr o (pl b n p k j) F M 48 o = iN n := by rw [wr_ne (by omega)]; exact h.1.n
      have r2 : ∀ i, wr o (pl b n p k j) F M 108 i = M 108 i := fun i => by rw [wr_ne (by omega)]
      simp (disch := omega) only [g_X7_straighten_L68, chk_inb, clamp_iN, r1, iN_le, if_neg (show ¬ n ≤ j by omega), bd_some, r2, hl k hk, hl j hj, isb1, chk_t, iN_s]
      rw [wr_up (by omega) (hF _ _).symm]
      congr 2
      refine wr_congr (fun x y _ => ?_)
      rw [Bool.eq_iff_iff, Bool.or_eq_true, Bool.and_eq_true, decide_eq_true_eq, decide_eq_true_eq, pl_ok, pl_ok]
      have p1 := ps_lt hS hp hk
      have p2 := ps_lt hS hp hj
      constructor
      · rintro (⟨hxy, h1, h2⟩ | ⟨rfl, rfl⟩)
        · exact ⟨hxy, h1, by omega⟩
        · exact ⟨⟨hk', hj'⟩, by omega, by omega⟩
      · rintro ⟨⟨hx, hy⟩, h1, h2⟩
        by_cases e : ps b n p x = k ∧ ps b n p y = j
        · right
          exact ⟨by rw [← e.1, (ps_ok hS hp hx).2], by rw [← e.2, (ps_ok hS hp hy).2]⟩
        · left
          exact ⟨⟨hx, hy⟩, h1, by omega⟩
    · intro k hk K k'
      have r1 : wr o (pl b n p k n) F M 48 o = iN n := by rw [wr_ne (by omega)]; exact h.1.n
      simp (disch := omega) only [g_X7_straighten_L68, chk_inb, clamp_iN, r1, iN_le, if_pos (Nat.le_refl n), iN_s]
      congr 2
      refine wr_congr (fun x y _ => ?_)
      rw [Bool.eq_iff_iff, pl_ok, pl_ok]
      constructor
      · rintro ⟨⟨hx, hy⟩, h1, h2⟩
        exact ⟨⟨hx, hy⟩, h1, by omega⟩
      · rintro ⟨⟨hx, hy⟩, h1, h2⟩
        have := (ps_ok hS hp hy).1
        exact ⟨⟨hx, hy⟩, h1, by omega⟩
    · intro K
      have r1 : wr o (pl b n p n (n + 1)) F M 48 o = iN n := by rw [wr_ne (by omega)]; exact h.1.n
      simp (disch := omega) only [g_X7_straighten_L51, chk_inb, clamp_iN, r1, iN_le, if_pos (Nat.le_refl n), bd_some, t_pairsOf R.1]
  rw [← e0] at H
  exact H
/-- the class's side -/
theorem s_standAs {M : Mem} {q q2 : Nat} (hS : St b n) (hp : p < RW b n) (h : OR M q n b) (hq : q2 ≠ q ∧ q2 ≠ q + 1) (hl : ∀ k < n, M q2 k = iN (lt b n p k)) : ∃ M', f_X3_standAs M q q2 = some M' ∧ (Fr M M' [q + 1] ∧ OR M' q n (lb b n p)) := by
  have h9 := h.le
  have h8 := p2_le h9
  refine lp_to (fun j a => j ≤ n ∧ a.1 = iN (wk b n p j).1 ∧ a.2.1 = iN j ∧ Fr M a.2.2 [q + 1] ∧ ∀ i < j, a.2.2 (q + 1) (lt b n p i) = iN (wk b n p i).1) n (FU_lt h9) ⟨Nat.zero_le _, rfl, rfl, Fr.refl _ _, fun i hi => by omega⟩ ?_
  rintro j ⟨a1, a2, Mj⟩ ⟨hj, h1, h2, hf, hv⟩
  dsimp only at h1 h2 hf hv
  subst h1 h2
  have hn : Mj q 0 = iN n := by rw [hf q (by simp)]; exact h.n
  have hlj : ∀ k < n, Mj q2 k = iN (lt b n p k) := fun k hk => by rw [hf q2 (by simp only [List.mem_cons, List.not_mem_nil, or_false]; omega)]; exact hl k hk
  rcases Nat.lt_or_ge j n with hlt | hlt
  · left
    obtain ⟨g1, g2, -, -⟩ := lt_ok hS hp hlt
    have hw := (wk_ok hS hp hj).1
    have hor : (wk b n p j).1 ||| 2 ^ lt b n p j = (wk b n p (j + 1)).1 := by rw [wk_s, plus_or hw g1 (cc_W0 b _ _ g2)]
    refine ⟨hlt, (iN (wk b n p (j + 1)).1, iN (j + 1), upM Mj (q + 1) (lt b n p j) (iN (wk b n p j).1)), ⟨hlt, rfl, rfl, hf.trans (Fr.up (by simp)), fun i hi => ?_⟩, fun k => ?_⟩
    · dsimp only
      rw [upM_at]
      by_cases e : i = j
      · rw [e, if_pos rfl]
      · rw [if_neg (fun x => e (lt_inj hS hp (by omega) hlt x))]
        exact hv i (by omega)
    · have hht : f_X3_hasThing Mj q (iN (lt b n p j)) = some 1 := by
        have e : f_X3_hasThing Mj q (iN (lt b n p j)) = f_X3_hasThing M q (iN (lt b n p j)) := by unfold f_X3_hasThing; rw [hn, h.n]
        rw [e, hasThing_n h (by omega), decide_eq_true g1]; rfl
      simp (disch := omega) only [g_X3_standAs_L4, hn, if_neg (show ¬ n ≤ j by omega), hlj j hlt, hht, hor, iN_le, iN_lt, chk_inb, chk_t, clamp_iN, bd_some, iN_add, iN_s, iN_and, iN_or, iN_shl, e10, e01, e00, bI_0, bI_1, bI_t, bI_f, has_iN, bitc, within_iN, mk_or1, xhas_iN, add_z, if_true, if_false, ite_true, ite_false, reduceCtorEq, Bool.false_eq_true, Bool.true_and, Bool.false_and, Bool.and_true, Bool.and_false, Bool.not_true, Bool.not_false]
  · right
    have e : j = n := by omega
    subst e
    refine ⟨Mj, ⟨hf, h9, hn, fun k hk => ⟨?_, lb_lt hS hp hk⟩⟩, fun k => ?_⟩
    · obtain ⟨g1, g2⟩ := ps_ok hS hp hk
      have := hv _ g1
      rw [g2] at this
      exact this
    · simp (disch := omega) only [g_X3_standAs_L4, hn, if_pos (Nat.le_refl j), iN_le, iN_lt, chk_inb, chk_t, clamp_iN, bd_some, iN_add, iN_s, iN_and, iN_or, iN_shl, e10, e01, e00, bI_0, bI_1, bI_t, bI_f, has_iN, bitc, within_iN, mk_or1, xhas_iN, add_z, if_true, if_false, ite_true, ite_false, reduceCtorEq, Bool.false_eq_true, Bool.true_and, Bool.false_and, Bool.and_true, Bool.and_false, Bool.not_true, Bool.not_false]
end LN
