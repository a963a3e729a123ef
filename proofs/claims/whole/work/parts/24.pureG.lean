/-! ===== the reference's level; the fewest parts ===== -/
section MM
variable {M : Mem} {o n : Nat} {b : Nat → Nat}
theorem pc_b_lt (hS : St b n) {t k : Nat} (ht : t < n) (hk : k < n) (h : (b t).testBit k = true) : pc (b k) < pc (b t) :=
  pc_lt (hS.2.1 k hk) (hS.2.1 t ht) hS.1 (fun i hi hb => hS.2.2.2 t ht k hk h i hi hb) ⟨k, hk, hS.2.2.1 k hk, h⟩
theorem t_levelOf (hS : St b n) (h : MR M o n b) (d : Nat) : ∀ t < n, pc (b t) < d → f_X7_levelOf d (M, iN o, iN t) = some (iN (hg b n t)) := by
  have ho := h.o
  have h9 := h.le
  have hgl : ∀ k < n, hg b n k ≤ 9 := fun k hk => Nat.le_trans (hg_le hS hk) (Nat.le_trans (hh_le_n hS) h9)
  induction d with
  | zero => intro t _ h; omega
  | succ d ih =>
    intro t ht hd
    unfold f_X7_levelOf
    rw [lp_s, hg_s hS ht]
    show f_X7_levelOf_L5 M (iN o) (iN t) (lp b_X7_levelOf d) FU (0, 0) = _
    refine lp_for (fun j => (iN (mx j (fun k => if (b t).testBit k then hg b n k else 0)), iN j)) n (FU_lt h9) ?_ ?_
    · intro j hj k
      have hmx : mx j (fun k => if (b t).testBit k then hg b n k else 0) ≤ 9 := mx_le.mpr (fun k hk => by
        split
        · exact hgl k (by omega)
        · omega)
      have h0 : ((0 : Int32) ≤ iN (mx j (fun k => if (b t).testBit k then hg b n k else 0))) = True := by rw [iN_0, iN_le (by decide) (by omega)]; simp
      cases hb : (b t).testBit j
      · simp (disch := omega) only [g_X7_levelOf_L5, h.n, if_neg (show ¬ n ≤ j by omega), h.b ht hj, hb, mx, Nat.max_zero, h0, iN_le, iN_lt, chk_inb, chk_t, clamp_iN, bd_some, iN_add, iN_s, iN_and, iN_or, iN_shl, e10, e01, e00, bI_0, bI_1, bI_t, bI_f, has_iN, bitc, within_iN, mk_or1, xhas_iN, add_z, if_true, if_false, ite_true, ite_false, reduceCtorEq, Bool.false_eq_true, Bool.true_and, Bool.false_and, Bool.and_true, Bool.and_false, Bool.not_true, Bool.not_false]
      · have hr := ih j hj (by have := pc_b_lt hS ht hj hb; omega)
        unfold f_X7_levelOf at hr
        have := hgl j hj
        by_cases hle : hg b n j ≤ mx j (fun k => if (b t).testBit k then hg b n k else 0)
        · simp (disch := omega) only [g_X7_levelOf_L5, h.n, if_neg (show ¬ n ≤ j by omega), h.b ht hj, hb, mx, hr, hle, Nat.max_eq_left hle, iN_le, iN_lt, chk_inb, chk_t, clamp_iN, bd_some, iN_add, iN_s, iN_and, iN_or, iN_shl, e10, e01, e00, bI_0, bI_1, bI_t, bI_f, has_iN, bitc, within_iN, mk_or1, xhas_iN, add_z, if_true, if_false, ite_true, ite_false, reduceCtorEq, Bool.false_eq_true, Bool.true_and, Bool.false_and, Bool.and_true, Bool.and_false, Bool.not_true, Bool.not_false]
        · simp (disch := omega) only [g_X7_levelOf_L5, h.n, if_neg (show ¬ n ≤ j by omega), h.b ht hj, hb, mx, hr, hle, Nat.max_eq_right (show (mx j (fun k => if (b t).testBit k then hg b n k else 0)) ≤ hg b n j by omega), iN_le, iN_lt, chk_inb, chk_t, clamp_iN, bd_some, iN_add, iN_s, iN_and, iN_or, iN_shl, e10, e01, e00, bI_0, bI_1, bI_t, bI_f, has_iN, bitc, within_iN, mk_or1, xhas_iN, add_z, if_true, if_false, ite_true, ite_false, reduceCtorEq, Bool.false_eq_true, Bool.true_and, Bool.false_and, Bool.and_true, Bool.and_false, Bool.not_true, Bool.not_false]
    · intro k
      simp (disch := omega) only [g_X7_levelOf_L5, h.n, if_pos (Nat.le_refl n), iN_le, iN_lt, chk_inb, chk_t, clamp_iN, bd_some, iN_add, iN_s, iN_and, iN_or, iN_shl, e10, e01, e00, bI_0, bI_1, bI_t, bI_f, has_iN, bitc, within_iN, mk_or1, xhas_iN, add_z, if_true, if_false, ite_true, ite_false, reduceCtorEq, Bool.false_eq_true, Bool.true_and, Bool.false_and, Bool.and_true, Bool.and_false, Bool.not_true, Bool.not_false]
/-- the least of all up to m, and no more than 9 -/
def mn : Nat → (Nat → Nat) → Nat
  | 0, _ => 9
  | m + 1, f => min (mn m f) (f m)
theorem mn_ge {m k : Nat} {f : Nat → Nat} : k ≤ mn m f ↔ k ≤ 9 ∧ ∀ j < m, k ≤ f j := by
  induction m with
  | zero => simp [mn]
  | succ m ih =>
    rw [mn, Nat.le_min, ih]
    constructor
    · rintro ⟨⟨h1, h2⟩, h3⟩
      refine ⟨h1, fun j hj => ?_⟩
      rcases Nat.lt_succ_iff_lt_or_eq.mp hj with h | h
      · exact h2 j h
      · rw [h]; exact h3
    · rintro ⟨h1, h2⟩
      exact ⟨⟨h1, fun j hj => h2 j (by omega)⟩, h2 m (by omega)⟩
theorem mn_9 {m : Nat} {f : Nat → Nat} : mn m f ≤ 9 := (mn_ge.mp (Nat.le_refl _)).1
theorem mn_le {m j : Nat} {f : Nat → Nat} (hj : j < m) : mn m f ≤ f j := (mn_ge.mp (Nat.le_refl _)).2 j hj
/-- the fewest parts of s, each a chain (or each apart) -/
def DD (b : Nat → Nat) (n : Nat) (c : Bool) : Nat → Nat → Nat
  | 0, _ => 0
  | d + 1, s => if s = 0 then 0 else mn (2 ^ n) (fun x => if (!decide (x = 0) && sb x s) && ia b n x c then DD b n c d (s - x) + 1 else 9)
theorem sb_le {x s : Nat} (hx : x < 2 ^ n) (hs : s < 2 ^ n) (hn : n ≤ 9) (h : sb x s = true) : x ≤ s := by
  have := (and_self_iff hx hn).mpr h
  rw [← this]
  exact Nat.and_le_right
theorem DD_fuel {c : Bool} (hn : n ≤ 9) {d d' s : Nat} (hs : s < 2 ^ n) (h : s ≤ d) (h' : s ≤ d') : DD b n c d s = DD b n c d' s := by
  induction d generalizing d' s with
  | zero =>
    have : s = 0 := by omega
    subst this
    cases d' with
    | zero => rfl
    | succ d' => simp [DD]
  | succ d ih =>
    cases d' with
    | zero =>
      have : s = 0 := by omega
      subst this
      simp [DD]
    | succ d' =>
      rw [DD, DD]
      split
      · rfl
      · have e : (fun x => if (!decide (x = 0) && sb x s) && ia b n x c then DD b n c d (s - x) + 1 else 9) = (fun x => if (!decide (x = 0) && sb x s) && ia b n x c then DD b n c d' (s - x) + 1 else 9) := by
          funext x
          cases hc : ((!decide (x = 0) && sb x s) && ia b n x c)
          · rfl
          · simp only [if_true]
            rw [Bool.and_eq_true, Bool.and_eq_true] at hc
            have hx : x ≠ 0 := by simpa using hc.1.1
            rw [ih (d' := d') (Nat.lt_of_le_of_lt (Nat.sub_le _ _) hs) (by omega) (by omega)]
        rw [e]
def dd (b : Nat → Nat) (n : Nat) (c : Bool) (s : Nat) : Nat := DD b n c s s
theorem dd_s {c : Bool} (hn : n ≤ 9) {s : Nat} (hs : s < 2 ^ n) (h0 : s ≠ 0) : dd b n c s = mn (2 ^ n) (fun x => if (!decide (x = 0) && sb x s) && ia b n x c then dd b n c (s - x) + 1 else 9) := by
  obtain ⟨d, rfl⟩ := Nat.exists_eq_succ_of_ne_zero h0
  unfold dd
  rw [DD, if_neg h0]
  congr 1
  funext x
  cases hc : ((!decide (x = 0) && sb x (d + 1)) && ia b n x c)
  · rfl
  · simp only [if_true]
    rw [Bool.and_eq_true, Bool.and_eq_true] at hc
    have hx : x ≠ 0 := by simpa using hc.1.1
    rw [DD_fuel hn (Nat.lt_of_le_of_lt (Nat.sub_le _ _) hs) (by omega) (Nat.le_refl _)]
theorem dd_0 {c : Bool} : dd b n c 0 = 0 := rfl
theorem dd_9 {c : Bool} (hn : n ≤ 9) {s : Nat} (hs : s < 2 ^ n) : dd b n c s ≤ 9 := by
  by_cases h0 : s = 0
  · subst h0; rw [dd_0]; omega
  · rw [dd_s hn hs h0]; exact mn_9
theorem sub_bit {s x : Nat} (hs : s < 2 ^ n) (hx : x < 2 ^ n) (hn : n ≤ 9) (h : sb x s = true) (k : Nat) : (s - x).testBit k = (s.testBit k && !x.testBit k) := by
  have e : dif s x + x = s := by
    have h9 : s < 512 := Nat.lt_of_lt_of_le hs (p2_le hn)
    have hd : dif s x < 2 ^ n := Nat.lt_of_le_of_lt Nat.and_le_left hs
    have h1 := (sb_iff hx hn).mp h
    have ed : S n (fun k => if (dif s x).testBit k then 2 ^ k else 0) = dif s x := by rw [← mk_S, mk_self hd]
    have ex : S n (fun k => if x.testBit k then 2 ^ k else 0) = x := by rw [← mk_S, mk_self hx]
    have es : S n (fun k => if s.testBit k then 2 ^ k else 0) = s := by rw [← mk_S, mk_self hs]
    have key : S n (fun k => if (dif s x).testBit k then 2 ^ k else 0) + S n (fun k => if x.testBit k then 2 ^ k else 0) = S n (fun k => if s.testBit k then 2 ^ k else 0) := by
      rw [← S_add]
      refine S_congr (fun k hk => ?_)
      rw [dif_bit h9]
      cases hxk : x.testBit k
      · cases s.testBit k <;> simp
      · rw [h1 k hk hxk]; simp
    omega
  have e2 : s - x = dif s x := by omega
  rw [e2, dif_bit (Nat.lt_of_lt_of_le hs (p2_le hn))]
/-- any colouring gives a bound -/
theorem dd_col {c : Bool} (hn : n ≤ 9) (col : Nat → Nat) (N : Nat) : ∀ s, s < 2 ^ n → (∀ k < n, s.testBit k = true → col k < N) → (∀ r < N, ia b n (mk n fun k => s.testBit k && decide (col k = r)) c = true) → dd b n c s ≤ ct N (fun r => decide (∃ k, k < n ∧ s.testBit k = true ∧ col k = r)) := by
  induction N with
  | zero =>
    intro s hs h1 h2
    have : s = 0 := by
      rcases Classical.em (s = 0) with h | h
      · exact h
      · obtain ⟨k, hk, hb⟩ := ne0_bit hs h
        have := h1 k hk hb
        omega
    subst this
    rw [dd_0]; omega
  | succ N ih =>
    intro s hs h1 h2
    rw [ct_s]
    by_cases hx : ∃ k, k < n ∧ s.testBit k = true ∧ col k = N
    · obtain ⟨k, hk, hsk, hck⟩ := hx
      have h3 := mk_lt n (fun k => s.testBit k && decide (col k = N))
      have hb3 : ∀ j < n, (mk n fun k => s.testBit k && decide (col k = N)).testBit j = (s.testBit j && decide (col j = N)) := fun j hj => by rw [mk_bit]; simp [hj]
      have hia := h2 N (by omega)
      generalize hX : (mk n fun k => s.testBit k && decide (col k = N)) = x at *
      have hxs : sb x s = true := (sb_iff h3 hn).mpr (fun j hj hb => by
        rw [hb3 j hj, Bool.and_eq_true] at hb
        exact hb.1)
      have hx0 : x ≠ 0 := fun e => by
        have := hb3 k hk
        rw [e, hsk, hck] at this
        simp at this
      have hs0 : s ≠ 0 := fun e => by rw [e] at hsk; simp at hsk
      have hle : dd b n c s ≤ dd b n c (s - x) + 1 := by
        rw [dd_s hn hs hs0]
        have := mn_le h3 (f := fun x => if (!decide (x = 0) && sb x s) && ia b n x c then dd b n c (s - x) + 1 else 9)
        simpa [hx0, hxs, hia] using this
      have hsb := sub_bit hs h3 hn hxs
      have hsl : s - x < 2 ^ n := Nat.lt_of_le_of_lt (Nat.sub_le _ _) hs
      have hbit : ∀ j < n, (s - x).testBit j = (s.testBit j && !decide (col j = N)) := fun j hj => by
        rw [hsb, hb3 j hj]
        cases s.testBit j <;> simp
      have h5 := ih (s - x) hsl (fun j hj hb => by
        rw [hbit j hj, Bool.and_eq_true] at hb
        have := h1 j hj hb.1
        have h6 : col j ≠ N := by simpa using hb.2
        omega) (fun r hr => by
        have e : (mk n fun k => (s - x).testBit k && decide (col k = r)) = mk n fun k => s.testBit k && decide (col k = r) := mk_congr (fun j hj => by
          rw [hbit j hj]
          by_cases e : col j = r
          · simp [e, show ¬ r = N by omega]
          · simp [e])
        rw [e]
        exact h2 r (by omega))
      have e2 : ct N (fun r => decide (∃ k, k < n ∧ (s - x).testBit k = true ∧ col k = r)) ≤ ct N (fun r => decide (∃ k, k < n ∧ s.testBit k = true ∧ col k = r)) := S_le (fun r hr => by
        by_cases h6 : ∃ k, k < n ∧ (s - x).testBit k = true ∧ col k = r
        · obtain ⟨j, hj, hb, hc⟩ := h6
          rw [hbit j hj, Bool.and_eq_true] at hb
          dsimp only
          rw [decide_eq_true (show ∃ k, k < n ∧ s.testBit k = true ∧ col k = r from ⟨j, hj, hb.1, hc⟩)]
          exact Bool.toNat_le _
        · dsimp only
          rw [decide_eq_false h6]; exact Nat.zero_le _)
      have e3 : (decide (∃ k, k < n ∧ s.testBit k = true ∧ col k = N)).toNat = 1 := by
        rw [decide_eq_true (show ∃ k, k < n ∧ s.testBit k = true ∧ col k = N from ⟨k, hk, hsk, hck⟩)]; rfl
      omega
    · have h5 := ih s hs (fun j hj hb => by
        have := h1 j hj hb
        have h6 : col j ≠ N := fun e => hx ⟨j, hj, hb, e⟩
        omega) (fun r hr => h2 r (by omega))
      omega
/-- a set that meets each part at most once gives a bound from below -/
theorem dd_low {c : Bool} (hn : n ≤ 9) (a : Nat) (ha : a < 2 ^ n) (h : ∀ x < 2 ^ n, ia b n x c = true → pc (a &&& x) ≤ 1) : ∀ s, s < 2 ^ n → pc (a &&& s) ≤ dd b n c s := by
  intro s
  induction s using Nat.strongRecOn with
  | _ s ih =>
    intro hs
    by_cases h0 : s = 0
    · subst h0
      rw [Nat.and_zero]; exact Nat.zero_le _
    · rw [dd_s hn hs h0, mn_ge]
      refine ⟨pc_le _, fun x hx => ?_⟩
      cases hc : ((!decide (x = 0) && sb x s) && ia b n x c)
      · simp only [Bool.false_eq_true, if_false]; exact pc_le _
      · simp only [if_true]
        rw [Bool.and_eq_true, Bool.and_eq_true] at hc
        have hx0 : x ≠ 0 := by simpa using hc.1.1
        have hxs := hc.1.2
        have hle := sb_le hx hs hn hxs
        have h1 := ih (s - x) (by omega) (by omega)
        have h2 := h x hx hc.2
        have h3 : pc (a &&& s) ≤ pc (a &&& (s - x)) + pc (a &&& x) := by
          have l1 : a &&& s < 2 ^ n := Nat.lt_of_le_of_lt Nat.and_le_left ha
          have l2 : a &&& (s - x) < 2 ^ n := Nat.lt_of_le_of_lt Nat.and_le_left ha
          have l3 : a &&& x < 2 ^ n := Nat.lt_of_le_of_lt Nat.and_le_left ha
          rw [pc_ct l1 hn, pc_ct l2 hn, pc_ct l3 hn]
          unfold ct
          rw [← S_add]
          refine S_le (fun k hk => ?_)
          rw [Nat.testBit_and, Nat.testBit_and, Nat.testBit_and, sub_bit hs hx hn hxs]
          cases a.testBit k <;> cases s.testBit k <;> cases x.testBit k <;> decide
        omega
end MM
/-! ===== the reference's fewest parts ===== -/
theorem sub_next : ∀ (p x s : Nat), x < p → x &&& s = x → p &&& s = p → x ≤ (p - 1) &&& s := by
  intro p
  induction p using Nat.strongRecOn with
  | _ p ih =>
    intro x s h1 h2 h3
    have d1 : (x &&& s) / 2 = x / 2 &&& s / 2 := Nat.and_div_two
    have d2 : (p &&& s) / 2 = p / 2 &&& s / 2 := Nat.and_div_two
    have d3 : ((p - 1) &&& s) / 2 = (p - 1) / 2 &&& s / 2 := Nat.and_div_two
    rw [h2] at d1
    rw [h3] at d2
    have m1 : ∀ a c : Nat, (a &&& c) % 2 = 1 ↔ a % 2 = 1 ∧ c % 2 = 1 := fun a c => by
      have := Nat.testBit_and a c 0
      simp only [Nat.testBit_zero] at this
      constructor
      · intro h
        rw [decide_eq_true h] at this
        have := this.symm
        rw [Bool.and_eq_true] at this
        exact ⟨of_decide_eq_true this.1, of_decide_eq_true this.2⟩
      · rintro ⟨ha, hc⟩
        rw [decide_eq_true ha, decide_eq_true hc] at this
        exact of_decide_eq_true this
    have mx := m1 x s
    have mp := m1 p s
    have mq := m1 (p - 1) s
    rw [h2] at mx
    rw [h3] at mp
    rcases Nat.mod_two_eq_zero_or_one p with e | e
    · have hp2 : (p - 1) / 2 = p / 2 - 1 := by omega
      have := ih (p / 2) (by omega) (x / 2) (s / 2) (by omega) d1.symm d2.symm
      rw [hp2] at d3
      rcases Nat.mod_two_eq_zero_or_one x with ex | ex
      · omega
      · have h4 := (mx.mp ex).2
        have h5 := mq.mpr ⟨by omega, h4⟩
        omega
    · have hp2 : (p - 1) / 2 = p / 2 := by omega
      rw [hp2, ← d2] at d3
      omega
section MM
variable {M : Mem} {o n : Nat} {b : Nat → Nat}
theorem pc_le1 (hn : n ≤ 9) {s : Nat} (hs : s < 2 ^ n) (h : ∀ k < n, ∀ j < n, s.testBit k = true → s.testBit j = true → k = j) : pc s ≤ 1 := by
  by_cases h0 : s = 0
  · subst h0; exact Nat.zero_le 1
  · obtain ⟨k, hk, hb⟩ := ne0_bit hs h0
    have e : s - 2 ^ k = 0 := set_ext (minus_lt hs) (Nat.two_pow_pos n) (fun j hj => by
      rw [minus_bit hs hb]
      cases hj2 : s.testBit j
      · simp
      · simp [h k hk j hj hb hj2])
    have := minus_pc hs hn hb
    rw [e] at this
    have e2 : pc 0 = 0 := rfl
    omega
/-- the fewest sets apart: as many as the longest chain has things -/
theorem dd_false (hS : St b n) : dd b n false (2 ^ n - 1) = hh b n := by
  have hn := hS.1
  apply Nat.le_antisymm
  · refine Nat.le_trans (dd_col (b := b) (c := false) hn (fun k => hg b n k - 1) (hh b n) (2 ^ n - 1) all_lt (fun k hk _ => ?_) (fun r hr => ?_)) ct_le
    · have := hg_le hS hk
      have := hg_pos (b := b) (n := n) (t := k)
      omega
    · rw [ia_iff]
      intro k hk j hj h1 h2
      rw [mk_bit, Bool.and_eq_true, Bool.and_eq_true] at h1 h2
      have e1 := of_decide_eq_true h1.2.2
      have e2 := of_decide_eq_true h2.2.2
      have p1 := hg_pos (b := b) (n := n) (t := k)
      have p2 := hg_pos (b := b) (n := n) (t := j)
      unfold cm
      cases a1 : (b j).testBit k
      · cases a2 : (b k).testBit j
        · rfl
        · have := hg_lt hS hk (show j < n by omega) a2
          omega
      · have := hg_lt hS (show j < n by omega) hk a1
        omega
  · obtain ⟨a, ha, h1, h2, h3⟩ := lw_at hS (w := 2 ^ n - 1)
    have := dd_low (b := b) (c := false) hn a ha (fun x hx hia => pc_le1 hn (Nat.lt_of_le_of_lt Nat.and_le_left ha) (fun k hk j hj e1 e2 => by
      rw [Nat.testBit_and, Bool.and_eq_true] at e1 e2
      rcases Nat.lt_trichotomy k j with e | e | e
      · have f1 := ia_iff.mp hia j hj k e e2.2 e1.2
        have f2 := ch_iff.mp h2 j hj k e e2.1 e1.1
        rw [f1] at f2; cases f2
      · exact e
      · have f1 := ia_iff.mp hia k hk j e e1.2 e2.2
        have f2 := ch_iff.mp h2 k hk j e e1.1 e2.1
        rw [f1] at f2; cases f2)) (2 ^ n - 1) all_lt
    have e : a &&& (2 ^ n - 1) = a := (and_self_iff ha hn).mpr (sb_all ha hn)
    rw [e, h3] at this
    exact this
/-- the least with a part above p -/
def pm (b : Nat → Nat) (n : Nat) (c : Bool) (s p : Nat) : Nat := mn (2 ^ n) (fun x => if (decide (p < x) && sb x s) && ia b n x c then dd b n c (s - x) + 1 else 9)
theorem pm_top {c : Bool} (hn : n ≤ 9) {s : Nat} (hs : s < 2 ^ n) : pm b n c s s = 9 := by
  unfold pm
  apply Nat.le_antisymm mn_9
  rw [mn_ge]
  refine ⟨Nat.le_refl _, fun x hx => ?_⟩
  cases hc : ((decide (s < x) && sb x s) && ia b n x c)
  · simp
  · rw [Bool.and_eq_true, Bool.and_eq_true] at hc
    have h1 := of_decide_eq_true hc.1.1
    have h2 := sb_le hx hs hn hc.1.2
    omega
theorem pm_bot {c : Bool} (hn : n ≤ 9) {s : Nat} (hs : s < 2 ^ n) (h0 : s ≠ 0) : pm b n c s 0 = dd b n c s := by
  rw [dd_s hn hs h0]
  unfold pm
  congr 1
  funext x
  have : decide (0 < x) = !decide (x = 0) := by
    by_cases e : x = 0
    · simp [e]
    · simp [e, Nat.pos_of_ne_zero e]
  rw [this]
theorem pm_ge {c : Bool} {s p k : Nat} : k ≤ pm b n c s p ↔ k ≤ 9 ∧ ∀ x < 2 ^ n, p < x → sb x s = true → ia b n x c = true → k ≤ dd b n c (s - x) + 1 := by
  unfold pm
  rw [mn_ge]
  constructor
  · rintro ⟨h1, h2⟩
    refine ⟨h1, fun x hx hp hs hi => ?_⟩
    have := h2 x hx
    rw [decide_eq_true hp, hs, hi] at this
    exact this
  · rintro ⟨h1, h2⟩
    refine ⟨h1, fun x hx => ?_⟩
    cases hc : ((decide (p < x) && sb x s) && ia b n x c)
    · exact h1
    · rw [Bool.and_eq_true, Bool.and_eq_true] at hc
      exact h2 x hx (of_decide_eq_true hc.1.1) hc.1.2 hc.2
theorem eq_of_le_iff {a c : Nat} (h : ∀ k, k ≤ a ↔ k ≤ c) : a = c := Nat.le_antisymm ((h a).mp (Nat.le_refl _)) ((h c).mpr (Nat.le_refl _))
theorem pm_step {c : Bool} (hn : n ≤ 9) {s p : Nat} (hs : s < 2 ^ n) (hp : p < 2 ^ n) (hp0 : 0 < p) (hps : sb p s = true) : pm b n c s ((p - 1) &&& s) = min (pm b n c s p) (if ia b n p c then dd b n c (s - p) + 1 else 9) := by
  have hps' := (and_self_iff hp hn).mpr hps
  have hlt : (p - 1) &&& s < p := Nat.lt_of_le_of_lt Nat.and_le_left (by omega)
  refine eq_of_le_iff (fun k => ?_)
  rw [Nat.le_min, pm_ge, pm_ge]
  constructor
  · rintro ⟨h1, h2⟩
    refine ⟨⟨h1, fun x hx hpx => h2 x hx (by omega)⟩, ?_⟩
    split
    · next hi => exact h2 p hp hlt hps hi
    · exact h1
  · rintro ⟨⟨h1, h2⟩, h3⟩
    refine ⟨h1, fun x hx hpx hxs hi => ?_⟩
    have hxs' := (and_self_iff hx hn).mpr hxs
    rcases Nat.lt_trichotomy x p with e | e | e
    · have := sub_next p x s e hxs' hps'
      omega
    · subst e
      rw [if_pos hi] at h3
      exact h3
    · exact h2 x hx e hxs hi
theorem pm_9 {c : Bool} {s p : Nat} : pm b n c s p ≤ 9 := mn_9
theorem lp_eq {A R : Type} {g : (A → Option R) → A → Option R} (I : Nat → A → Prop) (N : Nat) {r : Option R} {F : Nat} {a : A} (hF : N < F) (h0 : I 0 a) (hs : ∀ j a, I j a → (j < N ∧ ∃ a', I (j + 1) a' ∧ ∀ k, g k a = k a') ∨ ∀ k, g k a = r) : lp g F a = r := by
  have H : ∀ d j : Nat, j + d = N → ∀ a, I j a → ∀ F, d < F → lp g F a = r := by
    intro d
    induction d with
    | zero =>
      intro j hj a ha F hF
      obtain ⟨F, rfl⟩ := Nat.exists_eq_succ_of_ne_zero (by omega : F ≠ 0)
      rcases hs j a ha with ⟨h1, -⟩ | h2
      · omega
      · rw [lp_s, h2]
    | succ d ih =>
      intro j hj a ha F hF
      obtain ⟨F, rfl⟩ := Nat.exists_eq_succ_of_ne_zero (by omega : F ≠ 0)
      rcases hs j a ha with ⟨h1, a', ha', h2⟩ | h2
      · rw [lp_s, h2]
        exact ih (j + 1) (by omega) a' ha' F (by omega)
      · rw [lp_s, h2]
  exact H N 0 (by omega) a h0 F hF
theorem upM_up {M : Mem} {k i : Nat} {x y : Int32} : upM (upM M k i x) k i y = upM M k i y := by
  funext a j
  simp only [upM]
  split
  · split <;> rfl
  · rfl
set_option maxRecDepth 100000 in
theorem t_fewestOf (h : MR M o n b) (c : Bool) : ∃ r, f_X7_fewestOf M (iN o) (bI c) = some r ∧ (r.1 = iN (dd b n c (2 ^ n - 1)) ∧ Fr M r.2 [107]) := by
  have ho := h.o
  have h9 := h.le
  have h8 := p2_le h9
  have h7 := Nat.two_pow_pos n
  have hin0 : inb 0 512 = true := by decide
  have hc0 : (0 : Int32).toNatClampNeg = 0 := rfl
  unfold f_X7_fewestOf
  simp (disch := omega) only [hin0, hc0, iN_le, iN_lt, chk_inb, chk_t, clamp_iN, bd_some, iN_add, iN_s, iN_and, iN_or, iN_shl, e10, e01, e00, bI_0, bI_1, bI_t, bI_f, has_iN, bitc, within_iN, mk_or1, xhas_iN, add_z, if_true, if_false, ite_true, ite_false, reduceCtorEq, Bool.false_eq_true, Bool.true_and, Bool.false_and, Bool.and_true, Bool.and_false, Bool.not_true, Bool.not_false]
  refine lp_to (fun j a => j + 1 ≤ 2 ^ n ∧ a.1 = iN (j + 1) ∧ Fr M a.2 [107] ∧ ∀ t ≤ j, a.2 107 t = iN (dd b n c t)) (2 ^ n) (FU_lt2 h8) ⟨by omega, rfl, Fr.up (by simp), fun t ht => ?_⟩ ?_
  · have : t = 0 := by omega
    subst this
    dsimp only
    rw [upM_eq]; rfl
  · rintro j ⟨a, M1⟩ ⟨hj, h0, hf, ht⟩
    dsimp only at h0 hf ht
    subst h0
    have h1 : MR M1 o n b := h.same (fun a ha => hf a (by simp; omega))
    rcases Nat.lt_or_ge (j + 1) (2 ^ n) with hl | hl
    · left
      refine ⟨by omega, ?_⟩
      generalize hs : j + 1 = s at *
      have hs0 : s ≠ 0 := by omega
      have key : ∃ M2 : Mem, (Fr M M2 [107] ∧ ∀ t ≤ s, M2 107 t = iN (dd b n c t)) ∧ ∀ k9 : (Int32 × Mem) → Option (Int32 × Mem), f_X7_fewestOf_L32 (iN o) (bI c) (iN s) k9 FU (iN s, upM M1 107 s 9) = k9 (iN (s + 1), M2) := by
        refine ⟨upM M1 107 s (iN (dd b n c s)), ⟨hf.trans (Fr.up (by simp)), fun t h2 => ?_⟩, fun k9 => ?_⟩
        · rw [upM_at]
          split
          · next e => rw [e]
          · exact ht t (by omega)
        · refine lp_eq (fun i a => ∃ p, a = (iN p, upM M1 107 s (iN (pm b n c s p))) ∧ p + i ≤ s ∧ sb p s = true) s (FU_lt2 (by omega)) ⟨s, by rw [pm_top h9 hl]; rfl, by omega, (sb_iff hl h9).mpr (fun k _ h => h)⟩ ?_
          rintro i _ ⟨p, rfl, hpi, hps⟩
          have hpm := pm_9 (b := b) (n := n) (c := c) (s := s) (p := p)
          by_cases hp0 : p = 0
          · right
            intro k
            subst hp0
            have hle : (iN 0 ≤ 0) = True := by decide
            simp (disch := omega) only [g_X7_fewestOf_L32, hle, pm_bot h9 hl hs0, iN_le, iN_lt, chk_inb, chk_t, clamp_iN, bd_some, iN_add, iN_s, iN_and, iN_or, iN_shl, e10, e01, e00, bI_0, bI_1, bI_t, bI_f, has_iN, bitc, within_iN, mk_or1, xhas_iN, add_z, if_true, if_false, ite_true, ite_false, reduceCtorEq, Bool.false_eq_true, Bool.true_and, Bool.false_and, Bool.and_true, Bool.and_false, Bool.not_true, Bool.not_false]
          · left
            have hlt : (p - 1) &&& s < p := Nat.lt_of_le_of_lt Nat.and_le_left (by omega)
            have hst := pm_step (b := b) (c := c) h9 hl (show p < 2 ^ n by omega) (by omega) hps
            have hd9 := dd_9 (b := b) (c := c) h9 (show s - p < 2 ^ n by omega)
            have hsub2 : sb ((p - 1) &&& s) s = true := (sb_iff (show (p - 1) &&& s < 2 ^ n by omega) h9).mpr (fun k _ h => by
              rw [Nat.testBit_and, Bool.and_eq_true] at h; exact h.2)
            refine ⟨by omega, (iN ((p - 1) &&& s), upM M1 107 s (iN (pm b n c s ((p - 1) &&& s)))), ⟨(p - 1) &&& s, rfl, by omega, hsub2⟩, fun k => ?_⟩
            have hle : (iN p ≤ 0) = False := by rw [iN_0, iN_le (by omega) (by decide)]; simp; omega
            have e1 : iN p - 1 = iN (p - 1) := by rw [iN_1, iN_sub (by omega)]
            have e2 : iN s - iN p = iN (s - p) := iN_sub (by omega)
            have e3 : upM M1 107 s (iN (pm b n c s p)) 107 (s - p) = iN (dd b n c (s - p)) := by
              rw [upM_at, if_neg (by omega)]; exact ht _ (by omega)
            have e4 : upM M1 107 s (iN (pm b n c s p)) 107 s = iN (pm b n c s p) := upM_eq
            have h2 : MR (upM M1 107 s (iN (pm b n c s p))) o n b := h1.same (fun a ha => by
              funext t
              simp only [upM, if_neg (show ¬ a = 107 by omega)])
            rw [hst]
            by_cases hx : pm b n c s p ≤ dd b n c (s - p) + 1
            · have e5 : min (pm b n c s p) (if ia b n p c then dd b n c (s - p) + 1 else 9) = pm b n c s p := Nat.min_eq_left (by split <;> omega)
              rw [e5]
              simp (disch := omega) only [g_X7_fewestOf_L32, hle, e2, e3, e4, if_pos hx, upM_up, e1, iN_le, iN_lt, chk_inb, chk_t, clamp_iN, bd_some, iN_add, iN_s, iN_and, iN_or, iN_shl, e10, e01, e00, bI_0, bI_1, bI_t, bI_f, has_iN, bitc, within_iN, mk_or1, xhas_iN, add_z, if_true, if_false, ite_true, ite_false, reduceCtorEq, Bool.false_eq_true, Bool.true_and, Bool.false_and, Bool.and_true, Bool.and_false, Bool.not_true, Bool.not_false]
            · cases hi : ia b n p c
              · have e5 : min (pm b n c s p) (if false = true then dd b n c (s - p) + 1 else 9) = pm b n c s p := Nat.min_eq_left (by simp; omega)
                rw [e5]
                simp (disch := omega) only [g_X7_fewestOf_L32, hle, e2, e3, e4, if_neg hx, t_isAll h2 (show p < 512 by omega), hi, upM_up, e1, iN_le, iN_lt, chk_inb, chk_t, clamp_iN, bd_some, iN_add, iN_s, iN_and, iN_or, iN_shl, e10, e01, e00, bI_0, bI_1, bI_t, bI_f, has_iN, bitc, within_iN, mk_or1, xhas_iN, add_z, if_true, if_false, ite_true, ite_false, reduceCtorEq, Bool.false_eq_true, Bool.true_and, Bool.false_and, Bool.and_true, Bool.and_false, Bool.not_true, Bool.not_false]
              · have e5 : min (pm b n c s p) (if true = true then dd b n c (s - p) + 1 else 9) = dd b n c (s - p) + 1 := by
                  rw [if_pos rfl]; exact Nat.min_eq_right (by omega)
                rw [e5]
                simp (disch := omega) only [g_X7_fewestOf_L32, hle, e2, e3, e4, if_neg hx, t_isAll h2 (show p < 512 by omega), hi, upM_up, e1, iN_le, iN_lt, chk_inb, chk_t, clamp_iN, bd_some, iN_add, iN_s, iN_and, iN_or, iN_shl, e10, e01, e00, bI_0, bI_1, bI_t, bI_f, has_iN, bitc, within_iN, mk_or1, xhas_iN, add_z, if_true, if_false, ite_true, ite_false, reduceCtorEq, Bool.false_eq_true, Bool.true_and, Bool.false_and, Bool.and_true, Bool.and_false, Bool.not_true, Bool.not_false]
      obtain ⟨M2, hM2, hk⟩ := key
      refine ⟨(iN (s + 1), M2), ⟨by omega, rfl, hM2.1, hM2.2⟩, fun k => ?_⟩
      have e9 : (9 : Int32) = iN 9 := rfl
      simp (disch := omega) only [g_X7_fewestOf_L9, h1.n, if_neg (show ¬ 2 ^ n ≤ s by omega), hk, iN_le, iN_lt, chk_inb, chk_t, clamp_iN, bd_some, iN_add, iN_s, iN_and, iN_or, iN_shl, e10, e01, e00, bI_0, bI_1, bI_t, bI_f, has_iN, bitc, within_iN, mk_or1, xhas_iN, add_z, if_true, if_false, ite_true, ite_false, reduceCtorEq, Bool.false_eq_true, Bool.true_and, Bool.false_and, Bool.and_true, Bool.and_false, Bool.not_true, Bool.not_false]
    · right
      have e : 2 ^ n - 1 = j := by omega
      have hsub : iN (2 ^ n) - 1 = iN (2 ^ n - 1) := by rw [iN_1, iN_sub (by omega)]
      refine ⟨(iN (dd b n c (2 ^ n - 1)), M1), ⟨rfl, hf⟩, fun k => ?_⟩
      have h2 := ht (2 ^ n - 1) (by omega)
      simp (disch := omega) only [g_X7_fewestOf_L9, h1.n, if_pos (show 2 ^ n ≤ j + 1 by omega), hsub, h2, iN_le, iN_lt, chk_inb, chk_t, clamp_iN, bd_some, iN_add, iN_s, iN_and, iN_or, iN_shl, e10, e01, e00, bI_0, bI_1, bI_t, bI_f, has_iN, bitc, within_iN, mk_or1, xhas_iN, add_z, if_true, if_false, ite_true, ite_false, reduceCtorEq, Bool.false_eq_true, Bool.true_and, Bool.false_and, Bool.and_true, Bool.and_false, Bool.not_true, Bool.not_false]
end MM
