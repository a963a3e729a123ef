/-! ===== the things of a set, numbered anew ===== -/
/-- the i-th thing of s, out of those below m -/
def phm (s : Nat) : Nat → Nat → Nat
  | 0, _ => 0
  | m + 1, i => if s.testBit m && decide (i = ct m s.testBit) then m else phm s m i
def ph (s i : Nat) : Nat := phm s 9 i
theorem ct_mono {m m' : Nat} {p : Nat → Bool} (h : m ≤ m') : ct m p ≤ ct m' p := by
  obtain ⟨d, rfl⟩ := Nat.exists_eq_add_of_le h
  induction d with
  | zero => exact Nat.le_refl _
  | succ d ih =>
    rw [← Nat.add_assoc, ct_s]
    have := ih (by omega)
    omega
theorem phm_spec {s : Nat} (m : Nat) : ∀ i < ct m s.testBit, phm s m i < m ∧ s.testBit (phm s m i) = true ∧ ct (phm s m i) s.testBit = i := by
  induction m with
  | zero => intro i h; cases h
  | succ m ih =>
    intro i h
    rw [ct_s] at h
    rw [phm]
    cases hb : s.testBit m
    · rw [hb] at h
      simp only [Bool.toNat_false, Nat.add_zero] at h
      simp only [Bool.false_and, Bool.false_eq_true, if_false]
      obtain ⟨h1, h2, h3⟩ := ih i h
      exact ⟨by omega, h2, h3⟩
    · by_cases e : i = ct m s.testBit
      · rw [if_pos (by simp [e])]
        exact ⟨by omega, hb, e.symm⟩
      · rw [hb] at h
        simp only [Bool.toNat_true] at h
        simp only [e, decide_false, Bool.and_false, Bool.false_eq_true, if_false]
        obtain ⟨h1, h2, h3⟩ := ih i (by omega)
        exact ⟨by omega, h2, h3⟩
theorem ct_inj {s j k : Nat} (hj : s.testBit j = true) (hk : s.testBit k = true) (h : ct j s.testBit = ct k s.testBit) : j = k := by
  rcases Nat.lt_trichotomy j k with e | e | e
  · have := ct_mono (p := s.testBit) (show j + 1 ≤ k by omega)
    rw [ct_s, hj, Bool.toNat_true] at this
    omega
  · exact e
  · have := ct_mono (p := s.testBit) (show k + 1 ≤ j by omega)
    rw [ct_s, hk, Bool.toNat_true] at this
    omega
section SQ
variable {n : Nat} {b : Nat → Nat} {s : Nat}
theorem ct_9 (hs : s < 2 ^ n) (hn : n ≤ 9) : ct 9 s.testBit = pc s := (pc_ct (n := 9) (Nat.lt_of_lt_of_le hs (p2_le hn)) (Nat.le_refl 9)).symm
theorem ph_spec (hs : s < 2 ^ n) (hn : n ≤ 9) {i : Nat} (hi : i < pc s) : ph s i < n ∧ s.testBit (ph s i) = true ∧ ct (ph s i) s.testBit = i := by
  rw [← ct_9 hs hn] at hi
  obtain ⟨h1, h2, h3⟩ := phm_spec 9 i hi
  exact ⟨bit_lt hs h2, h2, h3⟩
theorem ct_pc (hs : s < 2 ^ n) (hn : n ≤ 9) {k : Nat} (hk : s.testBit k = true) : ct k s.testBit < pc s := by
  have h1 := bit_lt hs hk
  have := ct_mono (p := s.testBit) (show k + 1 ≤ n by omega)
  rw [ct_s, hk, Bool.toNat_true, ← pc_ct hs hn] at this
  omega
theorem ph_ct (hs : s < 2 ^ n) (hn : n ≤ 9) {k : Nat} (hk : s.testBit k = true) : ph s (ct k s.testBit) = k := by
  obtain ⟨-, h2, h3⟩ := ph_spec hs hn (ct_pc hs hn hk)
  exact ct_inj h2 hk h3
/-- x, with the things of s alone, numbered anew -/
def sq (s x : Nat) : Nat := mk (pc s) (fun i => x.testBit (ph s i))
theorem sq_bit {x i : Nat} : (sq s x).testBit i = (decide (i < pc s) && x.testBit (ph s i)) := mk_bit _ _ _
theorem s_squeezed (hs : s < 2 ^ n) (hn : n ≤ 9) {x : Nat} (hx : x < 512) : f_X3_squeezed (iN x) (iN s) = some (iN (sq s x)) := by
  have hs9 : s < 512 := Nat.lt_of_lt_of_le hs (p2_le hn)
  have e9 : (9 : Int32) = iN 9 := rfl
  have e0 : sq s x = mk (ct 9 s.testBit) (fun i => x.testBit (ph s i)) := by rw [ct_9 hs hn]; rfl
  rw [e0]
  refine lp_for (fun j => (iN (mk (ct j s.testBit) (fun i => x.testBit (ph s i))), iN (ct j s.testBit), iN j)) 9 (FU_lt (Nat.le_refl 9)) ?_ ?_
  · intro j hj k
    have hcj := ct_le (n := j) (p := s.testBit)
    cases hb : s.testBit j
    · simp (disch := omega) only [g_X3_squeezed_L7, e9, if_neg (show ¬ 9 ≤ j by omega), hb, ct_s, Bool.toNat_false, Nat.add_zero, iN_le, iN_lt, chk_inb, chk_t, clamp_iN, bd_some, iN_add, iN_s, iN_and, iN_or, iN_shl, e10, e01, e00, bI_0, bI_1, bI_t, bI_f, has_iN, bitc, within_iN, mk_or1, xhas_iN, add_z, if_true, if_false, ite_true, ite_false, reduceCtorEq, Bool.false_eq_true, Bool.true_and, Bool.false_and, Bool.and_true, Bool.and_false, Bool.not_true, Bool.not_false]
    · have hp := ph_ct hs hn hb
      cases hc : x.testBit j
      · simp (disch := omega) only [g_X3_squeezed_L7, e9, if_neg (show ¬ 9 ≤ j by omega), hb, hc, ct_s, Bool.toNat_true, mk, hp, Nat.add_zero, iN_le, iN_lt, chk_inb, chk_t, clamp_iN, bd_some, iN_add, iN_s, iN_and, iN_or, iN_shl, e10, e01, e00, bI_0, bI_1, bI_t, bI_f, has_iN, bitc, within_iN, mk_or1, xhas_iN, add_z, if_true, if_false, ite_true, ite_false, reduceCtorEq, Bool.false_eq_true, Bool.true_and, Bool.false_and, Bool.and_true, Bool.and_false, Bool.not_true, Bool.not_false]
      · simp (disch := omega) only [g_X3_squeezed_L7, e9, if_neg (show ¬ 9 ≤ j by omega), hb, hc, ct_s, Bool.toNat_true, mk, hp, iN_le, iN_lt, chk_inb, chk_t, clamp_iN, bd_some, iN_add, iN_s, iN_and, iN_or, iN_shl, e10, e01, e00, bI_0, bI_1, bI_t, bI_f, has_iN, bitc, within_iN, mk_or1, xhas_iN, add_z, if_true, if_false, ite_true, ite_false, reduceCtorEq, Bool.false_eq_true, Bool.true_and, Bool.false_and, Bool.and_true, Bool.and_false, Bool.not_true, Bool.not_false]
  · intro k
    simp (disch := omega) only [g_X3_squeezed_L7, e9, if_pos (Nat.le_refl 9), iN_le, iN_lt, chk_inb, chk_t, clamp_iN, bd_some, iN_add, iN_s, iN_and, iN_or, iN_shl, e10, e01, e00, bI_0, bI_1, bI_t, bI_f, has_iN, bitc, within_iN, mk_or1, xhas_iN, add_z, if_true, if_false, ite_true, ite_false, reduceCtorEq, Bool.false_eq_true, Bool.true_and, Bool.false_and, Bool.and_true, Bool.and_false, Bool.not_true, Bool.not_false]
/-- below the i-th thing that stays -/
def rb (b : Nat → Nat) (s i : Nat) : Nat := sq s (b (ph s i))
theorem rb_bit {i j : Nat} (hj : j < pc s) : (rb b s i).testBit j = (b (ph s i)).testBit (ph s j) := by
  unfold rb
  rw [sq_bit]; simp [hj]
theorem rb_St (hS : St b n) (hs : s < 2 ^ n) : St (rb b s) (pc s) := by
  have hn := hS.1
  refine ⟨pc_le s, fun k hk => mk_lt _ _, fun k hk => ?_, fun k hk j hj hb i hi hbi => ?_⟩
  · rw [rb_bit hk]
    exact hS.2.2.1 _ (ph_spec hs hn hk).1
  · rw [rb_bit hj] at hb
    rw [rb_bit hi] at hbi ⊢
    exact hS.2.2.2 _ (ph_spec hs hn hk).1 _ (ph_spec hs hn hj).1 hb _ (ph_spec hs hn hi).1 hbi
theorem s_retain {M : Mem} {q : Nat} (h : OR M q n b) (hs : s < 2 ^ n) : ∃ M', f_X3_retain M q (iN s) = some M' ∧ (Fr M M' [q, q + 1, q + 2] ∧ OR M' q (pc s) (rb b s) ∧ ∀ i < pc s, M' (q + 2) i = M (q + 2) (ph s i)) := by
  have hn := h.le
  have h9 := h.le
  have h8 := p2_le h9
  have hpc : ct n s.testBit = pc s := (pc_ct hs hn).symm
  refine lp_to (fun j a => j ≤ n ∧ a.1 = iN (ct j s.testBit) ∧ a.2.1 = iN j ∧ Fr M a.2.2 [q, q + 1, q + 2] ∧ a.2.2 q 0 = iN n ∧ (∀ i < ct j s.testBit, a.2.2 (q + 1) i = iN (rb b s i) ∧ a.2.2 (q + 2) i = M (q + 2) (ph s i)) ∧ ∀ k, j ≤ k → a.2.2 (q + 1) k = M (q + 1) k ∧ a.2.2 (q + 2) k = M (q + 2) k) n (FU_lt h9) ⟨by omega, rfl, rfl, Fr.refl _ _, h.n, fun i hi => (by cases hi), fun k _ => ⟨rfl, rfl⟩⟩ ?_
  rintro j ⟨a1, a2, M1⟩ ⟨hj, h1, h2, hf, hn1, hv, hw⟩
  dsimp only at h1 h2 hf hn1 hv hw
  subst h1 h2
  have hcj := ct_le (n := j) (p := s.testBit)
  rcases Nat.lt_or_ge j n with hl | hl
  · left
    refine ⟨hl, ?_⟩
    cases hb : s.testBit j
    · refine ⟨(iN (ct (j + 1) s.testBit), iN (j + 1), M1), ⟨hl, rfl, rfl, hf, hn1, ?_, fun k hk => hw k (by omega)⟩, fun k => ?_⟩
      · rw [ct_s, hb]; exact hv
      · simp (disch := omega) only [g_X3_retain_L4, hn1, if_neg (show ¬ n ≤ j by omega), hb, ct_s, Bool.toNat_false, Nat.add_zero, iN_le, iN_lt, chk_inb, chk_t, clamp_iN, bd_some, iN_add, iN_s, iN_and, iN_or, iN_shl, e10, e01, e00, bI_0, bI_1, bI_t, bI_f, has_iN, bitc, within_iN, mk_or1, xhas_iN, add_z, if_true, if_false, ite_true, ite_false, reduceCtorEq, Bool.false_eq_true, Bool.true_and, Bool.false_and, Bool.and_true, Bool.and_false, Bool.not_true, Bool.not_false]
    · have hp := ph_ct hs hn hb
      have hbj := h.lt9 hl
      have hw1 := (hw j (Nat.le_refl j)).1
      have hw2 := (hw j (Nat.le_refl j)).2
      rw [h.b hl] at hw1
      have hsq := s_squeezed hs hn hbj
      refine ⟨(iN (ct (j + 1) s.testBit), iN (j + 1), upM (upM M1 (q + 1) (ct j s.testBit) (iN (sq s (b j)))) (q + 2) (ct j s.testBit) (M (q + 2) j)), ⟨hl, rfl, rfl, (hf.trans (Fr.up (by simp))).trans (Fr.up (by simp)), ?_, fun i hi => ?_, fun k hk => ?_⟩, fun k => ?_⟩
      · dsimp only
        rw [upM_ne2 (by omega), upM_ne2 (by omega)]; exact hn1
      · dsimp only
        rw [upM_ne2 (by omega), upM_at, upM_at, upM_ne2 (by omega)]
        rw [ct_s, hb, Bool.toNat_true] at hi
        by_cases e : i = ct j s.testBit
        · rw [if_pos e, if_pos e, e, hp]
          exact ⟨by unfold rb; rw [hp], rfl⟩
        · rw [if_neg e, if_neg e]
          exact hv i (by omega)
      · dsimp only
        rw [upM_ne2 (by omega), upM_at, upM_at, upM_ne2 (by omega), if_neg (by omega), if_neg (by omega)]
        exact hw k (by omega)
      · have e2 : upM M1 (q + 1) (ct j s.testBit) (iN (sq s (b j))) (q + 2) j = M (q + 2) j := by rw [upM_ne2 (by omega)]; exact hw2
        simp (disch := omega) only [g_X3_retain_L4, hn1, if_neg (show ¬ n ≤ j by omega), hb, hw1, hsq, e2, ct_s, Bool.toNat_true, iN_le, iN_lt, chk_inb, chk_t, clamp_iN, bd_some, iN_add, iN_s, iN_and, iN_or, iN_shl, e10, e01, e00, bI_0, bI_1, bI_t, bI_f, has_iN, bitc, within_iN, mk_or1, xhas_iN, add_z, if_true, if_false, ite_true, ite_false, reduceCtorEq, Bool.false_eq_true, Bool.true_and, Bool.false_and, Bool.and_true, Bool.and_false, Bool.not_true, Bool.not_false]
  · right
    have e : j = n := by omega
    subst e
    rw [hpc] at hv
    refine ⟨upM M1 q 0 (iN (pc s)), ⟨hf.trans (Fr.up (by simp)), ⟨pc_le s, upM_eq, fun k hk => ⟨?_, mk_lt _ _⟩⟩, fun i hi => ?_⟩, fun k => ?_⟩
    · rw [upM_ne2 (by omega)]; exact (hv k hk).1
    · rw [upM_ne2 (by omega)]; exact (hv i hi).2
    · simp (disch := omega) only [g_X3_retain_L4, hn1, if_pos (Nat.le_refl j), hpc, iN_le, iN_lt, chk_inb, chk_t, clamp_iN, bd_some, iN_add, iN_s, iN_and, iN_or, iN_shl, e10, e01, e00, bI_0, bI_1, bI_t, bI_f, has_iN, bitc, within_iN, mk_or1, xhas_iN, add_z, if_true, if_false, ite_true, ite_false, reduceCtorEq, Bool.false_eq_true, Bool.true_and, Bool.false_and, Bool.and_true, Bool.and_false, Bool.not_true, Bool.not_false]
/-! ways in what stays, if that is closed -/
theorem S_re {m : Nat} {f : Nat → Nat} : S m (fun k => if s.testBit k then f (ct k s.testBit) else 0) = S (ct m s.testBit) f := by
  induction m with
  | zero => rfl
  | succ m ih =>
    rw [S, ih, ct_s]
    cases hb : s.testBit m
    · simp
    · simp [S]
def ex (n s t : Nat) : Nat := mk n (fun k => s.testBit k && t.testBit (ct k s.testBit))
theorem ex_bit {t k : Nat} (hk : k < n) : (ex n s t).testBit k = (s.testBit k && t.testBit (ct k s.testBit)) := by
  unfold ex
  rw [mk_bit]; simp [hk]
theorem ex_lt {t : Nat} : ex n s t < 2 ^ n := mk_lt _ _
theorem ex_minus {t k : Nat} (hs : s < 2 ^ n) (hn : n ≤ 9) (hk : k < n) (hsk : s.testBit k = true) (ht : t < 2 ^ pc s) (htk : t.testBit (ct k s.testBit) = true) : ex n s (t - 2 ^ ct k s.testBit) = ex n s t - 2 ^ k := by
  have h1 : (ex n s t).testBit k = true := by rw [ex_bit hk, hsk, htk]; rfl
  refine set_ext ex_lt (minus_lt ex_lt) (fun j hj => ?_)
  rw [minus_bit ex_lt h1, ex_bit hj, ex_bit hj, minus_bit ht htk]
  by_cases e : j = k
  · simp [e]
  · cases hb : s.testBit j
    · simp
    · have : ct j s.testBit ≠ ct k s.testBit := fun e2 => e (ct_inj hb hsk e2)
      simp [e, this]
theorem FW_rb (hS : St b n) (hs : s < 2 ^ n) (hc : cl b n s = true) (d : Nat) : ∀ t, t < 2 ^ pc s → FW (cc (rb b s)) (pc s) d t = FW (cc b) n d (ex n s t) := by
  have hn := hS.1
  have hcl := (cl_iff hS.2.1 hn).mp hc
  induction d with
  | zero => intro t _; rfl
  | succ d ih =>
    intro t ht
    rw [FW, FW, pc_ct hs hn, ← S_re]
    refine S_congr (fun k hk => ?_)
    rw [ex_bit hk]
    cases hsk : s.testBit k
    · rfl
    · cases htk : t.testBit (ct k s.testBit)
      · simp
      · have hi := ct_pc hs hn hsk
        have hp := ph_ct hs hn hsk
        have hem := ex_minus hs hn hk hsk ht htk
        have hcc : cc (rb b s) (t - 2 ^ ct k s.testBit) (ct k s.testBit) = cc b (ex n s t - 2 ^ k) k := by
          rw [Bool.eq_iff_iff, cc_iff (n := pc s) (mk_lt _ _) (pc_le s), cc_iff (n := n) (hS.2.1 k hk) hn, ← hem]
          constructor
          · rintro ⟨-, h2⟩
            refine ⟨?_, fun j hj hb => ?_⟩
            · rw [ex_bit hk, minus_no ht htk]; simp
            · have hsj := hcl k hk hsk j hj hb
              rw [ex_bit hj, hsj, Bool.true_and]
              refine h2 _ (ct_pc hs hn hsj) ?_
              rw [rb_bit (ct_pc hs hn hsj), hp, ph_ct hs hn hsj]; exact hb
          · rintro ⟨-, h2⟩
            refine ⟨minus_no ht htk, fun i hi2 hb => ?_⟩
            rw [rb_bit hi2, hp] at hb
            obtain ⟨p1, p2, p3⟩ := ph_spec hs hn hi2
            have := h2 _ p1 hb
            rw [ex_bit p1, p2, p3] at this
            simpa using this
        simp only [Bool.true_and, if_true]
        rw [hcc, ← pc_ct hs hn, ih _ (minus_lt ht), hem]
theorem ex_all (hs : s < 2 ^ n) (hn : n ≤ 9) : ex n s (2 ^ pc s - 1) = s := by
  refine set_ext ex_lt hs (fun k hk => ?_)
  rw [ex_bit hk]
  cases hb : s.testBit k
  · rfl
  · rw [all_bit]; simp [ct_pc hs hn hb]
theorem RW_rb (hS : St b n) (hs : s < 2 ^ n) (hc : cl b n s = true) : RW (rb b s) (pc s) = FC b n s := by
  rw [← FC_all (pc_le s)]
  unfold FC
  rw [pc_all (pc_le s), FW_rb hS hs hc _ _ all_lt, ex_all hs hS.1]
theorem gr_bit {k : Nat} (hb : ∀ k < n, b k < 2 ^ n) (hn : n ≤ 9) (hs : s < 2 ^ n) : (gr b n s).testBit k = (s.testBit k && !(un b s n).testBit k) := dif_bit (Nat.lt_of_lt_of_le hs (p2_le hn))
/-- the greatest things, one by one -/
theorem top_cl (hS : St b n) {k : Nat} (hk : k < n) : cl b n (2 ^ n - 1 - 2 ^ k) = true ↔ (gr b n (2 ^ n - 1)).testBit k = true := by
  have hn := hS.1
  have hka : (2 ^ n - 1).testBit k = true := by rw [all_bit]; simp [hk]
  rw [cl_iff hS.2.1 hn, gr_bit hS.2.1 hn all_lt, hka, Bool.true_and, Bool.not_eq_true', ← Bool.not_eq_true, un_bit]
  constructor
  · rintro h ⟨j, hj, -, hb⟩
    have hjk : j ≠ k := fun e => by rw [e, hS.2.2.1 k hk] at hb; cases hb
    have := h j hj (by rw [minus_bit all_lt hka, all_bit]; simp [hj, hjk]) k hk hb
    rw [minus_no all_lt hka] at this; cases this
  · intro h j hj hb i hi hbi
    rw [minus_bit all_lt hka, all_bit]
    have : i ≠ k := fun e => h ⟨j, hj, by rw [all_bit]; simp [hj], by rw [← e]; exact hbi⟩
    simp [hi, this]
theorem RW_tops (hS : St b n) (h0 : n ≠ 0) : RW b n = S n (fun k => if (gr b n (2 ^ n - 1)).testBit k then RW (rb b (2 ^ n - 1 - 2 ^ k)) (n - 1) else 0) := by
  have hn := hS.1
  have hne : 2 ^ n - 1 ≠ 0 := by
    have : 2 ^ 1 ≤ 2 ^ n := Nat.pow_le_pow_right (by decide) (by omega)
    omega
  rw [← FC_all hn, FC_s all_lt hn hne]
  refine S_congr (fun k hk => ?_)
  have hka : (2 ^ n - 1).testBit k = true := by rw [all_bit]; simp [hk]
  have hpc : pc (2 ^ n - 1 - 2 ^ k) = n - 1 := by
    have := minus_pc all_lt hn hka
    rw [pc_all hn] at this; omega
  have hcc : cc b (2 ^ n - 1 - 2 ^ k) k = true := (cc_iff (hS.2.1 k hk) hn).mpr ⟨minus_no all_lt hka, fun j hj hb => by
    have hjk : j ≠ k := fun e => by rw [e, hS.2.2.1 k hk] at hb; cases hb
    rw [minus_bit all_lt hka, all_bit]; simp [hj, hjk]⟩
  rw [hka, hcc, Bool.and_self, if_pos rfl]
  cases hg : (gr b n (2 ^ n - 1)).testBit k
  · simp only [Bool.false_eq_true, if_false]
    rcases Classical.em (FC b n (2 ^ n - 1 - 2 ^ k) = 0) with h | h
    · exact h
    · have := (top_cl hS hk).mp ((FC_pos hS (minus_lt all_lt)).mp h)
      rw [hg] at this; cases this
  · simp only [if_true]
    rw [← hpc, RW_rb hS (minus_lt all_lt) ((top_cl hS hk).mpr hg)]
theorem s_rcount' {M : Mem} {q q1 : Nat} (hS : St b n) (h : OR M q1 n b) (hq : q1 ≠ q + 1 ∧ q1 + 1 ≠ q + 1) : ∃ r, f_X4_count M q q1 = some r ∧ (r.1 = iN (RW b n) ∧ Fr M r.2 [q + 1] ∧ ∀ t < 2 ^ n, r.2 (q + 1) t = iN (FC b n t)) := by
  obtain ⟨r, e, h1, h2, h3⟩ := s_rcount h hq
  exact ⟨r, e, by rw [h1, FC_all hS.1], h2, h3⟩
theorem s_growsByGreatest {M : Mem} {q1 : Nat} (hS : St b n) (h : OR M q1 n b) (hd : q1 + 2 < 27 ∨ 41 < q1) : ∃ r, f_X5_growsByGreatest M q1 = some r ∧ (r.1 = 1 ∧ Fr M r.2 [27, 28, 29, 34, 38]) := by
  have h9 := h.le
  have h8 := p2_le h9
  have h7 := Nat.two_pow_pos n
  have hq0 : q1 ∉ [27, 28, 29, 34, 38] := by simp only [List.mem_cons, List.not_mem_nil, or_false, not_or]; omega
  have hq1 : q1 + 1 ∉ [27, 28, 29, 34, 38] := by simp only [List.mem_cons, List.not_mem_nil, or_false, not_or]; omega
  have hdj : dj 27 q1 := by unfold dj; omega
  have hgl : gr b n (2 ^ n - 1) < 2 ^ n := gr_lt all_lt
  have hz0 : ((iN n) = 0) = (n = 0) := iN_ne0 (by omega)
  unfold f_X5_growsByGreatest
  simp (disch := omega) only [s_all h, s_greatestOf h (show 2 ^ n - 1 < 512 by omega), h.n, hz0, iN_le, iN_lt, chk_inb, chk_t, clamp_iN, bd_some, iN_add, iN_s, iN_and, iN_or, iN_shl, e10, e01, e00, bI_0, bI_1, bI_t, bI_f, has_iN, bitc, within_iN, mk_or1, xhas_iN, add_z, if_true, if_false, ite_true, ite_false, reduceCtorEq, Bool.false_eq_true, Bool.true_and, Bool.false_and, Bool.and_true, Bool.and_false, Bool.not_true, Bool.not_false]
  have key : ∃ r, f_X5_growsByGreatest_L25 q1 (iN (gr b n (2 ^ n - 1))) FU (iN (if n = 0 then 1 else 0), 0, M) = some r ∧ (r.1 = 1 ∧ Fr M r.2 [27, 28, 29, 34, 38]) := by
    refine lp_to (fun j a => j ≤ n ∧ a.1 = iN ((if n = 0 then 1 else 0) + S j (fun k => if (gr b n (2 ^ n - 1)).testBit k then RW (rb b (2 ^ n - 1 - 2 ^ k)) (n - 1) else 0)) ∧ a.2.1 = iN j ∧ Fr M a.2.2 [27, 28, 29, 34, 38]) n (FU_lt h9) ⟨by omega, rfl, rfl, Fr.refl _ _⟩ ?_
    rintro j ⟨a1, a2, M1⟩ ⟨hj, h1, h2, hf⟩
    dsimp only at h1 h2 hf
    subst h1 h2
    have h' := h.fr hf hq0 hq1
    rcases Nat.lt_or_ge j n with hl | hl
    · left
      refine ⟨hl, ?_⟩
      cases hg : (gr b n (2 ^ n - 1)).testBit j
      · refine ⟨(iN ((if n = 0 then 1 else 0) + S (j + 1) (fun k => if (gr b n (2 ^ n - 1)).testBit k then RW (rb b (2 ^ n - 1 - 2 ^ k)) (n - 1) else 0)), iN (j + 1), M1), ⟨hl, rfl, rfl, hf⟩, fun k => ?_⟩
        simp (disch := omega) only [g_X5_growsByGreatest_L25, h'.n, if_neg (show ¬ n ≤ j by omega), hg, S, Nat.add_zero, iN_le, iN_lt, chk_inb, chk_t, clamp_iN, bd_some, iN_add, iN_s, iN_and, iN_or, iN_shl, e10, e01, e00, bI_0, bI_1, bI_t, bI_f, has_iN, bitc, within_iN, mk_or1, xhas_iN, add_z, if_true, if_false, ite_true, ite_false, reduceCtorEq, Bool.false_eq_true, Bool.true_and, Bool.false_and, Bool.and_true, Bool.and_false, Bool.not_true, Bool.not_false]
      · obtain ⟨M2, e2, hf2, hn2, hv2⟩ := s_become (M := M1) hdj
        have h2 : OR M2 27 n b := h'.of hn2 (fun k hk => (hv2 k (by omega)).1)
        have h2' : OR M2 q1 n b := h'.fr hf2 (by simp; omega) (by simp; omega)
        have hja : (2 ^ n - 1).testBit j = true := by rw [all_bit]; simp [hl]
        have hdm := dif_minus all_lt h9 hja
        have hslt : 2 ^ n - 1 - 2 ^ j < 2 ^ n := minus_lt all_lt
        have hpc : pc (2 ^ n - 1 - 2 ^ j) = n - 1 := by
          have := minus_pc all_lt h9 hja
          rw [pc_all h9] at this; omega
        obtain ⟨M3, e3, hf3, h3, -⟩ := s_retain h2 hslt
        rw [hpc] at h3
        have hS3 := rb_St hS hslt
        rw [hpc] at hS3
        obtain ⟨⟨r4, M4⟩, e4, hr4, hf4, -⟩ := s_rcount' (q := 37) hS3 h3 (by omega)
        dsimp only at hr4 hf4
        subst hr4
        have hand : iN (2 ^ n - 1) &&& (iN (2 ^ j) ^^^ (-1)) = iN (2 ^ n - 1 - 2 ^ j) := by rw [iN_andn (by omega), hdm]
        refine ⟨(iN ((if n = 0 then 1 else 0) + S (j + 1) (fun k => if (gr b n (2 ^ n - 1)).testBit k then RW (rb b (2 ^ n - 1 - 2 ^ k)) (n - 1) else 0)), iN (j + 1), M4), ⟨hl, rfl, rfl, ((hf.trans (hf2.mono (by simp))).trans (hf3.mono (by simp))).trans (hf4.mono (by simp))⟩, fun k => ?_⟩
        simp (disch := omega) only [g_X5_growsByGreatest_L25, h'.n, if_neg (show ¬ n ≤ j by omega), hg, e2, s_all h2', hand, e3, e4, S, ← Nat.add_assoc, iN_le, iN_lt, chk_inb, chk_t, clamp_iN, bd_some, iN_add, iN_s, iN_and, iN_or, iN_shl, e10, e01, e00, bI_0, bI_1, bI_t, bI_f, has_iN, bitc, within_iN, mk_or1, xhas_iN, add_z, if_true, if_false, ite_true, ite_false, reduceCtorEq, Bool.false_eq_true, Bool.true_and, Bool.false_and, Bool.and_true, Bool.and_false, Bool.not_true, Bool.not_false]
    · right
      have e : j = n := by omega
      subst e
      obtain ⟨⟨r4, M4⟩, e4, hr4, hf4, -⟩ := s_rcount' (q := 33) hS h' (by omega)
      dsimp only at hr4 hf4
      subst hr4
      have heq : (if j = 0 then 1 else 0) + S j (fun k => if (gr b j (2 ^ j - 1)).testBit k then RW (rb b (2 ^ j - 1 - 2 ^ k)) (j - 1) else 0) = RW b j := by
        by_cases e0 : j = 0
        · subst e0; rfl
        · rw [if_neg e0, Nat.zero_add, ← RW_tops hS e0]
      refine ⟨(1, M4), ⟨rfl, hf.trans (hf4.mono (by simp))⟩, fun k => ?_⟩
      rw [heq]
      simp (disch := omega) only [g_X5_growsByGreatest_L25, h'.n, if_pos (Nat.le_refl j), e4, iN_le, iN_lt, chk_inb, chk_t, clamp_iN, bd_some, iN_add, iN_s, iN_and, iN_or, iN_shl, e10, e01, e00, bI_0, bI_1, bI_t, bI_f, has_iN, bitc, within_iN, mk_or1, xhas_iN, add_z, if_true, if_false, ite_true, ite_false, reduceCtorEq, Bool.false_eq_true, Bool.true_and, Bool.false_and, Bool.and_true, Bool.and_false, Bool.not_true, Bool.not_false]
  by_cases e0 : n = 0
  · rw [if_pos e0] at key
    rw [if_pos e0]
    exact key
  · rw [if_neg e0] at key
    rw [if_neg e0]
    exact key
end SQ
