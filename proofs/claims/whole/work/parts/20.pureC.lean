/-! ===== ways through the sets ===== -/
theorem S_split {a c : Nat} {f : Nat → Nat} : S (a + c) f = S a f + S c (fun k => f (a + k)) := by
  induction c with
  | zero => rfl
  | succ c ih => rw [← Nat.add_assoc, S, ih, S, Nat.add_assoc]
theorem bit_hi {n s k : Nat} (hk : k < n) : (2 ^ n + s).testBit k = s.testBit k := Nat.testBit_two_pow_add_gt hk s
theorem bit_top {n s : Nat} (hs : s < 2 ^ n) : (2 ^ n + s).testBit n = true := by
  rw [Nat.testBit_two_pow_add_eq, Nat.testBit_lt_two_pow hs]; rfl
/-- the sets with k, as those without k and k beside -/
theorem S_flip {n k : Nat} (hk : k < n) (f : Nat → Nat) : S (2 ^ n) (fun t => if t.testBit k then f t else 0) = S (2 ^ n) (fun s => if s.testBit k then 0 else f (s + 2 ^ k)) := by
  induction n generalizing f with
  | zero => omega
  | succ n ih =>
    rw [Nat.pow_succ, Nat.mul_two, S_split, S_split]
    rcases Nat.lt_succ_iff_lt_or_eq.mp hk with h | h
    · rw [ih h f]
      have e1 : S (2 ^ n) (fun j => if (2 ^ n + j).testBit k = true then f (2 ^ n + j) else 0) = S (2 ^ n) (fun t => if t.testBit k then (fun j => f (2 ^ n + j)) t else 0) :=
        S_congr (fun j _ => by rw [bit_hi h])
      rw [e1, ih h]
      congr 1
      exact S_congr (fun j _ => by
        rw [bit_hi h]
        simp only [Nat.add_assoc])
    · subst h
      have e1 : S (2 ^ k) (fun t => if t.testBit k = true then f t else 0) = 0 := by
        rw [S_congr (g := fun _ => 0) (fun t ht => by rw [Nat.testBit_lt_two_pow ht]; rfl), S_zero]
      have e2 : S (2 ^ k) (fun t => if (2 ^ k + t).testBit k = true then 0 else f (2 ^ k + t + 2 ^ k)) = 0 := by
        rw [S_congr (g := fun _ => 0) (fun t ht => by rw [bit_top ht]; rfl), S_zero]
      rw [e1, e2, Nat.zero_add, Nat.add_zero]
      exact S_congr (fun t ht => by
        rw [bit_top ht, Nat.testBit_lt_two_pow ht, Nat.add_comm]; simp)
/-- ways on from s, d steps -/
def BW (w : Nat → Nat → Bool) (n : Nat) : Nat → Nat → Nat
  | 0, _ => 1
  | d + 1, s => S n (fun k => if w s k then BW w n d (s + 2 ^ k) else 0)
/-- ways to t, d steps -/
def FW (w : Nat → Nat → Bool) (n : Nat) : Nat → Nat → Nat
  | 0, _ => 1
  | d + 1, t => S n (fun k => if t.testBit k && w (t - 2 ^ k) k then FW w n d (t - 2 ^ k) else 0)
def W0 (w : Nat → Nat → Bool) : Prop := ∀ s k, w s k = true → s.testBit k = false
theorem add_sub_bit {s k : Nat} (h : s.testBit k = false) : (s + 2 ^ k).testBit k = true ∧ s + 2 ^ k - 2 ^ k = s := by
  constructor
  · rw [Nat.add_comm, Nat.testBit_two_pow_add_eq, h]; rfl
  · omega
theorem swap {w : Nat → Nat → Bool} (hw : W0 w) {n : Nat} (f g : Nat → Nat) : S (2 ^ n) (fun s => f s * S n (fun k => if w s k then g (s + 2 ^ k) else 0)) = S (2 ^ n) (fun t => S n (fun k => if t.testBit k && w (t - 2 ^ k) k then f (t - 2 ^ k) else 0) * g t) := by
  have e1 : S (2 ^ n) (fun s => f s * S n (fun k => if w s k then g (s + 2 ^ k) else 0)) = S n (fun k => S (2 ^ n) (fun s => if w s k then f s * g (s + 2 ^ k) else 0)) := by
    rw [← S_comm]
    refine S_congr (fun s _ => ?_)
    rw [← S_mul]
    exact S_congr (fun k _ => by split <;> simp)
  have e2 : S (2 ^ n) (fun t => S n (fun k => if t.testBit k && w (t - 2 ^ k) k then f (t - 2 ^ k) else 0) * g t) = S n (fun k => S (2 ^ n) (fun t => if t.testBit k && w (t - 2 ^ k) k then f (t - 2 ^ k) * g t else 0)) := by
    rw [← S_comm]
    refine S_congr (fun s _ => ?_)
    rw [← S_mulr]
    exact S_congr (fun k _ => by split <;> simp)
  rw [e1, e2]
  refine S_congr (fun k hk => ?_)
  have e3 := S_flip hk (fun t => if w (t - 2 ^ k) k then f (t - 2 ^ k) * g t else 0)
  have e4 : S (2 ^ n) (fun t => if t.testBit k && w (t - 2 ^ k) k then f (t - 2 ^ k) * g t else 0) = S (2 ^ n) (fun t => if t.testBit k then (if w (t - 2 ^ k) k then f (t - 2 ^ k) * g t else 0) else 0) :=
    S_congr (fun t _ => by cases t.testBit k <;> simp)
  rw [e4, e3]
  refine S_congr (fun s _ => ?_)
  cases h : s.testBit k
  · simp only [Bool.false_eq_true, if_false, (add_sub_bit h).2]
  · have : w s k = false := by
      cases hc : w s k
      · rfl
      · rw [hw s k hc] at h; cases h
    simp [this]
theorem mk_S {n : Nat} {p : Nat → Bool} : mk n p = S n (fun k => if p k then 2 ^ k else 0) := by
  induction n with
  | zero => rfl
  | succ n ih => rw [mk, S, ih]
theorem mk_self {s n : Nat} (hs : s < 2 ^ n) : mk n s.testBit = s := (mk_eq hs (fun _ _ => rfl)).symm
theorem plus_mk {s k n : Nat} (hs : s < 2 ^ n) (hk : k < n) (h : s.testBit k = false) : s + 2 ^ k = mk n (fun j => s.testBit j || decide (j = k)) := by
  have e : mk n (fun j => s.testBit j || decide (j = k)) = mk n s.testBit + S n (fun j => if j = k then 2 ^ j else 0) := by
    rw [mk_S, mk_S, ← S_add]
    refine S_congr (fun j _ => ?_)
    by_cases e : j = k
    · subst e; simp [h]
    · simp [e]
  rw [e, mk_self hs, S_one hk (fun j => 2 ^ j)]
theorem plus_lt {s k n : Nat} (hs : s < 2 ^ n) (hk : k < n) (h : s.testBit k = false) : s + 2 ^ k < 2 ^ n := by
  rw [plus_mk hs hk h]; exact mk_lt n _
theorem plus_bit {s k n : Nat} (hs : s < 2 ^ n) (hk : k < n) (h : s.testBit k = false) (j : Nat) : (s + 2 ^ k).testBit j = (s.testBit j || decide (j = k)) := by
  rw [plus_mk hs hk h, mk_bit]
  rcases Nat.lt_or_ge j n with h1 | h1
  · simp [h1]
  · rw [Nat.testBit_lt_two_pow (Nat.lt_of_lt_of_le hs (Nat.pow_le_pow_right (n := 2) (by decide) h1))]
    simp [show ¬ j < n by omega, show ¬ j = k by omega]
theorem plus_or {s k n : Nat} (hs : s < 2 ^ n) (hk : k < n) (h : s.testBit k = false) : s ||| 2 ^ k = s + 2 ^ k := by
  apply Nat.eq_of_testBit_eq
  intro j
  rw [plus_bit hs hk h, Nat.testBit_or, Nat.testBit_two_pow]
  simp [eq_comm]
theorem plus_pc {s k n : Nat} (hs : s < 2 ^ n) (hn : n ≤ 9) (hk : k < n) (h : s.testBit k = false) : pc (s + 2 ^ k) = pc s + 1 := by
  rw [pc_ct (plus_lt hs hk h) hn, pc_ct hs hn]
  unfold ct
  have e : S n (fun j => (s.testBit j).toNat) + 1 = S n (fun j => (s.testBit j).toNat + if j = k then 1 else 0) := by
    rw [S_add, S_one hk (fun _ => 1)]
  rw [e]
  refine S_congr (fun j _ => ?_)
  rw [plus_bit hs hk h]
  by_cases e : j = k
  · subst e; simp [h]
  · simp [e]
theorem minus_bit {t k n : Nat} (ht : t < 2 ^ n) (h : t.testBit k = true) (j : Nat) : (t - 2 ^ k).testBit j = (t.testBit j && !decide (j = k)) := by
  have hk := bit_lt ht h
  have e1 : mk n (fun j => t.testBit j && !decide (j = k)) + 2 ^ k = t := by
    have hb : (mk n (fun j => t.testBit j && !decide (j = k))).testBit k = false := by rw [mk_bit]; simp
    rw [plus_mk (mk_lt n _) hk hb]
    refine (mk_eq ht (fun j hj => ?_)).symm
    rw [mk_bit]
    by_cases e : j = k
    · subst e; simp [h]
    · simp [e, hj]
  have e2 : t - 2 ^ k = mk n (fun j => t.testBit j && !decide (j = k)) := by omega
  rw [e2, mk_bit]
  rcases Nat.lt_or_ge j n with h1 | h1
  · simp [h1]
  · rw [Nat.testBit_lt_two_pow (Nat.lt_of_lt_of_le ht (Nat.pow_le_pow_right (n := 2) (by decide) h1))]
    simp
theorem bit_ge {t k : Nat} (h : t.testBit k = true) : 2 ^ k ≤ t := Nat.ge_two_pow_of_testBit h
theorem minus_plus {t k : Nat} (h : t.testBit k = true) : t - 2 ^ k + 2 ^ k = t := Nat.sub_add_cancel (bit_ge h)
theorem minus_no {t k n : Nat} (ht : t < 2 ^ n) (h : t.testBit k = true) : (t - 2 ^ k).testBit k = false := by
  rw [minus_bit ht h]; simp
theorem minus_pc {t k n : Nat} (ht : t < 2 ^ n) (hn : n ≤ 9) (h : t.testBit k = true) : pc (t - 2 ^ k) + 1 = pc t := by
  have e := plus_pc (n := n) (s := t - 2 ^ k) (Nat.lt_of_le_of_lt (Nat.sub_le _ _) ht) hn (bit_lt ht h) (minus_no ht h)
  rw [minus_plus h] at e
  exact e.symm
theorem pc_0 {s n : Nat} (hs : s < 2 ^ n) (hn : n ≤ 9) : pc s = 0 ↔ s = 0 := by
  constructor
  · intro h
    rw [pc_ct hs hn] at h
    refine set_ext hs (Nat.two_pow_pos n) (fun k hk => ?_)
    have := S_0.mp h k hk
    cases hb : s.testBit k
    · simp
    · rw [hb] at this; cases this
  · intro h; subst h; rfl
theorem all_bit {n k : Nat} : (2 ^ n - 1).testBit k = decide (k < n) := Nat.testBit_two_pow_sub_one n k
theorem all_lt {n : Nat} : 2 ^ n - 1 < 2 ^ n := by have := Nat.two_pow_pos n; omega
theorem ct_true {n : Nat} : ct n (fun _ => true) = n := by
  induction n with
  | zero => rfl
  | succ n ih => rw [ct_s, ih]; rfl
theorem pc_all {n : Nat} (hn : n ≤ 9) : pc (2 ^ n - 1) = n := by
  rw [pc_ct all_lt hn, ct_congr (q := fun _ => true) (fun k hk => by rw [all_bit]; simp [hk]), ct_true]
theorem pc_le_n {s n : Nat} (hs : s < 2 ^ n) (hn : n ≤ 9) : pc s ≤ n := by
  rw [pc_ct hs hn]; exact ct_le
theorem ct_full {n : Nat} {p : Nat → Bool} : ct n p = n ↔ ∀ k < n, p k = true := by
  induction n with
  | zero => simp [ct, S]
  | succ n ih =>
    have h1 := ct_le (n := n) (p := p)
    rw [ct_s]
    constructor
    · intro h k hk
      cases hp : p n
      · rw [hp] at h; simp at h; omega
      · rw [hp] at h; simp at h
        rcases Nat.lt_succ_iff_lt_or_eq.mp hk with h2 | h2
        · exact ih.mp h k h2
        · rw [h2]; exact hp
    · intro h
      rw [ih.mpr (fun k hk => h k (by omega)), h n (by omega)]; rfl
theorem pc_n {s n : Nat} (hs : s < 2 ^ n) (hn : n ≤ 9) : pc s = n ↔ s = 2 ^ n - 1 := by
  constructor
  · intro h
    rw [pc_ct hs hn, ct_full] at h
    exact set_ext hs all_lt (fun k hk => by rw [h k hk, all_bit]; simp [hk])
  · intro h; subst h; exact pc_all hn
/-- both counts agree at every level -/
theorem level {w : Nat → Nat → Bool} (hw : W0 w) {n : Nat} (hn : n ≤ 9) {d : Nat} (hd : d < n) : S (2 ^ n) (fun s => if pc s = d then FW w n d s * BW w n (n - d) s else 0) = S (2 ^ n) (fun s => if pc s = d + 1 then FW w n (d + 1) s * BW w n (n - (d + 1)) s else 0) := by
  have e1 := swap hw (n := n) (fun s => if pc s = d then FW w n d s else 0) (fun t => if pc t = d + 1 then BW w n (n - (d + 1)) t else 0)
  have e2 : n - d = n - (d + 1) + 1 := by omega
  refine Eq.trans (S_congr (fun s hs => ?_)) (Eq.trans e1 (S_congr (fun t ht => ?_)))
  · by_cases h : pc s = d
    · simp only [h, if_true]
      rw [e2, BW]
      congr 1
      refine S_congr (fun k hk => ?_)
      cases hc : w s k
      · rfl
      · simp only [if_true]
        rw [plus_pc hs hn hk (hw s k hc), h]; simp
    · simp [h]
  · by_cases h : pc t = d + 1
    · simp only [h, if_true]
      rw [FW]
      congr 1
      refine S_congr (fun k hk => ?_)
      cases hc : t.testBit k
      · rfl
      · have := minus_pc ht hn hc
        have h2 : pc (t - 2 ^ k) = d := by omega
        simp only [h2, if_true]
    · simp [h]
theorem dual {w : Nat → Nat → Bool} (hw : W0 w) {n : Nat} (hn : n ≤ 9) (d : Nat) (hd : d ≤ n) : S (2 ^ n) (fun s => if pc s = d then FW w n d s * BW w n (n - d) s else 0) = BW w n n 0 := by
  induction d with
  | zero =>
    have e : S (2 ^ n) (fun s => if pc s = 0 then FW w n 0 s * BW w n (n - 0) s else 0) = S (2 ^ n) (fun s => if s = 0 then BW w n n s else 0) :=
      S_congr (fun s hs => by
        by_cases h : s = 0
        · rw [if_pos h, if_pos ((pc_0 hs hn).mpr h), FW, Nat.one_mul, Nat.sub_zero]
        · rw [if_neg h, if_neg (fun e => h ((pc_0 hs hn).mp e))])
    rw [e, S_one (Nat.two_pow_pos n) (fun s => BW w n n s)]
  | succ d ih =>
    rw [← level hw hn (by omega), ih (by omega)]
theorem FW_BW {w : Nat → Nat → Bool} (hw : W0 w) {n : Nat} (hn : n ≤ 9) : FW w n n (2 ^ n - 1) = BW w n n 0 := by
  rw [← dual hw hn n (Nat.le_refl n)]
  have e : S (2 ^ n) (fun s => if pc s = n then FW w n n s * BW w n (n - n) s else 0) = S (2 ^ n) (fun s => if s = 2 ^ n - 1 then FW w n n s else 0) :=
    S_congr (fun s hs => by
      by_cases h : s = 2 ^ n - 1
      · rw [if_pos h, if_pos ((pc_n hs hn).mpr h), Nat.sub_self, BW, Nat.mul_one]
      · rw [if_neg h, if_neg (fun e => h ((pc_n hs hn).mp e))])
  rw [e, S_one all_lt (fun s => FW w n n s)]
/-! ===== the class's table of rows ===== -/
theorem OR.same {M M' : Mem} {q n : Nat} {b : Nat → Nat} (h : OR M q n b) (h0 : M' q = M q) (h1 : M' (q + 1) = M (q + 1)) : OR M' q n b := ⟨h.1, by rw [h0]; exact h.2.1, fun k hk => by rw [h1]; exact h.2.2 k hk⟩
/-- nothing but the cells c has changed -/
def Fr (M M' : Mem) (c : List Nat) : Prop := ∀ a, a ∉ c → M' a = M a
theorem Fr.refl (M : Mem) (c : List Nat) : Fr M M c := fun _ _ => rfl
theorem Fr.trans {M M' M'' : Mem} {c : List Nat} (h : Fr M M' c) (h' : Fr M' M'' c) : Fr M M'' c := fun a ha => by rw [h' a ha, h a ha]
theorem Fr.up {M : Mem} {c : List Nat} {k i : Nat} {x : Int32} (h : k ∈ c) : Fr M (upM M k i x) c := fun a ha => by
  have : a ≠ k := fun e => ha (e ▸ h)
  funext j
  simp only [upM, if_neg this]
theorem Fr.mono {M M' : Mem} {c c' : List Nat} (h : Fr M M' c) (hc : ∀ a ∈ c, a ∈ c') : Fr M M' c' := fun a ha => h a (fun h1 => ha (hc a h1))
theorem upM_eq {M : Mem} {k i : Nat} {x : Int32} : upM M k i x k i = x := by simp only [upM, if_true]
theorem upM_at {M : Mem} {k i : Nat} {x : Int32} {j : Nat} : upM M k i x k j = if j = i then x else M k j := by simp only [upM, if_true]
def FC (b : Nat → Nat) (n t : Nat) : Nat := FW (cc b) n (pc t) t
def BC (b : Nat → Nat) (n s : Nat) : Nat := BW (cc b) n (n - pc s) s
theorem cc_W0 (b : Nat → Nat) : W0 (cc b) := fun s k h => by
  unfold cc at h
  cases hb : s.testBit k
  · rfl
  · rw [hb] at h; cases h
theorem FC_0 {b : Nat → Nat} {n : Nat} : FC b n 0 = 1 := rfl
theorem FC_s {b : Nat → Nat} {n t : Nat} (ht : t < 2 ^ n) (hn : n ≤ 9) (h0 : t ≠ 0) : FC b n t = S n (fun k => if t.testBit k && cc b (t - 2 ^ k) k then FC b n (t - 2 ^ k) else 0) := by
  unfold FC
  have h1 : pc t ≠ 0 := fun e => h0 ((pc_0 ht hn).mp e)
  obtain ⟨d, hd⟩ := Nat.exists_eq_succ_of_ne_zero h1
  rw [hd, FW]
  refine S_congr (fun k hk => ?_)
  cases hb : t.testBit k
  · rfl
  · have := minus_pc ht hn hb
    have h2 : pc (t - 2 ^ k) = d := by omega
    rw [h2]
def PF (b : Nat → Nat) (n j t : Nat) : Nat := (if t = 0 then 1 else 0) + S j (fun s => S n (fun k => if cc b s k && decide (s + 2 ^ k = t) then FC b n s else 0))
theorem PF_self {b : Nat → Nat} {n j : Nat} (hj : j < 2 ^ n) (hn : n ≤ 9) : PF b n j j = FC b n j := by
  unfold PF
  rcases Nat.eq_zero_or_pos j with rfl | h0
  · simp only [if_true, S]; rfl
  · rw [if_neg (by omega), Nat.zero_add, FC_s hj hn (by omega), S_comm]
    refine S_congr (fun k hk => ?_)
    cases hb : j.testBit k
    · rw [S_congr (g := fun _ => 0) (fun s hs => ?_), S_zero]
      · rfl
      · cases hc : cc b s k
        · rfl
        · have : ¬ s + 2 ^ k = j := fun e => by
            have := (add_sub_bit (cc_W0 b s k hc)).1
            rw [e, hb] at this; cases this
          simp [this]
    · have h2 := bit_ge hb
      have h3 := Nat.two_pow_pos k
      rw [S_congr (g := fun s => if s = j - 2 ^ k then (if cc b (j - 2 ^ k) k then FC b n (j - 2 ^ k) else 0) else 0) (fun s hs => ?_), S_one (by omega) (fun _ => if cc b (j - 2 ^ k) k then FC b n (j - 2 ^ k) else 0)]
      · simp
      · by_cases e : s = j - 2 ^ k
        · subst e; simp [Nat.sub_add_cancel h2]
        · simp [e, show ¬ s + 2 ^ k = j by omega]
theorem PF_all {b : Nat → Nat} {n t : Nat} (ht : t < 2 ^ n) (hn : n ≤ 9) : PF b n (2 ^ n) t = FC b n t := by
  rw [← PF_self ht hn]
  unfold PF
  obtain ⟨d, hd⟩ := Nat.exists_eq_add_of_le (Nat.le_of_lt ht)
  congr 1
  rw [hd, S_split]
  rw [S_congr (n := d) (g := fun _ => 0) (fun s _ => ?_), S_zero, Nat.add_zero]
  · exact S_0.mpr (fun k _ => by
      have := Nat.two_pow_pos k
      simp [show ¬ t + s + 2 ^ k = t by omega])
section RT
variable {M : Mem} {q q1 n : Nat} {b : Nat → Nat}
theorem s_passOn (h : OR M q1 n b) (hq : q1 ≠ q + 1 ∧ q1 + 1 ≠ q + 1) {s : Nat} (hs : s < 2 ^ n) (T : Nat → Nat) (hT : ∀ t < 2 ^ n, M (q + 1) t = iN (T t)) : ∃ M', f_X4_passOn M q q1 (iN s) = some M' ∧ (Fr M M' [q + 1] ∧ ∀ t < 2 ^ n, M' (q + 1) t = iN (T t + S n (fun k => if cc b s k && decide (s + 2 ^ k = t) then T s else 0))) := by
  have h9 := h.le
  have h8 := p2_le h9
  refine lp_to (fun j a => j ≤ n ∧ a.1 = iN j ∧ Fr M a.2 [q + 1] ∧ ∀ t < 2 ^ n, a.2 (q + 1) t = iN (T t + S j (fun k => if cc b s k && decide (s + 2 ^ k = t) then T s else 0))) n (FU_lt h9) ⟨Nat.zero_le _, rfl, Fr.refl _ _, fun t ht => by dsimp only; rw [hT t ht]; rfl⟩ ?_
  rintro j ⟨a, M1⟩ ⟨hj, rfl, hf, ht⟩
  dsimp only at hf ht
  have h' : OR M1 q1 n b := h.same (hf q1 (by simp [hq.1])) (hf (q1 + 1) (by simpa using hq.2))
  rcases Nat.lt_or_ge j n with hl | hl
  · left
    refine ⟨hl, ?_⟩
    cases hc : cc b s j
    · refine ⟨(iN (j + 1), M1), ⟨hl, rfl, hf, fun t h1 => ?_⟩, fun k => ?_⟩
      · dsimp only; rw [ht t h1, S]; simp [hc]
      · simp (disch := omega) only [g_X4_passOn_L2, h'.n, if_neg (show ¬ n ≤ j by omega), s_canCome h' (show s < 512 by omega) hl, hc, iN_le, iN_lt, chk_inb, chk_t, clamp_iN, bd_some, iN_add, iN_s, iN_and, iN_or, iN_shl, e10, e01, e00, bI_0, bI_1, bI_t, bI_f, has_iN, bitc, within_iN, mk_or1, xhas_iN, add_z, if_true, if_false, ite_true, ite_false, reduceCtorEq, Bool.false_eq_true, Bool.true_and, Bool.false_and, Bool.and_true, Bool.and_false, Bool.not_true, Bool.not_false]
    · have hb := cc_W0 b s j hc
      have h2 := plus_lt hs hl hb
      refine ⟨(iN (j + 1), upM M1 (q + 1) (s + 2 ^ j) (M1 (q + 1) (s + 2 ^ j) + M1 (q + 1) s)), ⟨hl, rfl, hf.trans (Fr.up (by simp)), fun t h1 => ?_⟩, fun k => ?_⟩
      · have e0 : S j (fun k => if cc b s k && decide (s + 2 ^ k = s) then T s else 0) = 0 := S_0.mpr (fun k _ => by
          have := Nat.two_pow_pos k
          simp)
        dsimp only
        rw [upM_at]
        by_cases e : t = s + 2 ^ j
        · rw [if_pos e, ht _ h2, ht s hs, iN_add, S]
          subst e
          rw [e0]
          simp [hc, Nat.add_assoc]
        · rw [if_neg e, ht t h1, S]
          simp [hc, show ¬ s + 2 ^ j = t from fun x => e x.symm]
      · simp (disch := omega) only [g_X4_passOn_L2, h'.n, if_neg (show ¬ n ≤ j by omega), s_canCome h' (show s < 512 by omega) hl, hc, plus_or hs hl hb, iN_le, iN_lt, chk_inb, chk_t, clamp_iN, bd_some, iN_add, iN_s, iN_and, iN_or, iN_shl, e10, e01, e00, bI_0, bI_1, bI_t, bI_f, has_iN, bitc, within_iN, mk_or1, xhas_iN, add_z, if_true, if_false, ite_true, ite_false, reduceCtorEq, Bool.false_eq_true, Bool.true_and, Bool.false_and, Bool.and_true, Bool.and_false, Bool.not_true, Bool.not_false]
  · right
    have e : j = n := by omega
    subst e
    exact ⟨M1, ⟨hf, ht⟩, fun k => by simp (disch := omega) only [g_X4_passOn_L2, h'.n, if_pos (Nat.le_refl j), iN_le, iN_lt, chk_inb, chk_t, clamp_iN, bd_some, iN_add, iN_s, iN_and, iN_or, iN_shl, e10, e01, e00, bI_0, bI_1, bI_t, bI_f, has_iN, bitc, within_iN, mk_or1, xhas_iN, add_z, if_true, if_false, ite_true, ite_false, reduceCtorEq, Bool.false_eq_true, Bool.true_and, Bool.false_and, Bool.and_true, Bool.and_false, Bool.not_true, Bool.not_false]⟩
theorem iN_ne0 {a : Nat} (ha : a < 2 ^ 31) : (iN a = 0) = (a = 0) := by rw [iN_0, iN_eq ha (by decide)]
/-- factorials -/
def fa : Nat → Nat
  | 0 => 1
  | n + 1 => (n + 1) * fa n
theorem fa_9 {d : Nat} (h : d ≤ 9) : fa d ≤ 362880 := by
  have : ∀ d < 10, fa d ≤ 362880 := by decide
  exact this d (by omega)
theorem S_bits {n c : Nat} {f : Nat → Nat} {p : Nat → Bool} (h : ∀ k < n, f k ≤ if p k then c else 0) : S n f ≤ ct n p * c := by
  have e : S n (fun k => if p k then c else 0) = ct n p * c := by
    unfold ct
    rw [← S_mulr]
    exact S_congr (fun k _ => by cases p k <;> simp)
  rw [← e]
  exact S_le h
theorem FW_le {w : Nat → Nat → Bool} {n d t : Nat} (hn : n ≤ 9) (ht : t < 2 ^ n) (hd : pc t = d) : FW w n d t ≤ fa d := by
  induction d generalizing t with
  | zero => exact Nat.le_refl _
  | succ d ih =>
    rw [FW, fa, ← hd, pc_ct ht hn]
    refine S_bits (fun k hk => ?_)
    cases hb : t.testBit k
    · simp
    · have := minus_pc ht hn hb
      simp only [Bool.true_and, if_true]
      split
      · exact ih (Nat.lt_of_le_of_lt (Nat.sub_le _ _) ht) (by omega)
      · exact Nat.zero_le _
theorem ct_not {n : Nat} {p : Nat → Bool} : ct n (fun k => !p k) + ct n p = n := by
  induction n with
  | zero => rfl
  | succ n ih =>
    rw [ct_s, ct_s]
    cases p n <;> simp <;> omega
theorem BW_le {w : Nat → Nat → Bool} (hw : W0 w) {n d s : Nat} (hn : n ≤ 9) (hs : s < 2 ^ n) (hd : pc s + d = n) : BW w n d s ≤ fa d := by
  induction d generalizing s with
  | zero => exact Nat.le_refl _
  | succ d ih =>
    have e : d + 1 = ct n (fun k => !s.testBit k) := by
      have := ct_not (n := n) (p := s.testBit)
      rw [← pc_ct hs hn] at this
      omega
    rw [BW, fa, e]
    refine S_bits (fun k hk => ?_)
    cases hc : w s k
    · simp
    · have hb := hw s k hc
      have := plus_pc hs hn hk hb
      rw [hb]
      simp only [Bool.not_false, if_true]
      exact ih (plus_lt hs hk hb) (by omega)
theorem FC_le {t : Nat} (hn : n ≤ 9) (ht : t < 2 ^ n) : FC b n t ≤ 362880 := Nat.le_trans (FW_le hn ht rfl) (fa_9 (Nat.le_trans (pc_le_n ht hn) hn))
theorem BC_le {s : Nat} (hn : n ≤ 9) (hs : s < 2 ^ n) : BC b n s ≤ 362880 := Nat.le_trans (BW_le (cc_W0 b) hn hs (by have := pc_le_n hs hn; omega)) (fa_9 (by omega))
theorem s_rcount (h : OR M q1 n b) (hq : q1 ≠ q + 1 ∧ q1 + 1 ≠ q + 1) : ∃ r, f_X4_count M q q1 = some r ∧ (r.1 = iN (FC b n (2 ^ n - 1)) ∧ Fr M r.2 [q + 1] ∧ ∀ t < 2 ^ n, r.2 (q + 1) t = iN (FC b n t)) := by
  have h9 := h.le
  have h8 := p2_le h9
  have h7 := Nat.two_pow_pos n
  unfold f_X4_count
  rw [s_setLimit h, bd_some]
  refine lp_to (fun j a => j + 1 ≤ 2 ^ n ∧ a.1 = iN (j + 1) ∧ Fr M a.2 [q + 1] ∧ ∀ t < j + 1, 0 < t → a.2 (q + 1) t = iN 0) (2 ^ n) (FU_lt2 h8) ⟨by omega, rfl, Fr.refl _ _, fun t h1 h2 => by omega⟩ ?_
  rintro j ⟨a, M1⟩ ⟨hj, rfl, hf, ht⟩
  dsimp only at hf ht
  rcases Nat.lt_or_ge (j + 1) (2 ^ n) with hl | hl
  · left
    refine ⟨by omega, (iN (j + 1 + 1), upM M1 (q + 1) (j + 1) 0), ⟨hl, rfl, hf.trans (Fr.up (by simp)), fun t h1 h2 => ?_⟩, fun k => ?_⟩
    · dsimp only
      rw [upM_at]
      split
      · rfl
      · exact ht t (by omega) h2
    · simp (disch := omega) only [g_X4_count_L7, if_neg (show ¬ 2 ^ n ≤ j + 1 by omega), iN_le, iN_lt, chk_inb, chk_t, clamp_iN, bd_some, iN_add, iN_s, iN_and, iN_or, iN_shl, e10, e01, e00, bI_0, bI_1, bI_t, bI_f, has_iN, bitc, within_iN, mk_or1, xhas_iN, add_z, if_true, if_false, ite_true, ite_false, reduceCtorEq, Bool.false_eq_true, Bool.true_and, Bool.false_and, Bool.and_true, Bool.and_false, Bool.not_true, Bool.not_false]
  · right
    have e : j + 1 = 2 ^ n := by omega
    have hin : inb 0 512 = true := by decide
    have hc0 : (0 : Int32).toNatClampNeg = 0 := rfl
    have e2 : ∃ r, f_X4_count_L34 q q1 (iN (2 ^ n)) FU (0, upM M1 (q + 1) 0 1) = some r ∧ (r.1 = iN (FC b n (2 ^ n - 1)) ∧ Fr M r.2 [q + 1] ∧ ∀ t < 2 ^ n, r.2 (q + 1) t = iN (FC b n t)) := by
      refine lp_to (fun j a => j ≤ 2 ^ n ∧ a.1 = iN j ∧ Fr M a.2 [q + 1] ∧ ∀ t < 2 ^ n, a.2 (q + 1) t = iN (PF b n j t)) (2 ^ n) (FU_lt2 h8) ⟨by omega, rfl, hf.trans (Fr.up (by simp)), fun t h1 => ?_⟩ ?_
      · dsimp only
        rw [upM_at]
        rcases Nat.eq_zero_or_pos t with rfl | h2
        · rfl
        · rw [if_neg (by omega), ht t (by omega) h2]
          unfold PF
          rw [if_neg (by omega)]; rfl
      · rintro j ⟨a, M2⟩ ⟨hj, rfl, hf, ht⟩
        dsimp only at hf ht
        have h' : OR M2 q1 n b := h.same (hf q1 (by simp [hq.1])) (hf (q1 + 1) (by simpa using hq.2))
        rcases Nat.lt_or_ge j (2 ^ n) with hl | hl
        · left
          refine ⟨hl, ?_⟩
          have hle := FC_le (b := b) h9 hl
          have hjj : M2 (q + 1) j = iN (FC b n j) := by rw [ht j hl, PF_self hl h9]
          by_cases hz : FC b n j = 0
          · refine ⟨(iN (j + 1), M2), ⟨hl, rfl, hf, fun t h1 => ?_⟩, fun k => ?_⟩
            · dsimp only
              rw [ht t h1]
              unfold PF
              rw [S, hz, S_congr (n := n) (g := fun _ => 0) (fun k _ => by split <;> rfl), S_zero]
              rfl
            · simp (disch := omega) only [g_X4_count_L34, if_neg (show ¬ 2 ^ n ≤ j by omega), hjj, iN_ne0, hz, iN_le, iN_lt, chk_inb, chk_t, clamp_iN, bd_some, iN_add, iN_s, iN_and, iN_or, iN_shl, e10, e01, e00, bI_0, bI_1, bI_t, bI_f, has_iN, bitc, within_iN, mk_or1, xhas_iN, add_z, if_true, if_false, ite_true, ite_false, reduceCtorEq, Bool.false_eq_true, Bool.true_and, Bool.false_and, Bool.and_true, Bool.and_false, Bool.not_true, Bool.not_false]
          · obtain ⟨M3, e3, hf3, ht3⟩ := s_passOn h' hq hl (PF b n j) ht
            refine ⟨(iN (j + 1), M3), ⟨hl, rfl, hf.trans hf3, fun t h1 => ?_⟩, fun k => ?_⟩
            · dsimp only
              rw [ht3 t h1, PF_self hl h9]
              unfold PF
              rw [S, Nat.add_assoc]
            · simp (disch := omega) only [g_X4_count_L34, if_neg (show ¬ 2 ^ n ≤ j by omega), hjj, iN_ne0, hz, e3, iN_le, iN_lt, chk_inb, chk_t, clamp_iN, bd_some, iN_add, iN_s, iN_and, iN_or, iN_shl, e10, e01, e00, bI_0, bI_1, bI_t, bI_f, has_iN, bitc, within_iN, mk_or1, xhas_iN, add_z, if_true, if_false, ite_true, ite_false, reduceCtorEq, Bool.false_eq_true, Bool.true_and, Bool.false_and, Bool.and_true, Bool.and_false, Bool.not_true, Bool.not_false]
        · right
          have e : j = 2 ^ n := by omega
          subst e
          have hin : inb (iN (2 ^ n) - 1) 512 = true := by
            rw [iN_1, iN_sub (by omega), inb_iN (by omega)]; simp; omega
          have hcl : (iN (2 ^ n) - 1).toNatClampNeg = 2 ^ n - 1 := by
            rw [iN_1, iN_sub (by omega), iN_clamp (by omega)]
          refine ⟨(iN (FC b n (2 ^ n - 1)), M2), ⟨rfl, hf, fun t h1 => by dsimp only; rw [ht t h1, PF_all h1 h9]⟩, fun k => ?_⟩
          simp (disch := omega) only [g_X4_count_L34, if_pos (Nat.le_refl (2 ^ n)), hin, hcl, ht _ all_lt, PF_all all_lt h9, iN_le, iN_lt, chk_inb, chk_t, clamp_iN, bd_some, iN_add, iN_s, iN_and, iN_or, iN_shl, e10, e01, e00, bI_0, bI_1, bI_t, bI_f, has_iN, bitc, within_iN, mk_or1, xhas_iN, add_z, if_true, if_false, ite_true, ite_false, reduceCtorEq, Bool.false_eq_true, Bool.true_and, Bool.false_and, Bool.and_true, Bool.and_false, Bool.not_true, Bool.not_false]
    obtain ⟨r, e3, hr⟩ := e2
    refine ⟨r, hr, fun k => ?_⟩
    simp (disch := omega) only [g_X4_count_L7, if_pos (show 2 ^ n ≤ j + 1 by omega), hin, hc0, e3, iN_le, iN_lt, chk_inb, chk_t, clamp_iN, bd_some, iN_add, iN_s, iN_and, iN_or, iN_shl, e10, e01, e00, bI_0, bI_1, bI_t, bI_f, has_iN, bitc, within_iN, mk_or1, xhas_iN, add_z, if_true, if_false, ite_true, ite_false, reduceCtorEq, Bool.false_eq_true, Bool.true_and, Bool.false_and, Bool.and_true, Bool.and_false, Bool.not_true, Bool.not_false]
end RT
/-! ===== strict orders; what is reached is what is closed ===== -/
def St (b : Nat → Nat) (n : Nat) : Prop := n ≤ 9 ∧ (∀ k < n, b k < 2 ^ n) ∧ (∀ k < n, (b k).testBit k = false) ∧ ∀ k < n, ∀ j < n, (b k).testBit j = true → ∀ i < n, (b j).testBit i = true → (b k).testBit i = true
section JJ
variable {n : Nat} {b : Nat → Nat}
theorem cc_iff {s k : Nat} (hb : b k < 2 ^ n) (hn : n ≤ 9) : cc b s k = true ↔ s.testBit k = false ∧ ∀ j < n, (b k).testBit j = true → s.testBit j = true := by
  unfold cc
  rw [Bool.and_eq_true, sb_iff hb hn]
  cases s.testBit k <;> simp
theorem ct_lt {n : Nat} {p q : Nat → Bool} (h : ∀ k < n, p k = true → q k = true) (hx : ∃ k, k < n ∧ p k = false ∧ q k = true) : ct n p < ct n q := by
  have hle : ∀ m, m ≤ n → ct m p ≤ ct m q := fun m hm => S_le (fun k hk => by
    have := h k (by omega)
    cases hp : p k
    · simp
    · rw [this hp]; exact Nat.le_refl _)
  obtain ⟨k, h1, h2, h3⟩ := hx
  have H : ∀ d, k + 1 + d ≤ n → ct (k + 1 + d) p < ct (k + 1 + d) q := by
    intro d
    induction d with
    | zero =>
      intro _
      have := hle k (by omega)
      rw [Nat.add_zero, ct_s, ct_s, h2, h3]
      simp; omega
    | succ d ih =>
      intro hd
      have := ih (by omega)
      have h4 := h (k + 1 + d) (by omega)
      rw [← Nat.add_assoc, ct_s, ct_s]
      cases hp : p (k + 1 + d)
      · simp; omega
      · rw [h4 hp]; omega
  have := H (n - (k + 1)) (by omega)
  rw [show k + 1 + (n - (k + 1)) = n by omega] at this
  exact this
theorem pc_lt {s t : Nat} (hs : s < 2 ^ n) (ht : t < 2 ^ n) (hn : n ≤ 9) (h : ∀ k < n, s.testBit k = true → t.testBit k = true) (hx : ∃ k, k < n ∧ s.testBit k = false ∧ t.testBit k = true) : pc s < pc t := by
  rw [pc_ct hs hn, pc_ct ht hn]
  exact ct_lt h hx
theorem ne0_bit {t : Nat} (ht : t < 2 ^ n) (h0 : t ≠ 0) : ∃ k, k < n ∧ t.testBit k = true := by
  rcases Classical.em (∃ k, k < n ∧ t.testBit k = true) with h | h
  · exact h
  · refine absurd (set_ext ht (Nat.two_pow_pos n) (fun k hk => ?_)) h0
    cases hb : t.testBit k
    · simp
    · exact absurd ⟨k, hk, hb⟩ h
theorem ex_max (hS : St b n) {t : Nat} (ht : t < 2 ^ n) (h0 : t ≠ 0) : ∃ k, k < n ∧ t.testBit k = true ∧ ∀ j < n, t.testBit j = true → (b j).testBit k = false := by
  obtain ⟨hn, h1, h2, h3⟩ := hS
  obtain ⟨i, hi, hbi⟩ := ne0_bit ht h0
  obtain ⟨k, hk, hm⟩ := mx_at (n := n) (by omega) (fun k => if t.testBit k then pc (b k) + 1 else 0)
  have hge := mx_ge hi (fun k => if t.testBit k then pc (b k) + 1 else 0)
  simp only [hbi, if_true] at hge
  have hkt : t.testBit k = true := by
    cases hb : t.testBit k
    · rw [hb] at hm; simp at hm; omega
    · rfl
  refine ⟨k, hk, hkt, fun j hj hjt => ?_⟩
  cases hb : (b j).testBit k
  · rfl
  · exfalso
    have := pc_lt (h1 k hk) (h1 j hj) hn (fun i hi hb' => h3 j hj k hk hb i hi hb') ⟨k, hk, h2 k hk, hb⟩
    have hge := mx_ge hj (fun k => if t.testBit k then pc (b k) + 1 else 0)
    simp only [hjt, if_true] at hge
    simp only [hkt, if_true] at hm
    omega
theorem S_ne0 {n : Nat} {f : Nat → Nat} : S n f ≠ 0 ↔ ∃ k, k < n ∧ f k ≠ 0 := by
  constructor
  · intro h
    rcases Classical.em (∃ k, k < n ∧ f k ≠ 0) with h1 | h1
    · exact h1
    · refine absurd (S_0.mpr (fun k hk => ?_)) h
      rcases Classical.em (f k = 0) with h2 | h2
      · exact h2
      · exact absurd ⟨k, hk, h2⟩ h1
  · rintro ⟨k, hk, h⟩ e
    exact h (S_0.mp e k hk)
theorem minus_lt {t k : Nat} (ht : t < 2 ^ n) : t - 2 ^ k < 2 ^ n := Nat.lt_of_le_of_lt (Nat.sub_le _ _) ht
theorem cl_0 (hb : ∀ k < n, b k < 2 ^ n) (hn : n ≤ 9) : cl b n 0 = true := (cl_iff hb hn).mpr (fun k _ h => by simp at h)
theorem cl_minus (hS : St b n) {t k : Nat} (ht : t < 2 ^ n) (hk : k < n) (hc : cl b n t = true) (htk : t.testBit k = true) (hm : ∀ j < n, t.testBit j = true → (b j).testBit k = false) : cl b n (t - 2 ^ k) = true ∧ cc b (t - 2 ^ k) k = true := by
  obtain ⟨hn, h1, h2, h3⟩ := hS
  have h4 := (cl_iff h1 hn).mp hc
  constructor
  · refine (cl_iff h1 hn).mpr (fun j hj hb i hi hbi => ?_)
    rw [minus_bit ht htk] at hb ⊢
    have hjt : t.testBit j = true := by cases h : t.testBit j <;> simp [h] at hb ⊢
    have e : i ≠ k := fun e => by rw [e, hm j hj hjt] at hbi; cases hbi
    simp [h4 j hj hjt i hi hbi, e]
  · refine (cc_iff (h1 k hk) hn).mpr ⟨minus_no ht htk, fun i hi hbi => ?_⟩
    rw [minus_bit ht htk]
    have e : i ≠ k := fun e => by rw [e, h2 k hk] at hbi; cases hbi
    simp [h4 k hk htk i hi hbi, e]
theorem cl_plus (hb : ∀ k < n, b k < 2 ^ n) (hn : n ≤ 9) {s k : Nat} (hs : s < 2 ^ n) (hk : k < n) (hc : cl b n s = true) (h : cc b s k = true) : cl b n (s + 2 ^ k) = true := by
  have h4 := (cl_iff hb hn).mp hc
  obtain ⟨h5, h6⟩ := (cc_iff (hb k hk) hn).mp h
  refine (cl_iff hb hn).mpr (fun j hj hbj i hi hbi => ?_)
  rw [plus_bit hs hk h5] at hbj ⊢
  by_cases e : j = k
  · subst e; simp [h6 i hi hbi]
  · have hjs : s.testBit j = true := by simpa [e] using hbj
    simp [h4 j hj hjs i hi hbi]
theorem FC_pos (hS : St b n) {t : Nat} (ht : t < 2 ^ n) : FC b n t ≠ 0 ↔ cl b n t = true := by
  obtain ⟨hn, h1, h2, h3⟩ := hS
  have H : ∀ d t, t < 2 ^ n → pc t = d → (FC b n t ≠ 0 ↔ cl b n t = true) := by
    intro d
    induction d with
    | zero =>
      intro t ht hd
      have := (pc_0 ht hn).mp hd
      subst this
      exact ⟨fun _ => cl_0 h1 hn, fun _ => by rw [FC_0]; decide⟩
    | succ d ih =>
      intro t ht hd
      have h0 : t ≠ 0 := fun e => by subst e; cases hd
      rw [FC_s ht hn h0, S_ne0]
      constructor
      · rintro ⟨k, hk, hne⟩
        cases htk : t.testBit k
        · rw [htk] at hne; simp at hne
        · cases hc : cc b (t - 2 ^ k) k
          · rw [hc] at hne; simp at hne
          · rw [htk, hc] at hne
            simp only [Bool.and_true, if_true] at hne
            have := minus_pc ht hn htk
            have hcl := (ih (t - 2 ^ k) (minus_lt ht) (by omega)).mp hne
            have := cl_plus h1 hn (minus_lt ht) hk hcl hc
            rw [minus_plus htk] at this
            exact this
      · intro hc
        obtain ⟨k, hk, htk, hm⟩ := ex_max ⟨hn, h1, h2, h3⟩ ht h0
        obtain ⟨hcl, hcc⟩ := cl_minus ⟨hn, h1, h2, h3⟩ ht hk hc htk hm
        have := minus_pc ht hn htk
        refine ⟨k, hk, ?_⟩
        rw [htk, hcc]
        exact (ih (t - 2 ^ k) (minus_lt ht) (by omega)).mpr hcl
  exact H _ t ht rfl
theorem BC_s (hn : n ≤ 9) {s : Nat} (hs : s < 2 ^ n) (h0 : s ≠ 2 ^ n - 1) : BC b n s = S n (fun k => if cc b s k then BC b n (s + 2 ^ k) else 0) := by
  unfold BC
  have h1 : pc s ≠ n := fun e => h0 ((pc_n hs hn).mp e)
  have h2 := pc_le_n hs hn
  obtain ⟨d, hd⟩ := Nat.exists_eq_succ_of_ne_zero (show n - pc s ≠ 0 by omega)
  rw [hd, BW]
  refine S_congr (fun k hk => ?_)
  cases hc : cc b s k
  · rfl
  · have := plus_pc hs hn hk (cc_W0 b s k hc)
    rw [this, show n - (pc s + 1) = d by omega]
theorem BC_all (hn : n ≤ 9) : BC b n (2 ^ n - 1) = 1 := by
  unfold BC
  rw [pc_all hn, Nat.sub_self]; rfl
/-- the number of rows -/
def RW (b : Nat → Nat) (n : Nat) : Nat := BC b n 0
theorem FC_all (hn : n ≤ 9) : FC b n (2 ^ n - 1) = RW b n := by
  unfold FC RW BC
  rw [pc_all hn, FW_BW (cc_W0 b) hn]; rfl
theorem cl_all (hb : ∀ k < n, b k < 2 ^ n) (hn : n ≤ 9) : cl b n (2 ^ n - 1) = true := (cl_iff hb hn).mpr (fun k _ _ j hj _ => by rw [all_bit]; simp [hj])
theorem RW_pos (hS : St b n) : 0 < RW b n := by
  rw [← FC_all hS.1]
  exact Nat.pos_of_ne_zero ((FC_pos hS all_lt).mpr (cl_all hS.2.1 hS.1))
theorem RW_le (hn : n ≤ 9) : RW b n ≤ 362880 := BC_le hn (Nat.two_pow_pos n)
end JJ
/-! the ways on -/
section RT
variable {M : Mem} {q q1 n : Nat} {b : Nat → Nat}
/-- by things below m -/
def WL2 (b : Nat → Nat) (n s m : Nat) : Nat := S m (fun k => if cc b s k then BC b n (s + 2 ^ k) else 0)
theorem s_waysByLesser (h : OR M q1 n b) {s m : Nat} (hs : s < 2 ^ n) (hm : m ≤ n) (hT : ∀ k < n, cc b s k = true → M (q + 2) (s + 2 ^ k) = iN (BC b n (s + 2 ^ k))) : f_X4_waysByLesser M q q1 (iN s) (iN m) = some (iN (WL2 b n s m)) := by
  have h9 := h.le
  have h8 := p2_le h9
  refine lp_for (fun j => (iN (WL2 b n s j), iN j)) m (FU_lt (by omega)) ?_ ?_
  · intro j hj k
    have hjn : j < n := by omega
    unfold WL2
    cases hc : cc b s j
    · simp (disch := omega) only [g_X4_waysByLesser_L6, if_neg (show ¬ m ≤ j by omega), s_canCome h (show s < 512 by omega) hjn, hc, S, Nat.add_zero, iN_le, iN_lt, chk_inb, chk_t, clamp_iN, bd_some, iN_add, iN_s, iN_and, iN_or, iN_shl, e10, e01, e00, bI_0, bI_1, bI_t, bI_f, has_iN, bitc, within_iN, mk_or1, xhas_iN, add_z, if_true, if_false, ite_true, ite_false, reduceCtorEq, Bool.false_eq_true, Bool.true_and, Bool.false_and, Bool.and_true, Bool.and_false, Bool.not_true, Bool.not_false]
    · have hb := cc_W0 b s j hc
      have h2 := plus_lt hs hjn hb
      simp (disch := omega) only [g_X4_waysByLesser_L6, if_neg (show ¬ m ≤ j by omega), s_canCome h (show s < 512 by omega) hjn, hc, S, plus_or hs hjn hb, hT j hjn hc, iN_le, iN_lt, chk_inb, chk_t, clamp_iN, bd_some, iN_add, iN_s, iN_and, iN_or, iN_shl, e10, e01, e00, bI_0, bI_1, bI_t, bI_f, has_iN, bitc, within_iN, mk_or1, xhas_iN, add_z, if_true, if_false, ite_true, ite_false, reduceCtorEq, Bool.false_eq_true, Bool.true_and, Bool.false_and, Bool.and_true, Bool.and_false, Bool.not_true, Bool.not_false]
  · intro k
    simp (disch := omega) only [g_X4_waysByLesser_L6, if_pos (Nat.le_refl m), iN_le, iN_lt, chk_inb, chk_t, clamp_iN, bd_some, iN_add, iN_s, iN_and, iN_or, iN_shl, e10, e01, e00, bI_0, bI_1, bI_t, bI_f, has_iN, bitc, within_iN, mk_or1, xhas_iN, add_z, if_true, if_false, ite_true, ite_false, reduceCtorEq, Bool.false_eq_true, Bool.true_and, Bool.false_and, Bool.and_true, Bool.and_false, Bool.not_true, Bool.not_false]
/-- the table is filled for the order n, b -/
def RF (M : Mem) (q n : Nat) (b : Nat → Nat) : Prop := (∀ t < 2 ^ n, M (q + 1) t = iN (FC b n t)) ∧ ∀ s < 2 ^ n, cl b n s = true → M (q + 2) s = iN (BC b n s)
theorem s_fill (hS : St b n) (h : OR M q1 n b) (hq : (q1 ≠ q + 1 ∧ q1 + 1 ≠ q + 1) ∧ q1 ≠ q + 2 ∧ q1 + 1 ≠ q + 2) : ∃ r, f_X4_fill M q q1 = some r ∧ (r.1 = iN (RW b n) ∧ Fr M r.2 [q + 1, q + 2] ∧ RF r.2 q n b) := by
  have h9 := h.le
  have h8 := p2_le h9
  have h7 := Nat.two_pow_pos n
  obtain ⟨⟨r1, M1⟩, e1, hr, hf, ht⟩ := s_rcount h hq.1
  dsimp only at hr hf ht
  have h' : OR M1 q1 n b := h.same (hf q1 (by simp [hq.1.1])) (hf (q1 + 1) (by simpa using hq.1.2))
  unfold f_X4_fill
  rw [e1, bd_some]
  dsimp only
  rw [s_all h', bd_some, hr, FC_all h9]
  have hm1 : iN 0 + (-1) = (-1 : Int32) := by decide
  refine lp_to (fun j a => j ≤ 2 ^ n ∧ a.1 = (if j = 2 ^ n then -1 else iN (2 ^ n - 1 - j)) ∧ Fr M a.2 [q + 1, q + 2] ∧ (∀ t < 2 ^ n, a.2 (q + 1) t = iN (FC b n t)) ∧ ∀ s < 2 ^ n, 2 ^ n - 1 < s + j → cl b n s = true → a.2 (q + 2) s = iN (BC b n s)) (2 ^ n) (FU_lt2 h8) ⟨by omega, by simp [show ¬ 0 = 2 ^ n by omega], hf.mono (by simp), ht, fun s h1 h2 => by omega⟩ ?_
  rintro j ⟨a, M2⟩ ⟨hj, h0, hf2, ht2, hb2⟩
  dsimp only at h0 hf2 ht2 hb2
  subst h0
  have h2 : OR M2 q1 n b := h.same (hf2 q1 (by simp [hq.1.1, hq.2.1])) (hf2 (q1 + 1) (by simp only [List.mem_cons, List.not_mem_nil, or_false, not_or]; exact ⟨hq.1.2, hq.2.2⟩))
  rcases Nat.lt_or_ge j (2 ^ n) with hl | hl
  · left
    refine ⟨hl, ?_⟩
    have hs : 2 ^ n - 1 - j < 2 ^ n := by omega
    have hle := FC_le (b := b) h9 hs
    rw [if_neg (show ¬ j = 2 ^ n by omega)]
    have hnext : iN (2 ^ n - 1 - j) + (-1) = (if j + 1 = 2 ^ n then -1 else iN (2 ^ n - 1 - (j + 1))) := by
      by_cases e : j + 1 = 2 ^ n
      · rw [if_pos e, show 2 ^ n - 1 - j = 0 by omega]; exact hm1
      · rw [if_neg e, show 2 ^ n - 1 - j = 2 ^ n - 1 - (j + 1) + 1 by omega, ← iN_s, Int32.add_assoc, show (1 : Int32) + -1 = 0 by decide, Int32.add_zero]
    cases hc : cl b n (2 ^ n - 1 - j)
    · have hz : FC b n (2 ^ n - 1 - j) = 0 := by
        rcases Classical.em (FC b n (2 ^ n - 1 - j) = 0) with h | h
        · exact h
        · rw [(FC_pos hS hs).mp h] at hc; cases hc
      refine ⟨(if j + 1 = 2 ^ n then -1 else iN (2 ^ n - 1 - (j + 1)), M2), ⟨hl, rfl, hf2, ht2, fun s h1 h3 h4 => ?_⟩, fun k => ?_⟩
      · by_cases e : s = 2 ^ n - 1 - j
        · subst e; rw [hc] at h4; cases h4
        · exact hb2 s h1 (by omega) h4
      · rw [← hnext]
        simp (disch := omega) only [g_X4_fill_L11, iN_n0, ht2 _ hs, iN_ne0, hz, iN_le, iN_lt, chk_inb, chk_t, clamp_iN, bd_some, iN_add, iN_s, iN_and, iN_or, iN_shl, e10, e01, e00, bI_0, bI_1, bI_t, bI_f, has_iN, bitc, within_iN, mk_or1, xhas_iN, add_z, if_true, if_false, ite_true, ite_false, reduceCtorEq, Bool.false_eq_true, Bool.true_and, Bool.false_and, Bool.and_true, Bool.and_false, Bool.not_true, Bool.not_false]
    · have hnz := (FC_pos hS hs).mpr hc
      by_cases hall : 2 ^ n - 1 - j = 2 ^ n - 1
      · refine ⟨(if j + 1 = 2 ^ n then -1 else iN (2 ^ n - 1 - (j + 1)), upM M2 (q + 2) (2 ^ n - 1 - j) 1), ⟨hl, rfl, hf2.trans (Fr.up (by simp)), fun t h1 => ?_, fun s h1 h3 h4 => ?_⟩, fun k => ?_⟩
        · dsimp only
          rw [← ht2 t h1]
          simp only [upM, if_neg (show q + 1 ≠ q + 2 by omega)]
        · dsimp only
          rw [upM_at]
          split
          · next e => rw [e, hall, BC_all h9]; rfl
          · exact hb2 s h1 (by omega) h4
        · rw [← hnext]
          have hnz' : FC b n (2 ^ n - 1) ≠ 0 := hall ▸ hnz
          have hle' := FC_le (b := b) h9 (all_lt (n := n))
          simp (disch := omega) only [g_X4_fill_L11, hall, iN_n0, ht2 _ all_lt, iN_ne0, hnz', s_all h2, iN_le, iN_lt, chk_inb, chk_t, clamp_iN, bd_some, iN_add, iN_s, iN_and, iN_or, iN_shl, e10, e01, e00, bI_0, bI_1, bI_t, bI_f, has_iN, bitc, within_iN, mk_or1, xhas_iN, add_z, if_true, if_false, ite_true, ite_false, reduceCtorEq, Bool.false_eq_true, Bool.true_and, Bool.false_and, Bool.and_true, Bool.and_false, Bool.not_true, Bool.not_false]
      · have hW : f_X4_waysByLesser M2 q q1 (iN (2 ^ n - 1 - j)) (iN n) = some (iN (BC b n (2 ^ n - 1 - j))) := by
          rw [s_waysByLesser h2 hs (Nat.le_refl n) (fun k hk hcc => ?_), BC_s h9 hs hall]
          · rfl
          · have hb := cc_W0 b _ k hcc
            have := Nat.two_pow_pos k
            exact hb2 _ (plus_lt hs hk hb) (by omega) (cl_plus hS.2.1 h9 hs hk hc hcc)
        have hne : (iN (2 ^ n - 1 - j) = iN (2 ^ n - 1)) = False := by
          rw [iN_eq (by omega) (by omega)]; exact eq_false hall
        refine ⟨(if j + 1 = 2 ^ n then -1 else iN (2 ^ n - 1 - (j + 1)), upM M2 (q + 2) (2 ^ n - 1 - j) (iN (BC b n (2 ^ n - 1 - j)))), ⟨hl, rfl, hf2.trans (Fr.up (by simp)), fun t h1 => ?_, fun s h1 h3 h4 => ?_⟩, fun k => ?_⟩
        · dsimp only
          rw [← ht2 t h1]
          simp only [upM, if_neg (show q + 1 ≠ q + 2 by omega)]
        · dsimp only
          rw [upM_at]
          split
          · next e => rw [e]
          · exact hb2 s h1 (by omega) h4
        · rw [← hnext]
          simp (disch := omega) only [g_X4_fill_L11, iN_n0, ht2 _ hs, iN_ne0, hnz, s_all h2, hne, h2.n, hW, iN_le, iN_lt, chk_inb, chk_t, clamp_iN, bd_some, iN_add, iN_s, iN_and, iN_or, iN_shl, e10, e01, e00, bI_0, bI_1, bI_t, bI_f, has_iN, bitc, within_iN, mk_or1, xhas_iN, add_z, if_true, if_false, ite_true, ite_false, reduceCtorEq, Bool.false_eq_true, Bool.true_and, Bool.false_and, Bool.and_true, Bool.and_false, Bool.not_true, Bool.not_false]
  · right
    have e : j = 2 ^ n := by omega
    subst e
    refine ⟨(iN (RW b n), M2), ⟨rfl, hf2, ht2, fun s h1 h3 => hb2 s h1 (by omega) h3⟩, fun k => ?_⟩
    have hneg : ((-1 : Int32) < 0) = True := by decide
    simp (disch := omega) only [g_X4_fill_L11, hneg, iN_le, iN_lt, chk_inb, chk_t, clamp_iN, bd_some, iN_add, iN_s, iN_and, iN_or, iN_shl, e10, e01, e00, bI_0, bI_1, bI_t, bI_f, has_iN, bitc, within_iN, mk_or1, xhas_iN, add_z, if_true, if_false, ite_true, ite_false, reduceCtorEq, Bool.false_eq_true, Bool.true_and, Bool.false_and, Bool.and_true, Bool.and_false, Bool.not_true, Bool.not_false]
end RT
