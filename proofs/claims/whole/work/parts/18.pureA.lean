/-! ===== bridge: 32-bit words and natural numbers ===== -/
def iN (n : Nat) : Int32 := Int32.ofNat n
def bI (c : Bool) : Int32 := if c then 1 else 0
theorem iN_le {a b : Nat} (ha : a < 2 ^ 31) (hb : b < 2 ^ 31) : (iN a ≤ iN b) = (a ≤ b) := propext (Int32.ofNat_le_iff_le ha hb)
theorem iN_lt {a b : Nat} (ha : a < 2 ^ 31) (hb : b < 2 ^ 31) : (iN a < iN b) = (a < b) := propext (Int32.ofNat_lt_iff_lt ha hb)
theorem iN_toInt {a : Nat} (ha : a < 2 ^ 31) : (iN a).toInt = (a : Int) := Int32.toInt_ofNat_of_lt ha
theorem iN_eq {a b : Nat} (ha : a < 2 ^ 31) (hb : b < 2 ^ 31) : (iN a = iN b) = (a = b) := by
  apply propext; constructor
  · intro h
    have := congrArg Int32.toInt h
    rw [iN_toInt ha, iN_toInt hb] at this
    exact Int.ofNat.inj this
  · intro h; rw [h]
theorem iN_0 : (0 : Int32) = iN 0 := rfl
theorem iN_1 : (1 : Int32) = iN 1 := rfl
theorem iN_add (a b : Nat) : iN a + iN b = iN (a + b) := (Int32.ofNat_add a b).symm
theorem iN_s (a : Nat) : iN a + 1 = iN (a + 1) := (Int32.ofNat_add a 1).symm
theorem iN_mul (a b : Nat) : iN a * iN b = iN (a * b) := (Int32.ofNat_mul a b).symm
theorem iN_sub {a b : Nat} (h : b ≤ a) : iN a - iN b = iN (a - b) := by
  have h1 : iN a = iN (a - b) + iN b := by rw [iN_add, Nat.sub_add_cancel h]
  rw [h1, Int32.add_sub_cancel]
theorem iN_clamp {a : Nat} (ha : a < 2 ^ 31) : (iN a).toNatClampNeg = a := by
  have : (iN a).toNatClampNeg = (iN a).toInt.toNat := rfl
  rw [this, iN_toInt ha, Int.toNat_natCast]
theorem iN_n0 {a : Nat} (ha : a < 2 ^ 31) : (iN a < 0) = False := by
  rw [iN_0, iN_lt ha (by decide)]; simp
theorem inb_iN {a n : Nat} (ha : a < 2 ^ 31) : inb (iN a) n = decide (a < n) := by
  simp [inb, iN_n0 ha, iN_clamp ha]
theorem iN_shl {k : Nat} (hk : k < 31) : (1 : Int32) <<< (iN k &&& 31) = iN (2 ^ k) := by
  revert k; decide
theorem iN_and (a b : Nat) : iN a &&& iN b = iN (a &&& b) := by
  apply Int32.toBitVec_inj.mp
  show BitVec.ofNat 32 a &&& BitVec.ofNat 32 b = BitVec.ofNat 32 (a &&& b)
  rw [BitVec.ofNat_and]
theorem iN_or (a b : Nat) : iN a ||| iN b = iN (a ||| b) := by
  apply Int32.toBitVec_inj.mp
  show BitVec.ofNat 32 a ||| BitVec.ofNat 32 b = BitVec.ofNat 32 (a ||| b)
  rw [BitVec.ofNat_or]
/-- what is in x and not in y (sets below 512) -/
def dif (x y : Nat) : Nat := x &&& (y ^^^ 511)
theorem dif_bit {x y k : Nat} (hx : x < 512) : (dif x y).testBit k = (x.testBit k && !y.testBit k) := by
  unfold dif
  rw [Nat.testBit_and, Nat.testBit_xor]
  rcases Nat.lt_or_ge k 9 with h | h
  · have : (511 : Nat).testBit k = true := by revert k; decide
    rw [this]; simp
  · have hx' : x.testBit k = false := Nat.testBit_lt_two_pow (Nat.lt_of_lt_of_le hx (Nat.pow_le_pow_right (n := 2) (by decide) h))
    simp [hx']
theorem dif_lt {x y : Nat} (hx : x < 512) : dif x y < 512 := Nat.lt_of_le_of_lt Nat.and_le_left hx
theorem iN_andn {x y : Nat} (hx : x < 512) : iN x &&& (iN y ^^^ (-1)) = iN (dif x y) := by
  apply Int32.toBitVec_inj.mp
  show BitVec.ofNat 32 x &&& (BitVec.ofNat 32 y ^^^ (BitVec.ofInt 32 (-1))) = BitVec.ofNat 32 (dif x y)
  have h1 : BitVec.ofInt 32 (-1) = BitVec.allOnes 32 := by decide
  rw [h1]
  apply BitVec.eq_of_getLsbD_eq
  intro k hk
  rw [BitVec.getLsbD_and, BitVec.getLsbD_xor, BitVec.getLsbD_ofNat, BitVec.getLsbD_ofNat, BitVec.getLsbD_ofNat, dif_bit hx, BitVec.getLsbD_allOnes]
  simp [hk]
theorem bI_t : bI true = 1 := rfl
theorem bI_f : bI false = 0 := rfl
theorem bI_0 (c : Bool) : (bI c = 0) = (c = false) := by cases c <;> decide
theorem bI_1 (c : Bool) : (bI c = 1) = (c = true) := by cases c <;> decide
theorem isb_bI (c : Bool) : isb (bI c) = true := by cases c <;> rfl
theorem bI_iN (c : Bool) : bI c = iN c.toNat := by cases c <;> rfl
theorem has_iN {s k : Nat} (hs : s < 2 ^ 31) (hk : k < 31) : f_X6_has (iN s) (iN k) = some (bI (s.testBit k)) := by
  unfold f_X6_has
  have h : (((iN s) >>> ((iN k) &&& 31)) &&& 1) = bI (s.testBit k) := by
    have e1 : ((iN k) &&& 31).toBitVec.smod 32 = BitVec.ofNat 32 k := by revert k; decide
    apply Int32.toBitVec_inj.mp
    rw [Int32.toBitVec_and, Int32.toBitVec_shiftRight, e1]
    apply BitVec.eq_of_getLsbD_eq
    intro j hj
    rw [BitVec.getLsbD_and]
    have hb : (Int32.toBitVec (bI (s.testBit k))).getLsbD j = (decide (j = 0) && s.testBit k) := by
      cases s.testBit k
      · simp [bI]
      · revert j; decide
    rw [hb]
    have h1 : (Int32.toBitVec 1).getLsbD j = decide (j = 0) := by clear hb; revert j; decide
    rw [h1]
    rcases Nat.eq_zero_or_pos j with rfl | hj0
    · simp only [decide_true, Bool.and_true, Bool.true_and]
      show ((BitVec.ofNat 32 s).sshiftRight (BitVec.ofNat 32 k).toNat).getLsbD 0 = _
      rw [BitVec.getLsbD_sshiftRight]
      have e2 : (BitVec.ofNat 32 k).toNat = k := by rw [BitVec.toNat_ofNat]; exact Nat.mod_eq_of_lt (by omega)
      rw [e2]
      have : k < 32 := by omega
      simp only [Nat.add_zero, BitVec.getLsbD_ofNat]
      rw [if_pos this]
      simp [this]
    · have : ¬ j = 0 := by omega
      simp [this]
  rw [h]
  cases s.testBit k <;> rfl
/-- the number of a set's things -/
def pc (s : Nat) : Nat := (s.testBit 0).toNat + (s.testBit 1).toNat + (s.testBit 2).toNat + (s.testBit 3).toNat + (s.testBit 4).toNat + (s.testBit 5).toNat + (s.testBit 6).toNat + (s.testBit 7).toNat + (s.testBit 8).toNat
theorem bitc_all : ∀ s < 512, f_J6_bitCount_0f7a4 (iN s) = some (iN (pc s)) := by decide +kernel

/-! ===== loops ===== -/
theorem lp_for {A R : Type} {g : (A → Option R) → A → Option R} (st : Nat → A) (N : Nat) {r : Option R} {F : Nat} (hF : N < F) (hs : ∀ j < N, ∀ k, g k (st j) = k (st (j + 1))) (he : ∀ k, g k (st N) = r) : lp g F (st 0) = r := by
  have H : ∀ d j : Nat, j + d = N → ∀ F, d < F → lp g F (st j) = r := by
    intro d
    induction d with
    | zero =>
      intro j hj F hF
      obtain ⟨F, rfl⟩ := Nat.exists_eq_succ_of_ne_zero (by omega : F ≠ 0)
      rw [lp_s, show j = N by omega, he]
    | succ d ih =>
      intro j hj F hF
      obtain ⟨F, rfl⟩ := Nat.exists_eq_succ_of_ne_zero (by omega : F ≠ 0)
      rw [lp_s, hs j (by omega), ih (j + 1) (by omega) F (by omega)]
  exact H N 0 (by omega) F hF
/-- a loop that may end at any turn -/
theorem lp_to {A R : Type} {g : (A → Option R) → A → Option R} (I : Nat → A → Prop) (N : Nat) {Q : R → Prop} {F : Nat} {a : A} (hF : N < F) (h0 : I 0 a) (hs : ∀ j a, I j a → (j < N ∧ ∃ a', I (j + 1) a' ∧ ∀ k, g k a = k a') ∨ ∃ r, Q r ∧ ∀ k, g k a = some r) : ∃ r, lp g F a = some r ∧ Q r := by
  have H : ∀ d j : Nat, j + d = N → ∀ a, I j a → ∀ F, d < F → ∃ r, lp g F a = some r ∧ Q r := by
    intro d
    induction d with
    | zero =>
      intro j hj a ha F hF
      obtain ⟨F, rfl⟩ := Nat.exists_eq_succ_of_ne_zero (by omega : F ≠ 0)
      rcases hs j a ha with ⟨h1, -⟩ | ⟨r, hr, h2⟩
      · omega
      · exact ⟨r, by rw [lp_s, h2], hr⟩
    | succ d ih =>
      intro j hj a ha F hF
      obtain ⟨F, rfl⟩ := Nat.exists_eq_succ_of_ne_zero (by omega : F ≠ 0)
      rcases hs j a ha with ⟨h1, a', ha', h2⟩ | ⟨r, hr, h2⟩
      · rw [lp_s, h2]
        exact ih (j + 1) (by omega) a' ha' F (by omega)
      · exact ⟨r, by rw [lp_s, h2], hr⟩
  exact H N 0 (by omega) a h0 F hF
def al : Nat → (Nat → Bool) → Bool
  | 0, _ => true
  | n + 1, p => al n p && p n
theorem al_iff {n : Nat} {p : Nat → Bool} : al n p = true ↔ ∀ k < n, p k = true := by
  induction n with
  | zero => simp [al]
  | succ n ih =>
    rw [al, Bool.and_eq_true, ih]
    constructor
    · intro ⟨h1, h2⟩ k hk
      rcases Nat.lt_succ_iff_lt_or_eq.mp hk with h | h
      · exact h1 k h
      · rw [h]; exact h2
    · intro h
      exact ⟨fun k hk => h k (by omega), h n (by omega)⟩
theorem al_congr {n : Nat} {p q : Nat → Bool} (h : ∀ k < n, p k = q k) : al n p = al n q := by
  rw [Bool.eq_iff_iff, al_iff, al_iff]
  exact ⟨fun H k hk => by rw [← h k hk]; exact H k hk, fun H k hk => by rw [h k hk]; exact H k hk⟩
theorem al_f {n : Nat} {p : Nat → Bool} : al n p = false ↔ ∃ k, k < n ∧ p k = false := by
  rw [← Bool.not_eq_true, al_iff]
  constructor
  · intro h
    rcases Classical.em (∃ k, k < n ∧ p k = false) with h1 | h1
    · exact h1
    · refine absurd (fun k hk => ?_) h
      cases hp : p k
      · exact absurd ⟨k, hk, hp⟩ h1
      · rfl
  · rintro ⟨k, hk, hp⟩ h
    rw [h k hk] at hp
    cases hp
/-- a look that stops at the first that fails -/
theorem lp_al {A R : Type} {g : (A → Option R) → A → Option R} (st : Nat → A) (N : Nat) (p : Nat → Bool) {f e : Option R} {F : Nat} (hF : N < F) (hs : ∀ j < N, p j = true → ∀ k, g k (st j) = k (st (j + 1))) (hx : ∀ j < N, p j = false → ∀ k, g k (st j) = e) (he : ∀ k, g k (st N) = f) : lp g F (st 0) = if al N p then f else e := by
  have H : ∀ d j : Nat, j + d = N → ∀ F, d < F → al j p = true → lp g F (st j) = if al N p then f else e := by
    intro d
    induction d with
    | zero =>
      intro j hj F hF hp
      obtain ⟨F, rfl⟩ := Nat.exists_eq_succ_of_ne_zero (by omega : F ≠ 0)
      rw [show j = N by omega] at hp
      rw [lp_s, show j = N by omega, he, hp]
      rfl
    | succ d ih =>
      intro j hj F hF hp
      obtain ⟨F, rfl⟩ := Nat.exists_eq_succ_of_ne_zero (by omega : F ≠ 0)
      rw [lp_s]
      cases hpj : p j
      · rw [hx j (by omega) hpj]
        have : al N p = false := al_f.mpr ⟨j, by omega, hpj⟩
        rw [this]
        rfl
      · rw [hs j (by omega) hpj]
        exact ih (j + 1) (by omega) F (by omega) (by rw [al, hp, hpj]; rfl)
  exact H N 0 (by omega) F hF rfl
/-! ===== sums ===== -/
def S : Nat → (Nat → Nat) → Nat
  | 0, _ => 0
  | n + 1, f => S n f + f n
theorem S_congr {n : Nat} {f g : Nat → Nat} (h : ∀ k < n, f k = g k) : S n f = S n g := by
  induction n with
  | zero => rfl
  | succ n ih => rw [S, S, ih (fun k hk => h k (by omega)), h n (by omega)]
theorem S_add {n : Nat} {f g : Nat → Nat} : S n (fun k => f k + g k) = S n f + S n g := by
  induction n with
  | zero => rfl
  | succ n ih => simp only [S, ih]; omega
theorem S_zero {n : Nat} : S n (fun _ => 0) = 0 := by
  induction n with
  | zero => rfl
  | succ n ih => simp only [S, ih]
theorem S_mul {n c : Nat} {f : Nat → Nat} : S n (fun k => c * f k) = c * S n f := by
  induction n with
  | zero => rfl
  | succ n ih => simp only [S, ih, Nat.mul_add]
theorem S_mulr {n c : Nat} {f : Nat → Nat} : S n (fun k => f k * c) = S n f * c := by
  induction n with
  | zero => simp [S]
  | succ n ih => simp only [S, ih, Nat.add_mul]
theorem S_comm {n m : Nat} {f : Nat → Nat → Nat} : S n (fun i => S m (fun j => f i j)) = S m (fun j => S n (fun i => f i j)) := by
  induction n with
  | zero => simp only [S, S_zero]
  | succ n ih => simp only [S, ih, S_add]
theorem S_le {n : Nat} {f g : Nat → Nat} (h : ∀ k < n, f k ≤ g k) : S n f ≤ S n g := by
  induction n with
  | zero => exact Nat.le_refl _
  | succ n ih =>
    have := ih (fun k hk => h k (by omega))
    have := h n (by omega)
    simp only [S]; omega
theorem S_one {n k : Nat} (hk : k < n) (f : Nat → Nat) : S n (fun j => if j = k then f j else 0) = f k := by
  induction n with
  | zero => omega
  | succ n ih =>
    simp only [S]
    rcases Nat.lt_succ_iff_lt_or_eq.mp hk with h | h
    · rw [ih h, if_neg (by omega)]; omega
    · rw [if_pos h.symm, S_congr (g := fun _ => 0) (fun j hj => if_neg (by omega)), S_zero, h]; omega
theorem S_ge {n k : Nat} (hk : k < n) (f : Nat → Nat) : f k ≤ S n f := by
  induction n with
  | zero => omega
  | succ n ih =>
    simp only [S]
    rcases Nat.lt_succ_iff_lt_or_eq.mp hk with h | h
    · have := ih h; omega
    · rw [h]; omega
theorem S_0 {n : Nat} {f : Nat → Nat} : S n f = 0 ↔ ∀ k < n, f k = 0 := by
  constructor
  · intro h k hk
    have := S_ge hk f
    omega
  · intro h
    rw [S_congr (g := fun _ => 0) h, S_zero]
/-- how many -/
def ct (n : Nat) (p : Nat → Bool) : Nat := S n (fun k => (p k).toNat)
/-- the most -/
def mx : Nat → (Nat → Nat) → Nat
  | 0, _ => 0
  | n + 1, f => max (mx n f) (f n)
theorem mx_congr {n : Nat} {f g : Nat → Nat} (h : ∀ k < n, f k = g k) : mx n f = mx n g := by
  induction n with
  | zero => rfl
  | succ n ih => rw [mx, mx, ih (fun k hk => h k (by omega)), h n (by omega)]
theorem mx_le {n m : Nat} {f : Nat → Nat} : mx n f ≤ m ↔ ∀ k < n, f k ≤ m := by
  induction n with
  | zero => simp [mx]
  | succ n ih =>
    rw [mx, Nat.max_le, ih]
    constructor
    · intro ⟨h1, h2⟩ k hk
      rcases Nat.lt_succ_iff_lt_or_eq.mp hk with h | h
      · exact h1 k h
      · rw [h]; exact h2
    · intro h
      exact ⟨fun k hk => h k (by omega), h n (by omega)⟩
theorem mx_ge {n k : Nat} (hk : k < n) (f : Nat → Nat) : f k ≤ mx n f := mx_le.mp (Nat.le_refl _) k hk
theorem mx_at {n : Nat} (hn : 0 < n) (f : Nat → Nat) : ∃ k, k < n ∧ mx n f = f k := by
  induction n with
  | zero => omega
  | succ n ih =>
    rcases Nat.eq_zero_or_pos n with h | h
    · exact ⟨0, by omega, by rw [h]; simp [mx]⟩
    · obtain ⟨k, h1, h2⟩ := ih h
      rw [mx]
      rcases Nat.le_total (mx n f) (f n) with h3 | h3
      · exact ⟨n, by omega, Nat.max_eq_right h3⟩
      · exact ⟨k, by omega, by rw [Nat.max_eq_left h3, h2]⟩
/-! ===== an order in the memory, and sets ===== -/
/-- the order of n things at the cells q, q + 1: b k is the set of all below k -/
def OR (M : Mem) (q n : Nat) (b : Nat → Nat) : Prop := n ≤ 9 ∧ M q 0 = iN n ∧ ∀ k < n, M (q + 1) k = iN (b k) ∧ b k < 2 ^ n
theorem p2_le {n : Nat} (h : n ≤ 9) : 2 ^ n ≤ 512 := Nat.pow_le_pow_right (n := 2) (by decide) h
theorem OR.le {M : Mem} {q n : Nat} {b : Nat → Nat} (h : OR M q n b) : n ≤ 9 := h.1
theorem OR.n {M : Mem} {q n : Nat} {b : Nat → Nat} (h : OR M q n b) : M q 0 = iN n := h.2.1
theorem OR.b {M : Mem} {q n : Nat} {b : Nat → Nat} (h : OR M q n b) {k : Nat} (hk : k < n) : M (q + 1) k = iN (b k) := (h.2.2 k hk).1
theorem OR.lt {M : Mem} {q n : Nat} {b : Nat → Nat} (h : OR M q n b) {k : Nat} (hk : k < n) : b k < 2 ^ n := (h.2.2 k hk).2
theorem OR.lt9 {M : Mem} {q n : Nat} {b : Nat → Nat} (h : OR M q n b) {k : Nat} (hk : k < n) : b k < 512 := Nat.lt_of_lt_of_le (h.lt hk) (p2_le h.1)
/-- the set of all k < n with p k -/
def mk : Nat → (Nat → Bool) → Nat
  | 0, _ => 0
  | n + 1, p => mk n p + (if p n then 2 ^ n else 0)
theorem mk_lt (n : Nat) (p : Nat → Bool) : mk n p < 2 ^ n := by
  induction n with
  | zero => exact Nat.one_pos
  | succ n ih =>
    rw [mk, Nat.pow_succ]
    split <;> omega
theorem mk_or (n : Nat) (p : Nat → Bool) : mk n p ||| (if p n then 2 ^ n else 0) = mk (n + 1) p := by
  rw [mk]
  split
  · have := Nat.two_pow_add_eq_or_of_lt (mk_lt n p) 1
    rw [Nat.mul_one] at this
    rw [Nat.add_comm, this, Nat.or_comm]
  · simp
theorem mk_bit (n : Nat) (p : Nat → Bool) (k : Nat) : (mk n p).testBit k = (decide (k < n) && p k) := by
  induction n with
  | zero => simp [mk]
  | succ n ih =>
    rw [← mk_or, Nat.testBit_or, ih]
    rcases Nat.lt_trichotomy k n with h | h | h
    · have e : (if p n = true then 2 ^ n else 0).testBit k = false := by
        split
        · rw [Nat.testBit_two_pow]; simp; omega
        · simp
      rw [e]
      simp [h, Nat.lt_succ_of_lt h]
    · subst h
      cases hp : p k <;> simp [hp, Nat.testBit_two_pow]
    · have e : (if p n = true then 2 ^ n else 0).testBit k = false := by
        split
        · rw [Nat.testBit_two_pow]; simp; omega
        · simp
      rw [e]
      simp [show ¬ k < n by omega, show ¬ k < n + 1 by omega]
theorem bit_lt {s n k : Nat} (h : s < 2 ^ n) (hb : s.testBit k = true) : k < n := by
  rcases Nat.lt_or_ge k n with h1 | h1
  · exact h1
  · rw [Nat.testBit_lt_two_pow (Nat.lt_of_lt_of_le h (Nat.pow_le_pow_right (n := 2) (by decide) h1))] at hb
    cases hb
theorem set_ext {s t n : Nat} (hs : s < 2 ^ n) (ht : t < 2 ^ n) (h : ∀ k < n, s.testBit k = t.testBit k) : s = t := by
  apply Nat.eq_of_testBit_eq
  intro k
  rcases Nat.lt_or_ge k n with h1 | h1
  · exact h k h1
  · rw [Nat.testBit_lt_two_pow (Nat.lt_of_lt_of_le hs (Nat.pow_le_pow_right (n := 2) (by decide) h1)), Nat.testBit_lt_two_pow (Nat.lt_of_lt_of_le ht (Nat.pow_le_pow_right (n := 2) (by decide) h1))]
theorem mk_eq {s n : Nat} (hs : s < 2 ^ n) {p : Nat → Bool} (h : ∀ k < n, s.testBit k = p k) : s = mk n p :=
  set_ext hs (mk_lt n p) (fun k hk => by rw [h k hk, mk_bit]; simp [hk])
theorem mk_congr {n : Nat} {p q : Nat → Bool} (h : ∀ k < n, p k = q k) : mk n p = mk n q :=
  set_ext (mk_lt n p) (mk_lt n q) (fun k hk => by rw [mk_bit, mk_bit, h k hk])
theorem or_lt {s t n : Nat} (hs : s < 2 ^ n) (ht : t < 2 ^ n) : s ||| t < 2 ^ n := Nat.or_lt_two_pow hs ht
/-- part of -/
def sb (s t : Nat) : Bool := decide (dif s t = 0)
theorem sb_iff {s t n : Nat} (hs : s < 2 ^ n) (hn : n ≤ 9) : sb s t = true ↔ ∀ k < n, s.testBit k = true → t.testBit k = true := by
  have h9 : s < 512 := Nat.lt_of_lt_of_le hs (p2_le hn)
  unfold sb
  rw [decide_eq_true_iff]
  constructor
  · intro h k hk hb
    have := dif_bit (y := t) (k := k) h9
    rw [h, hb] at this
    simpa using this.symm
  · intro h
    refine set_ext (n := n) (Nat.lt_of_le_of_lt Nat.and_le_left hs) (Nat.two_pow_pos n) (fun k hk => ?_)
    rw [dif_bit h9]
    cases hb : s.testBit k
    · simp
    · rw [h k hk hb]; simp
theorem within_iN {s t : Nat} (hs : s < 512) : f_X6_isWithin (iN s) (iN t) = some (bI (sb s t)) := by
  unfold f_X6_isWithin
  simp only [iN_andn hs, iN_0, iN_eq (Nat.lt_trans (dif_lt hs) (by decide : 512 < 2 ^ 31)) (by decide : 0 < 2 ^ 31)]
  unfold sb
  by_cases h : dif s t = 0 <;> simp [h, bI] <;> rfl
theorem bitc {s : Nat} (hs : s < 512) : f_J6_bitCount_0f7a4 (iN s) = some (iN (pc s)) := bitc_all s hs
theorem and_lt9 {s t : Nat} (hs : s < 512) : s &&& t < 512 := Nat.lt_of_le_of_lt Nat.and_le_left hs
theorem clamp_iN {a : Nat} (ha : a < 2 ^ 31) : (iN a).toNatClampNeg = a := iN_clamp ha
theorem FU_lt {n : Nat} (h : n ≤ 9) : n < FU := by unfold FU; omega
theorem FU_lt2 {n : Nat} (h : n ≤ 512) : n < FU := by unfold FU; omega
section OO
variable {M : Mem} {q n : Nat} {b : Nat → Nat}
theorem s_setLimit (h : OR M q n b) : f_X3_setLimit M q = some (iN (2 ^ n)) := by
  unfold f_X3_setLimit
  rw [h.n, iN_shl (by have := h.le; omega)]
theorem s_all (h : OR M q n b) : f_X3_all M q = some (iN (2 ^ n - 1)) := by
  unfold f_X3_all
  rw [s_setLimit h, bd_some, iN_1, iN_sub (Nat.two_pow_pos n)]
theorem s_isBelow (h : OR M q n b) {j k : Nat} (hj : j < 31) (hk : k < n) : f_X3_isBelow M q (iN j) (iN k) = some (bI ((b k).testBit j)) := by
  have := h.le
  have := h.lt9 hk
  unfold f_X3_isBelow
  rw [inb_iN (by omega), decide_eq_true (show k < 9 by omega), chk_t, clamp_iN (by omega), h.b hk, has_iN (by omega) hj, bd_some, isb_bI, chk_t]
theorem s_pairCount (h : OR M q n b) : f_X3_pairCount M q = some (iN (S n fun k => pc (b k))) := by
  have h9 := h.le
  refine lp_for (fun j => (iN (S j fun k => pc (b k)), iN j)) n (FU_lt h9) ?_ ?_
  · intro j hj k
    have := h.lt9 hj
    simp (disch := omega) only [g_X3_pairCount_L4, h.n, iN_le, if_neg (show ¬ n ≤ j by omega), inb_iN, decide_eq_true (show j < 9 by omega), chk_t, clamp_iN, h.b hj, bitc, bd_some, iN_add, iN_s, S]
  · intro k
    simp (disch := omega) only [g_X3_pairCount_L4, h.n, iN_le, if_pos (Nat.le_refl n)]
end OO
theorem chk_inb {α : Type} {a n : Nat} {x : Option α} (h : a < n) (ha : a < 2 ^ 31) : chk (inb (iN a) n) x = x := by
  rw [inb_iN ha, decide_eq_true h]; rfl
theorem mk_or1 {n : Nat} {p : Nat → Bool} : mk n p ||| 2 ^ n = mk n p + 2 ^ n := by
  have := Nat.two_pow_add_eq_or_of_lt (mk_lt n p) 1
  rw [Nat.mul_one] at this
  rw [Nat.or_comm, ← this, Nat.add_comm]
theorem and_iff {s t n : Nat} (hs : s < 2 ^ n) : s &&& t = 0 ↔ ∀ k < n, s.testBit k = true → t.testBit k = false := by
  constructor
  · intro h k hk hb
    have := Nat.testBit_and s t k
    rw [h, hb] at this
    simpa using this.symm
  · intro h
    refine set_ext (n := n) (Nat.lt_of_le_of_lt Nat.and_le_left hs) (Nat.two_pow_pos n) (fun k hk => ?_)
    rw [Nat.testBit_and]
    cases hb : s.testBit k
    · simp
    · rw [h k hk hb]; simp
/-- has two sets nothing in common -/
def no (s t : Nat) : Bool := decide (s &&& t = 0)
theorem no_iff {s t n : Nat} (hs : s < 2 ^ n) : no s t = true ↔ ∀ k < n, s.testBit k = true → t.testBit k = false := by
  unfold no
  rw [decide_eq_true_iff, and_iff hs]
theorem and_0 {s t : Nat} (hs : s < 2 ^ 31) : (iN (s &&& t) = 0) = (no s t = true) := by
  rw [iN_0, iN_eq (Nat.lt_of_le_of_lt Nat.and_le_left hs) (by decide)]
  unfold no
  rw [decide_eq_true_eq]
theorem e10 : ((1 : Int32) = 0) = False := by decide
theorem e01 : ((0 : Int32) = 1) = False := by decide
theorem e00 : ((0 : Int32) = 0) = True := by decide
theorem pc_le (s : Nat) : pc s ≤ 9 := by
  unfold pc
  have := Bool.toNat_le (s.testBit 0); have := Bool.toNat_le (s.testBit 1); have := Bool.toNat_le (s.testBit 2)
  have := Bool.toNat_le (s.testBit 3); have := Bool.toNat_le (s.testBit 4); have := Bool.toNat_le (s.testBit 5)
  have := Bool.toNat_le (s.testBit 6); have := Bool.toNat_le (s.testBit 7); have := Bool.toNat_le (s.testBit 8)
  omega
theorem jmax_iN {a c : Nat} (ha : a < 2 ^ 31) (hc : c < 2 ^ 31) : jmax (iN a) (iN c) = iN (max a c) := by
  unfold jmax
  simp only [iN_lt ha hc]
  split
  · rw [Nat.max_eq_right (by omega)]
  · rw [Nat.max_eq_left (by omega)]
theorem tri_iN {m : Nat} (h : m < 10) : (iN m * (iN m - 1)) / 2 = iN (m * (m - 1) / 2) := by
  revert m; decide
theorem S_pc_le {n : Nat} {f : Nat → Nat} (h : ∀ k < n, f k ≤ 9) : S n f ≤ n * 9 := by
  induction n with
  | zero => exact Nat.le_refl _
  | succ n ih =>
    have := ih (fun k hk => h k (by omega))
    have := h n (by omega)
    simp only [S]; omega
theorem mx_le9 {n : Nat} {f : Nat → Nat} (h : ∀ k < n, f k ≤ 9) : mx n f ≤ 9 := mx_le.mpr h
theorem ct_le {n : Nat} {p : Nat → Bool} : ct n p ≤ n := by
  induction n with
  | zero => exact Nat.le_refl _
  | succ n ih =>
    have := Bool.toNat_le (p n)
    simp only [ct, S] at ih ⊢; omega
theorem ct_s {n : Nat} {p : Nat → Bool} : ct (n + 1) p = ct n p + (p n).toNat := rfl
theorem xhas_iN {s k : Nat} (hs : s < 2 ^ 31) (hk : k < 31) : f_X7_has (iN s) (iN k) = some (bI (s.testBit k)) := by
  have h := has_iN hs hk
  unfold f_X7_has
  unfold f_X6_has at h
  have e : ∀ z : Int32, (if z &&& 1 = 0 then some (0 : Int32) else some 1) = (if z &&& 1 = 1 then some 1 else some 0) := by
    intro z
    have h1 : z &&& 1 = 0 ∨ z &&& 1 = 1 := by
      have h2 : (z &&& 1).toBitVec = 0#32 ∨ (z &&& 1).toBitVec = 1#32 := by
        rw [Int32.toBitVec_and]
        have : ∀ x : BitVec 32, x &&& 1#32 = 0#32 ∨ x &&& 1#32 = 1#32 := by
          intro x
          rcases hb : x.getLsbD 0 with _ | _
          · left
            apply BitVec.eq_of_getLsbD_eq
            intro i hi
            rw [BitVec.getLsbD_and, BitVec.getLsbD_one]
            rcases Nat.eq_zero_or_pos i with rfl | h0
            · rw [hb]; simp
            · simp; omega
          · right
            apply BitVec.eq_of_getLsbD_eq
            intro i hi
            rw [BitVec.getLsbD_and, BitVec.getLsbD_one]
            rcases Nat.eq_zero_or_pos i with rfl | h0
            · rw [hb]; simp
            · simp; omega
        exact this z.toBitVec
      rcases h2 with h2 | h2
      · left; exact Int32.toBitVec_inj.mp h2
      · right; exact Int32.toBitVec_inj.mp h2
    rcases h1 with h1 | h1 <;> rw [h1] <;> rfl
  rw [← e]
  exact h
theorem cell {a o k : Nat} : a + o + 1 + k = a + o + 1 + k := rfl
theorem add_z {a : Nat} : iN a + 0 = iN a := Int32.add_zero _
theorem pc_ct {n s : Nat} (hs : s < 2 ^ n) (hn : n ≤ 9) : pc s = ct n s.testBit := by
  have h9 : pc s = ct 9 s.testBit := by
    unfold pc ct
    simp only [S, Nat.zero_add]
  rw [h9]
  have H : ∀ d m, m + d = 9 → n ≤ m → ct m s.testBit = ct n s.testBit := by
    intro d
    have aux : ∀ e, ct (n + e) s.testBit = ct n s.testBit := by
      intro e
      induction e with
      | zero => rfl
      | succ e ih =>
        rw [← Nat.add_assoc, ct_s, ih, Nat.testBit_lt_two_pow (Nat.lt_of_lt_of_le hs (Nat.pow_le_pow_right (n := 2) (by decide) (by omega)))]
        rfl
    intro m h1 h2
    obtain ⟨e, rfl⟩ := Nat.exists_eq_add_of_le h2
    exact aux e
  exact H 0 9 rfl hn
theorem ct_congr {n : Nat} {p q : Nat → Bool} (h : ∀ k < n, p k = q k) : ct n p = ct n q := S_congr (fun k hk => by rw [h k hk])
section OO
variable {M : Mem} {q n : Nat} {b : Nat → Nat}
/-! ===== what the order's own looks answer ===== -/
theorem s_aboveOf (h : OR M q n b) {t : Nat} (ht : t < n) : f_X3_aboveOf M q (iN t) = some (iN (mk n fun k => (b k).testBit t)) := by
  have h9 := h.le
  refine lp_for (fun j => (iN (mk j fun k => (b k).testBit t), iN j)) n (FU_lt h9) ?_ ?_
  · intro j hj k
    cases hb : (b j).testBit t
    · simp (disch := omega) only [g_X3_aboveOf_L4, h.n, s_isBelow h, if_neg (show ¬ n ≤ j by omega), mk, hb, Nat.add_zero, iN_le, iN_lt, chk_inb, chk_t, clamp_iN, bd_some, iN_add, iN_s, iN_and, iN_or, iN_shl, e10, e01, e00, bI_0, bI_1, bI_t, bI_f, has_iN, bitc, within_iN, mk_or1, xhas_iN, add_z, if_true, if_false, ite_true, ite_false, reduceCtorEq, Bool.false_eq_true, Bool.true_and, Bool.false_and, Bool.and_true, Bool.and_false, Bool.not_true, Bool.not_false]
    · simp (disch := omega) only [g_X3_aboveOf_L4, h.n, s_isBelow h, if_neg (show ¬ n ≤ j by omega), mk, hb, iN_le, iN_lt, chk_inb, chk_t, clamp_iN, bd_some, iN_add, iN_s, iN_and, iN_or, iN_shl, e10, e01, e00, bI_0, bI_1, bI_t, bI_f, has_iN, bitc, within_iN, mk_or1, xhas_iN, add_z, if_true, if_false, ite_true, ite_false, reduceCtorEq, Bool.false_eq_true, Bool.true_and, Bool.false_and, Bool.and_true, Bool.and_false, Bool.not_true, Bool.not_false]
  · intro k
    simp (disch := omega) only [g_X3_aboveOf_L4, h.n, if_pos (Nat.le_refl n), iN_le, iN_lt, chk_inb, chk_t, clamp_iN, bd_some, iN_add, iN_s, iN_and, iN_or, iN_shl, e10, e01, e00, bI_0, bI_1, bI_t, bI_f, has_iN, bitc, within_iN, mk_or1, xhas_iN, add_z, if_true, if_false, ite_true, ite_false, reduceCtorEq, Bool.false_eq_true, Bool.true_and, Bool.false_and, Bool.and_true, Bool.and_false, Bool.not_true, Bool.not_false]
/-- all that are below a thing of s -/
def un (b : Nat → Nat) (s : Nat) : Nat → Nat
  | 0 => 0
  | n + 1 => if s.testBit n then un b s n ||| b n else un b s n
theorem un_bit {b : Nat → Nat} {s n j : Nat} : (un b s n).testBit j = true ↔ ∃ k, k < n ∧ s.testBit k = true ∧ (b k).testBit j = true := by
  induction n with
  | zero => simp [un]
  | succ n ih =>
    rw [un]
    cases hb : s.testBit n
    · simp only [Bool.false_eq_true, if_false]
      rw [ih]
      constructor
      · rintro ⟨k, h1, h2, h3⟩; exact ⟨k, by omega, h2, h3⟩
      · rintro ⟨k, h1, h2, h3⟩
        refine ⟨k, ?_, h2, h3⟩
        rcases Nat.lt_succ_iff_lt_or_eq.mp h1 with h | h
        · exact h
        · rw [h, hb] at h2; cases h2
    · simp only [if_true, Nat.testBit_or, Bool.or_eq_true]
      rw [ih]
      constructor
      · rintro (⟨k, h1, h2, h3⟩ | h3)
        · exact ⟨k, by omega, h2, h3⟩
        · exact ⟨n, by omega, hb, h3⟩
      · rintro ⟨k, h1, h2, h3⟩
        rcases Nat.lt_succ_iff_lt_or_eq.mp h1 with h | h
        · exact Or.inl ⟨k, h, h2, h3⟩
        · right; rw [← h]; exact h3
theorem un_lt {b : Nat → Nat} {s n m : Nat} (h : ∀ k < n, b k < 2 ^ m) : un b s n < 2 ^ m := by
  induction n with
  | zero => exact Nat.two_pow_pos m
  | succ n ih =>
    rw [un]
    have h1 := ih (fun k hk => h k (by omega))
    split
    · exact or_lt h1 (h n (by omega))
    · exact h1
theorem s_allBelow (h : OR M q n b) {s : Nat} (hs : s < 2 ^ 31) : f_X3_allBelow M q (iN s) = some (iN (un b s n)) := by
  have h9 := h.le
  refine lp_for (fun j => (iN (un b s j), iN j)) n (FU_lt h9) ?_ ?_
  · intro j hj k
    cases hb : s.testBit j
    · simp (disch := omega) only [g_X3_allBelow_L4, h.n, if_neg (show ¬ n ≤ j by omega), un, hb, iN_le, iN_lt, chk_inb, chk_t, clamp_iN, bd_some, iN_add, iN_s, iN_and, iN_or, iN_shl, e10, e01, e00, bI_0, bI_1, bI_t, bI_f, has_iN, bitc, within_iN, mk_or1, xhas_iN, add_z, if_true, if_false, ite_true, ite_false, reduceCtorEq, Bool.false_eq_true, Bool.true_and, Bool.false_and, Bool.and_true, Bool.and_false, Bool.not_true, Bool.not_false]
    · simp (disch := omega) only [g_X3_allBelow_L4, h.n, if_neg (show ¬ n ≤ j by omega), un, hb, h.b hj, iN_le, iN_lt, chk_inb, chk_t, clamp_iN, bd_some, iN_add, iN_s, iN_and, iN_or, iN_shl, e10, e01, e00, bI_0, bI_1, bI_t, bI_f, has_iN, bitc, within_iN, mk_or1, xhas_iN, add_z, if_true, if_false, ite_true, ite_false, reduceCtorEq, Bool.false_eq_true, Bool.true_and, Bool.false_and, Bool.and_true, Bool.and_false, Bool.not_true, Bool.not_false]
  · intro k
    simp (disch := omega) only [g_X3_allBelow_L4, h.n, if_pos (Nat.le_refl n), iN_le, iN_lt, chk_inb, chk_t, clamp_iN, bd_some, iN_add, iN_s, iN_and, iN_or, iN_shl, e10, e01, e00, bI_0, bI_1, bI_t, bI_f, has_iN, bitc, within_iN, mk_or1, xhas_iN, add_z, if_true, if_false, ite_true, ite_false, reduceCtorEq, Bool.false_eq_true, Bool.true_and, Bool.false_and, Bool.and_true, Bool.and_false, Bool.not_true, Bool.not_false]
/-- the greatest things of s -/
def gr (b : Nat → Nat) (n s : Nat) : Nat := dif s (un b s n)
theorem s_greatestOf (h : OR M q n b) {s : Nat} (hs : s < 512) : f_X3_greatestOf M q (iN s) = some (iN (gr b n s)) := by
  unfold f_X3_greatestOf
  rw [s_allBelow h (by omega), bd_some, iN_andn hs]
  rfl
theorem gr_lt {s m : Nat} (hs : s < 2 ^ m) : gr b n s < 2 ^ m := Nat.lt_of_le_of_lt Nat.and_le_left hs
/-- the least things of s -/
def ls (b : Nat → Nat) (n s : Nat) : Nat := mk n fun k => s.testBit k && no (b k) s
theorem s_leastOf (h : OR M q n b) {s : Nat} (hs : s < 512) : f_X3_leastOf M q (iN s) = some (iN (ls b n s)) := by
  have h9 := h.le
  refine lp_for (fun j => (iN (ls b j s), iN j)) n (FU_lt h9) ?_ ?_
  · intro j hj k
    have := h.lt9 hj
    unfold ls
    cases hb : s.testBit j
    · simp (disch := omega) only [g_X3_leastOf_L4, h.n, if_neg (show ¬ n ≤ j by omega), mk, hb, Nat.add_zero, iN_le, iN_lt, chk_inb, chk_t, clamp_iN, bd_some, iN_add, iN_s, iN_and, iN_or, iN_shl, e10, e01, e00, bI_0, bI_1, bI_t, bI_f, has_iN, bitc, within_iN, mk_or1, xhas_iN, add_z, if_true, if_false, ite_true, ite_false, reduceCtorEq, Bool.false_eq_true, Bool.true_and, Bool.false_and, Bool.and_true, Bool.and_false, Bool.not_true, Bool.not_false]
    · cases hc : no (b j) s
      · simp (disch := omega) only [g_X3_leastOf_L4, h.n, if_neg (show ¬ n ≤ j by omega), mk, hb, hc, h.b hj, and_0, Nat.add_zero, iN_le, iN_lt, chk_inb, chk_t, clamp_iN, bd_some, iN_add, iN_s, iN_and, iN_or, iN_shl, e10, e01, e00, bI_0, bI_1, bI_t, bI_f, has_iN, bitc, within_iN, mk_or1, xhas_iN, add_z, if_true, if_false, ite_true, ite_false, reduceCtorEq, Bool.false_eq_true, Bool.true_and, Bool.false_and, Bool.and_true, Bool.and_false, Bool.not_true, Bool.not_false]
      · simp (disch := omega) only [g_X3_leastOf_L4, h.n, if_neg (show ¬ n ≤ j by omega), mk, hb, hc, h.b hj, and_0, iN_le, iN_lt, chk_inb, chk_t, clamp_iN, bd_some, iN_add, iN_s, iN_and, iN_or, iN_shl, e10, e01, e00, bI_0, bI_1, bI_t, bI_f, has_iN, bitc, within_iN, mk_or1, xhas_iN, add_z, if_true, if_false, ite_true, ite_false, reduceCtorEq, Bool.false_eq_true, Bool.true_and, Bool.false_and, Bool.and_true, Bool.and_false, Bool.not_true, Bool.not_false]
  · intro k
    simp (disch := omega) only [g_X3_leastOf_L4, h.n, if_pos (Nat.le_refl n), iN_le, iN_lt, chk_inb, chk_t, clamp_iN, bd_some, iN_add, iN_s, iN_and, iN_or, iN_shl, e10, e01, e00, bI_0, bI_1, bI_t, bI_f, has_iN, bitc, within_iN, mk_or1, xhas_iN, add_z, if_true, if_false, ite_true, ite_false, reduceCtorEq, Bool.false_eq_true, Bool.true_and, Bool.false_and, Bool.and_true, Bool.and_false, Bool.not_true, Bool.not_false]
/-- each two things of s are apart -/
def ap (b : Nat → Nat) (n s : Nat) : Bool := al n fun k => !s.testBit k || no (b k) s
theorem ite_b (c : Bool) : (if c = true then some (1 : Int32) else some 0) = some (bI c) := by cases c <;> rfl
theorem s_isUnordered (h : OR M q n b) {s : Nat} (hs : s < 512) : f_X3_isUnordered M q (iN s) = some (bI (ap b n s)) := by
  have h9 := h.le
  rw [← ite_b]
  refine lp_al (fun j => iN j) n (fun k => !s.testBit k || no (b k) s) (FU_lt h9) ?_ ?_ ?_
  · intro j hj hp k
    have := h.lt9 hj
    cases hb : s.testBit j
    · simp (disch := omega) only [g_X3_isUnordered_L2, h.n, if_neg (show ¬ n ≤ j by omega), hb, iN_le, iN_lt, chk_inb, chk_t, clamp_iN, bd_some, iN_add, iN_s, iN_and, iN_or, iN_shl, e10, e01, e00, bI_0, bI_1, bI_t, bI_f, has_iN, bitc, within_iN, mk_or1, xhas_iN, add_z, if_true, if_false, ite_true, ite_false, reduceCtorEq, Bool.false_eq_true, Bool.true_and, Bool.false_and, Bool.and_true, Bool.and_false, Bool.not_true, Bool.not_false]
    · have hc : no (b j) s = true := by simpa [hb] using hp
      simp (disch := omega) only [g_X3_isUnordered_L2, h.n, if_neg (show ¬ n ≤ j by omega), hb, hc, h.b hj, and_0, iN_le, iN_lt, chk_inb, chk_t, clamp_iN, bd_some, iN_add, iN_s, iN_and, iN_or, iN_shl, e10, e01, e00, bI_0, bI_1, bI_t, bI_f, has_iN, bitc, within_iN, mk_or1, xhas_iN, add_z, if_true, if_false, ite_true, ite_false, reduceCtorEq, Bool.false_eq_true, Bool.true_and, Bool.false_and, Bool.and_true, Bool.and_false, Bool.not_true, Bool.not_false]
  · intro j hj hp k
    have := h.lt9 hj
    have hb : s.testBit j = true := by cases hb : s.testBit j <;> simp [hb] at hp ⊢
    have hc : no (b j) s = false := by simpa [hb] using hp
    simp (disch := omega) only [g_X3_isUnordered_L2, h.n, if_neg (show ¬ n ≤ j by omega), hb, hc, h.b hj, and_0, iN_le, iN_lt, chk_inb, chk_t, clamp_iN, bd_some, iN_add, iN_s, iN_and, iN_or, iN_shl, e10, e01, e00, bI_0, bI_1, bI_t, bI_f, has_iN, bitc, within_iN, mk_or1, xhas_iN, add_z, if_true, if_false, ite_true, ite_false, reduceCtorEq, Bool.false_eq_true, Bool.true_and, Bool.false_and, Bool.and_true, Bool.and_false, Bool.not_true, Bool.not_false]
  · intro k
    simp (disch := omega) only [g_X3_isUnordered_L2, h.n, if_pos (Nat.le_refl n), iN_le, iN_lt, chk_inb, chk_t, clamp_iN, bd_some, iN_add, iN_s, iN_and, iN_or, iN_shl, e10, e01, e00, bI_0, bI_1, bI_t, bI_f, has_iN, bitc, within_iN, mk_or1, xhas_iN, add_z, if_true, if_false, ite_true, ite_false, reduceCtorEq, Bool.false_eq_true, Bool.true_and, Bool.false_and, Bool.and_true, Bool.and_false, Bool.not_true, Bool.not_false]
/-- s is closed below -/
def cl (b : Nat → Nat) (n s : Nat) : Bool := al n fun k => !s.testBit k || sb (b k) s
theorem s_isClosedBelow (h : OR M q n b) {s : Nat} (hs : s < 512) : f_X3_isClosedBelow M q (iN s) = some (bI (cl b n s)) := by
  have h9 := h.le
  rw [← ite_b]
  refine lp_al (fun j => iN j) n (fun k => !s.testBit k || sb (b k) s) (FU_lt h9) ?_ ?_ ?_
  · intro j hj hp k
    have := h.lt9 hj
    cases hb : s.testBit j
    · simp (disch := omega) only [g_X3_isClosedBelow_L2, h.n, if_neg (show ¬ n ≤ j by omega), hb, iN_le, iN_lt, chk_inb, chk_t, clamp_iN, bd_some, iN_add, iN_s, iN_and, iN_or, iN_shl, e10, e01, e00, bI_0, bI_1, bI_t, bI_f, has_iN, bitc, within_iN, mk_or1, xhas_iN, add_z, if_true, if_false, ite_true, ite_false, reduceCtorEq, Bool.false_eq_true, Bool.true_and, Bool.false_and, Bool.and_true, Bool.and_false, Bool.not_true, Bool.not_false]
    · have hc : sb (b j) s = true := by simpa [hb] using hp
      simp (disch := omega) only [g_X3_isClosedBelow_L2, h.n, if_neg (show ¬ n ≤ j by omega), hb, hc, h.b hj, iN_le, iN_lt, chk_inb, chk_t, clamp_iN, bd_some, iN_add, iN_s, iN_and, iN_or, iN_shl, e10, e01, e00, bI_0, bI_1, bI_t, bI_f, has_iN, bitc, within_iN, mk_or1, xhas_iN, add_z, if_true, if_false, ite_true, ite_false, reduceCtorEq, Bool.false_eq_true, Bool.true_and, Bool.false_and, Bool.and_true, Bool.and_false, Bool.not_true, Bool.not_false]
  · intro j hj hp k
    have := h.lt9 hj
    have hb : s.testBit j = true := by cases hb : s.testBit j <;> simp [hb] at hp ⊢
    have hc : sb (b j) s = false := by simpa [hb] using hp
    simp (disch := omega) only [g_X3_isClosedBelow_L2, h.n, if_neg (show ¬ n ≤ j by omega), hb, hc, h.b hj, iN_le, iN_lt, chk_inb, chk_t, clamp_iN, bd_some, iN_add, iN_s, iN_and, iN_or, iN_shl, e10, e01, e00, bI_0, bI_1, bI_t, bI_f, has_iN, bitc, within_iN, mk_or1, xhas_iN, add_z, if_true, if_false, ite_true, ite_false, reduceCtorEq, Bool.false_eq_true, Bool.true_and, Bool.false_and, Bool.and_true, Bool.and_false, Bool.not_true, Bool.not_false]
  · intro k
    simp (disch := omega) only [g_X3_isClosedBelow_L2, h.n, if_pos (Nat.le_refl n), iN_le, iN_lt, chk_inb, chk_t, clamp_iN, bd_some, iN_add, iN_s, iN_and, iN_or, iN_shl, e10, e01, e00, bI_0, bI_1, bI_t, bI_f, has_iN, bitc, within_iN, mk_or1, xhas_iN, add_z, if_true, if_false, ite_true, ite_false, reduceCtorEq, Bool.false_eq_true, Bool.true_and, Bool.false_and, Bool.and_true, Bool.and_false, Bool.not_true, Bool.not_false]
theorem s_filledUp (h : OR M q n b) {s : Nat} (hs : s < 2 ^ 31) : f_X3_filledUp M q (iN s) = some (iN (s ||| un b s n)) := by
  unfold f_X3_filledUp
  simp (disch := omega) only [s_allBelow h, iN_le, iN_lt, chk_inb, chk_t, clamp_iN, bd_some, iN_add, iN_s, iN_and, iN_or, iN_shl, e10, e01, e00, bI_0, bI_1, bI_t, bI_f, has_iN, bitc, within_iN, mk_or1, xhas_iN, add_z, if_true, if_false, ite_true, ite_false, reduceCtorEq, Bool.false_eq_true, Bool.true_and, Bool.false_and, Bool.and_true, Bool.and_false, Bool.not_true, Bool.not_false]
theorem s_pared (h : OR M q n b) {s : Nat} (hs : s < 512) : f_X3_pared M q (iN s) = some (iN (mk n fun k => s.testBit k && sb (b k) s)) := by
  have h9 := h.le
  refine lp_for (fun j => (iN (mk j fun k => s.testBit k && sb (b k) s), iN j)) n (FU_lt h9) ?_ ?_
  · intro j hj k
    have := h.lt9 hj
    cases hb : s.testBit j
    · simp (disch := omega) only [g_X3_pared_L4, h.n, if_neg (show ¬ n ≤ j by omega), mk, hb, Nat.add_zero, iN_le, iN_lt, chk_inb, chk_t, clamp_iN, bd_some, iN_add, iN_s, iN_and, iN_or, iN_shl, e10, e01, e00, bI_0, bI_1, bI_t, bI_f, has_iN, bitc, within_iN, mk_or1, xhas_iN, add_z, if_true, if_false, ite_true, ite_false, reduceCtorEq, Bool.false_eq_true, Bool.true_and, Bool.false_and, Bool.and_true, Bool.and_false, Bool.not_true, Bool.not_false]
    · cases hc : sb (b j) s
      · simp (disch := omega) only [g_X3_pared_L4, h.n, if_neg (show ¬ n ≤ j by omega), mk, hb, hc, h.b hj, Nat.add_zero, iN_le, iN_lt, chk_inb, chk_t, clamp_iN, bd_some, iN_add, iN_s, iN_and, iN_or, iN_shl, e10, e01, e00, bI_0, bI_1, bI_t, bI_f, has_iN, bitc, within_iN, mk_or1, xhas_iN, add_z, if_true, if_false, ite_true, ite_false, reduceCtorEq, Bool.false_eq_true, Bool.true_and, Bool.false_and, Bool.and_true, Bool.and_false, Bool.not_true, Bool.not_false]
      · simp (disch := omega) only [g_X3_pared_L4, h.n, if_neg (show ¬ n ≤ j by omega), mk, hb, hc, h.b hj, iN_le, iN_lt, chk_inb, chk_t, clamp_iN, bd_some, iN_add, iN_s, iN_and, iN_or, iN_shl, e10, e01, e00, bI_0, bI_1, bI_t, bI_f, has_iN, bitc, within_iN, mk_or1, xhas_iN, add_z, if_true, if_false, ite_true, ite_false, reduceCtorEq, Bool.false_eq_true, Bool.true_and, Bool.false_and, Bool.and_true, Bool.and_false, Bool.not_true, Bool.not_false]
  · intro k
    simp (disch := omega) only [g_X3_pared_L4, h.n, if_pos (Nat.le_refl n), iN_le, iN_lt, chk_inb, chk_t, clamp_iN, bd_some, iN_add, iN_s, iN_and, iN_or, iN_shl, e10, e01, e00, bI_0, bI_1, bI_t, bI_f, has_iN, bitc, within_iN, mk_or1, xhas_iN, add_z, if_true, if_false, ite_true, ite_false, reduceCtorEq, Bool.false_eq_true, Bool.true_and, Bool.false_and, Bool.and_true, Bool.and_false, Bool.not_true, Bool.not_false]
theorem s_nextCount (h : OR M q n b) : f_X3_nextCount M q = some (iN (S n fun k => pc (gr b n (b k)))) := by
  have h9 := h.le
  refine lp_for (fun j => (iN (S j fun k => pc (gr b n (b k))), iN j)) n (FU_lt h9) ?_ ?_
  · intro j hj k
    have h1 := h.lt9 hj
    have := gr_lt (b := b) (n := n) (m := 9) h1
    simp (disch := omega) only [g_X3_nextCount_L4, h.n, if_neg (show ¬ n ≤ j by omega), S, h.b hj, s_greatestOf h h1, bitc this, iN_le, iN_lt, chk_inb, chk_t, clamp_iN, bd_some, iN_add, iN_s, iN_and, iN_or, iN_shl, e10, e01, e00, bI_0, bI_1, bI_t, bI_f, has_iN, bitc, within_iN, mk_or1, xhas_iN, add_z, if_true, if_false, ite_true, ite_false, reduceCtorEq, Bool.false_eq_true, Bool.true_and, Bool.false_and, Bool.and_true, Bool.and_false, Bool.not_true, Bool.not_false]
  · intro k
    simp (disch := omega) only [g_X3_nextCount_L4, h.n, if_pos (Nat.le_refl n), iN_le, iN_lt, chk_inb, chk_t, clamp_iN, bd_some, iN_add, iN_s, iN_and, iN_or, iN_shl, e10, e01, e00, bI_0, bI_1, bI_t, bI_f, has_iN, bitc, within_iN, mk_or1, xhas_iN, add_z, if_true, if_false, ite_true, ite_false, reduceCtorEq, Bool.false_eq_true, Bool.true_and, Bool.false_and, Bool.and_true, Bool.and_false, Bool.not_true, Bool.not_false]
theorem s_isNextBelow (h : OR M q n b) {j k : Nat} (hj : j < n) (hk : k < n) : f_X3_isNextBelow M q (iN j) (iN k) = some (bI ((b k).testBit j && no (mk n fun i => (b i).testBit j) (b k))) := by
  have h9 := h.le
  have h1 := Nat.lt_of_lt_of_le (mk_lt n fun i => (b i).testBit j) (p2_le h9)
  unfold f_X3_isNextBelow
  cases hb : (b k).testBit j
  · simp (disch := omega) only [s_isBelow h, hb, iN_le, iN_lt, chk_inb, chk_t, clamp_iN, bd_some, iN_add, iN_s, iN_and, iN_or, iN_shl, e10, e01, e00, bI_0, bI_1, bI_t, bI_f, has_iN, bitc, within_iN, mk_or1, xhas_iN, add_z, if_true, if_false, ite_true, ite_false, reduceCtorEq, Bool.false_eq_true, Bool.true_and, Bool.false_and, Bool.and_true, Bool.and_false, Bool.not_true, Bool.not_false]
  · cases hc : no (mk n fun i => (b i).testBit j) (b k)
    · simp (disch := omega) only [s_isBelow h, hb, s_aboveOf h hj, h.b hk, and_0, hc, iN_le, iN_lt, chk_inb, chk_t, clamp_iN, bd_some, iN_add, iN_s, iN_and, iN_or, iN_shl, e10, e01, e00, bI_0, bI_1, bI_t, bI_f, has_iN, bitc, within_iN, mk_or1, xhas_iN, add_z, if_true, if_false, ite_true, ite_false, reduceCtorEq, Bool.false_eq_true, Bool.true_and, Bool.false_and, Bool.and_true, Bool.and_false, Bool.not_true, Bool.not_false]
    · simp (disch := omega) only [s_isBelow h, hb, s_aboveOf h hj, h.b hk, and_0, hc, iN_le, iN_lt, chk_inb, chk_t, clamp_iN, bd_some, iN_add, iN_s, iN_and, iN_or, iN_shl, e10, e01, e00, bI_0, bI_1, bI_t, bI_f, has_iN, bitc, within_iN, mk_or1, xhas_iN, add_z, if_true, if_false, ite_true, ite_false, reduceCtorEq, Bool.false_eq_true, Bool.true_and, Bool.false_and, Bool.and_true, Bool.and_false, Bool.not_true, Bool.not_false]
/-- one more thing may come to s -/
def cc (b : Nat → Nat) (s k : Nat) : Bool := !s.testBit k && sb (b k) s
theorem s_canCome (h : OR M q n b) {s k : Nat} (hs : s < 512) (hk : k < n) : f_X3_canCome M q (iN s) (iN k) = some (bI (cc b s k)) := by
  have h9 := h.le
  have h1 := h.lt9 hk
  have e1 : f_X3_canCome M q (iN s) (iN k) = bd (f_X6_has (iN s) (iN k)) (fun z => if z = 0 then chk (inb (iN k) 9) (f_X6_isWithin (M (q + 1) (iN k).toNatClampNeg) (iN s)) else some 0) := by
    unfold f_X3_canCome f_X6_has f_X6_isWithin
    split <;> rfl
  rw [e1]
  unfold cc
  cases hb : s.testBit k
  · simp (disch := omega) only [hb, h.b hk, iN_le, iN_lt, chk_inb, chk_t, clamp_iN, bd_some, iN_add, iN_s, iN_and, iN_or, iN_shl, e10, e01, e00, bI_0, bI_1, bI_t, bI_f, has_iN, bitc, within_iN, mk_or1, xhas_iN, add_z, if_true, if_false, ite_true, ite_false, reduceCtorEq, Bool.false_eq_true, Bool.true_and, Bool.false_and, Bool.and_true, Bool.and_false, Bool.not_true, Bool.not_false]
  · simp (disch := omega) only [hb, iN_le, iN_lt, chk_inb, chk_t, clamp_iN, bd_some, iN_add, iN_s, iN_and, iN_or, iN_shl, e10, e01, e00, bI_0, bI_1, bI_t, bI_f, has_iN, bitc, within_iN, mk_or1, xhas_iN, add_z, if_true, if_false, ite_true, ite_false, reduceCtorEq, Bool.false_eq_true, Bool.true_and, Bool.false_and, Bool.and_true, Bool.and_false, Bool.not_true, Bool.not_false]
end OO
