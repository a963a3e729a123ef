/-! ===== quotients of whole numbers are numbers: 64 bits ===== -/
theorem k64_t : FP.Core.b64.tails = 4503599627370496 := by decide
theorem k64_x : FP.Core.b64.exps = 2048 := by decide
theorem k64_i : FP.Core.b64.qmin = -1074 := by decide
theorem k64_a : FP.Core.b64.qmax = 971 := by decide
theorem k64_p : 2 ^ FP.Core.b64.p = 9007199254740992 := by decide
/-- a datum that is a number or an infinity -/
def wf64 : FP.Core.Datum → Prop
  | .nan => False
  | .inf _ => True
  | .fin _ c q => c < 9007199254740992 ∧ q ≤ 971
theorem wf64_settle (s : Bool) (c : Nat) (q : Int) : wf64 (FP.Core.settle FP.Core.b64 s c q) := by
  unfold FP.Core.settle FP.Core.bound
  rw [k64_p, k64_t, k64_a]
  by_cases h : c < 9007199254740992
  · rw [if_pos h]
    by_cases h2 : q ≤ 971
    · rw [if_pos h2]; exact ⟨h, h2⟩
    · rw [if_neg h2]; exact True.intro
  · rw [if_neg h]
    by_cases h2 : q + 1 ≤ 971
    · rw [if_pos h2]; exact ⟨by decide, h2⟩
    · rw [if_neg h2]; exact True.intro
theorem wf64_rr (s : Bool) (a c : Nat) (e : Int) : wf64 (FP.Core.roundRatio FP.Core.b64 s a c e) := by
  unfold FP.Core.roundRatio
  split
  · rw [k64_i]; exact ⟨by decide, by decide⟩
  · exact wf64_settle _ _ _
theorem nn64_n {n : Nat} (h : n % 9223372036854775808 ≤ 9218868437227405312) (hn : n < 18446744073709551616) : nn64 (UInt64.ofNat n) = true := by
  unfold nn64
  have e1 : (0x7fffffffffffffff : UInt64).toNat = 2 ^ 63 - 1 := by decide
  have e2 : (0x7ff0000000000000 : UInt64).toNat = 9218868437227405312 := by decide
  have e3 : (UInt64.ofNat n).toNat = n := UInt64.toNat_ofNat_of_lt' (by simpa using hn)
  rw [decide_eq_true_iff, UInt64.le_iff_toNat_le, UInt64.toNat_and, e1, e2, e3, Nat.and_two_pow_sub_one_eq_mod]
  exact h
theorem nn64_m {r : UInt64} (h : nn64 r = true) : r.toNat % 9223372036854775808 ≤ 9218868437227405312 := by
  unfold nn64 at h
  have e1 : (0x7fffffffffffffff : UInt64).toNat = 2 ^ 63 - 1 := by decide
  have e2 : (0x7ff0000000000000 : UInt64).toNat = 9218868437227405312 := by decide
  rw [decide_eq_true_iff, UInt64.le_iff_toNat_le, UInt64.toNat_and, e1, e2, Nat.and_two_pow_sub_one_eq_mod] at h
  exact h
theorem enc64 {d : FP.Core.Datum} (h : wf64 d) : FP.Core.encode FP.Core.b64 d % 9223372036854775808 ≤ 9218868437227405312 ∧ FP.Core.encode FP.Core.b64 d < 18446744073709551616 := by
  cases d with
  | nan => exact h.elim
  | inf s =>
    unfold FP.Core.encode FP.Core.assemble
    dsimp only
    rw [k64_t, k64_x]
    have := Bool.toNat_le s
    omega
  | fin s c q =>
    obtain ⟨h1, h2⟩ := h
    unfold FP.Core.encode FP.Core.assemble
    dsimp only
    rw [k64_t, k64_x, k64_i]
    have := Bool.toNat_le s
    split <;> omega
theorem nn64_enc {d : FP.Core.Datum} (h : wf64 d) : nn64 (UInt64.ofNat (FP.Core.encode FP.Core.b64 d)) = true := nn64_n (enc64 h).1 (enc64 h).2
theorem dec64 {n : Nat} (h : n % 9223372036854775808 ≤ 9218868437227405312) : FP.Core.decode FP.Core.b64 n ≠ .nan := by
  unfold FP.Core.decode FP.Core.fieldE FP.Core.fieldT
  rw [k64_t, k64_x]
  split
  · split
    · intro e; cases e
    · omega
  · split
    · intro e; cases e
    · intro e; cases e
theorem dec64_fin {n : Nat} (h : n / 4503599627370496 % 2048 ≠ 2047) : ∃ s c q, FP.Core.decode FP.Core.b64 n = .fin s c q ∧ (n / 4503599627370496 % 2048 ≠ 0 → c ≠ 0) := by
  unfold FP.Core.decode FP.Core.fieldE FP.Core.fieldT
  rw [k64_t, k64_x, if_neg h]
  split
  · next e => exact ⟨_, _, _, rfl, fun h2 => absurd e h2⟩
  · exact ⟨_, _, _, rfl, fun _ => by omega⟩
theorem rr64 {y : Nat} (h0 : 0 < y) (hy : y < 2 ^ 31) : FP.Core.roundRatio FP.Core.b64 false y 1 0 = .fin false (y * 2 ^ (52 - y.log2)) ((y.log2 : Int) - 52) := by
  have hl : y.log2 < 31 := (Nat.log2_lt (by omega)).mpr hy
  have h1 := Nat.log2_self_le (show y ≠ 0 by omega)
  have h2 := Nat.lt_log2_self (n := y)
  have hlead : FP.Core.leading y 1 = (y.log2 : Int) := by
    unfold FP.Core.leading
    have e1 : Nat.log2 1 = 0 := by decide
    rw [e1]
    have e2 : ((y.log2 : Int) - ((0 : Nat) : Int)).toNat = y.log2 := by omega
    have e3 : (-((y.log2 : Int) - ((0 : Nat) : Int))).toNat = 0 := by omega
    dsimp only
    rw [e2, e3, if_pos (by omega)]
    omega
  have hq : FP.Core.quantum FP.Core.b64 y 1 0 = (y.log2 : Int) - 52 := by
    unfold FP.Core.quantum
    have e1 : ((FP.Core.b64.p : Int) - 1) = 52 := by decide
    rw [hlead, k64_i, e1]
    omega
  have hc : y * 2 ^ (52 - y.log2) < 9007199254740992 := by
    have e1 : 2 ^ (y.log2 + 1) * 2 ^ (52 - y.log2) = 9007199254740992 := by
      rw [← Nat.pow_add, show y.log2 + 1 + (52 - y.log2) = 52 + 1 by omega]
    rw [← e1]
    exact Nat.mul_lt_mul_of_pos_right h2 (Nat.two_pow_pos _)
  unfold FP.Core.roundRatio FP.Core.roundAt FP.Core.unitsNum FP.Core.unitsDen
  rw [if_neg (by omega), hq]
  have e2 : (0 - ((y.log2 : Int) - 52)).toNat = 52 - y.log2 := by omega
  have e3 : ((y.log2 : Int) - 52 - 0).toNat = 0 := by omega
  rw [e2, e3]
  unfold FP.Core.nearest
  rw [Nat.pow_zero, Nat.mul_one, Nat.mod_one, if_pos (by decide), Nat.div_one]
  unfold FP.Core.settle FP.Core.bound
  rw [k64_p, k64_a, if_pos hc, if_pos (by omega)]
theorem of64 {y : Nat} (hy : y < 2 ^ 31) : ∃ s c q, FP.Core.decode FP.Core.b64 (FP.i2d (iN y)).toNat = .fin s c q ∧ (y ≠ 0 → c ≠ 0) := by
  have hi : (iN y).toInt = (y : Int) := iN_toInt (by omega)
  have e0 : FP.i2d (iN y) = UInt64.ofNat (FP.Core.encode FP.Core.b64 (FP.Core.roundRatio FP.Core.b64 false y 1 0)) := by
    show UInt64.ofNat (FP.Core.encode FP.Core.b64 (FP.Core.round FP.Core.b64 (FP.Core.ofInt (iN y).toInt))) = _
    rw [hi]
    unfold FP.Core.ofInt FP.Core.round
    have e1 : decide ((y : Int) < 0) = false := decide_eq_false (by omega)
    have e2 : (y : Int).natAbs = y := by omega
    rw [e1, e2]
  have hw := enc64 (wf64_rr false y 1 0)
  have e3 : (UInt64.ofNat (FP.Core.encode FP.Core.b64 (FP.Core.roundRatio FP.Core.b64 false y 1 0))).toNat = FP.Core.encode FP.Core.b64 (FP.Core.roundRatio FP.Core.b64 false y 1 0) := UInt64.toNat_ofNat_of_lt' (by simpa using hw.2)
  rw [e0, e3]
  rcases Nat.eq_zero_or_pos y with rfl | h0
  · have ez : FP.Core.encode FP.Core.b64 (FP.Core.roundRatio FP.Core.b64 false 0 1 0) = 0 := by decide
    rw [ez]
    obtain ⟨s, c, q, h1, -⟩ := dec64_fin (n := 0) (by decide)
    exact ⟨s, c, q, h1, fun h => absurd rfl h⟩
  · have hl : y.log2 < 31 := (Nat.log2_lt (by omega)).mpr hy
    have h1 := Nat.log2_self_le (show y ≠ 0 by omega)
    have hge : 4503599627370496 ≤ y * 2 ^ (52 - y.log2) := by
      have e1 : 2 ^ y.log2 * 2 ^ (52 - y.log2) = 4503599627370496 := by
        rw [← Nat.pow_add, show y.log2 + (52 - y.log2) = 52 by omega]
      rw [← e1]
      exact Nat.mul_le_mul_right _ h1
    have hc : y * 2 ^ (52 - y.log2) < 9007199254740992 := by
      have e1 : 2 ^ (y.log2 + 1) * 2 ^ (52 - y.log2) = 9007199254740992 := by
        rw [← Nat.pow_add, show y.log2 + 1 + (52 - y.log2) = 52 + 1 by omega]
      rw [← e1]
      exact Nat.mul_lt_mul_of_pos_right Nat.lt_log2_self (Nat.two_pow_pos _)
    rw [rr64 h0 hy]
    have e4 : FP.Core.encode FP.Core.b64 (.fin false (y * 2 ^ (52 - y.log2)) ((y.log2 : Int) - 52)) = (y.log2 + 1023) * 4503599627370496 + (y * 2 ^ (52 - y.log2) - 4503599627370496) := by
      unfold FP.Core.encode FP.Core.assemble
      dsimp only
      rw [k64_t, k64_x, k64_i, if_neg (by omega)]
      have e5 : ((y.log2 : Int) - 52 - -1074).toNat + 1 = y.log2 + 1023 := by omega
      rw [e5]
      simp
    rw [e4]
    generalize y * 2 ^ (52 - y.log2) = c at *
    obtain ⟨s, c', q, h2, h3⟩ := dec64_fin (n := (y.log2 + 1023) * 4503599627370496 + (c - 4503599627370496)) (by omega)
    exact ⟨s, c', q, h2, fun _ => h3 (by omega)⟩
/-- a whole number by a whole number that isn't 0 -/
theorem quo64 {x y : Nat} (hx : x < 2 ^ 31) (hy : y < 2 ^ 31) (h0 : y ≠ 0) : nn64 (FP.ddiv (FP.i2d (iN x)) (FP.i2d (iN y))) = true := by
  obtain ⟨s, c, q, h1, -⟩ := of64 hx
  obtain ⟨s', c', q', h2, h3⟩ := of64 hy
  show nn64 (UInt64.ofNat (FP.Core.encode FP.Core.b64 (FP.Core.quotient FP.Core.b64 (FP.Core.decode FP.Core.b64 (FP.i2d (iN x)).toNat) (FP.Core.decode FP.Core.b64 (FP.i2d (iN y)).toNat)))) = true
  rw [h1, h2]
  unfold FP.Core.quotient
  dsimp only
  rw [if_neg (h3 h0)]
  exact nn64_enc (wf64_rr _ _ _ _)
theorem ord_self {d : FP.Core.Datum} (h : d ≠ .nan) : FP.Core.order d d = some .eq := by
  cases d with
  | nan => exact absurd rfl h
  | inf s => unfold FP.Core.order; simp
  | fin s c q => unfold FP.Core.order; simp
/-! ===== quotients of whole numbers are numbers: 32 bits ===== -/
theorem k32_t : FP.Core.b32.tails = 8388608 := by decide
theorem k32_x : FP.Core.b32.exps = 256 := by decide
theorem k32_i : FP.Core.b32.qmin = -149 := by decide
theorem k32_a : FP.Core.b32.qmax = 104 := by decide
theorem k32_p : 2 ^ FP.Core.b32.p = 16777216 := by decide
/-- a datum that is a number or an infinity -/
def wf32 : FP.Core.Datum → Prop
  | .nan => False
  | .inf _ => True
  | .fin _ c q => c < 16777216 ∧ q ≤ 104
theorem wf32_settle (s : Bool) (c : Nat) (q : Int) : wf32 (FP.Core.settle FP.Core.b32 s c q) := by
  unfold FP.Core.settle FP.Core.bound
  rw [k32_p, k32_t, k32_a]
  by_cases h : c < 16777216
  · rw [if_pos h]
    by_cases h2 : q ≤ 104
    · rw [if_pos h2]; exact ⟨h, h2⟩
    · rw [if_neg h2]; exact True.intro
  · rw [if_neg h]
    by_cases h2 : q + 1 ≤ 104
    · rw [if_pos h2]; exact ⟨by decide, h2⟩
    · rw [if_neg h2]; exact True.intro
theorem wf32_rr (s : Bool) (a c : Nat) (e : Int) : wf32 (FP.Core.roundRatio FP.Core.b32 s a c e) := by
  unfold FP.Core.roundRatio
  split
  · rw [k32_i]; exact ⟨by decide, by decide⟩
  · exact wf32_settle _ _ _
theorem nn32_n {n : Nat} (h : n % 2147483648 ≤ 2139095040) (hn : n < 4294967296) : nn32 (UInt32.ofNat n) = true := by
  unfold nn32
  have e1 : (0x7fffffff : UInt32).toNat = 2 ^ 31 - 1 := by decide
  have e2 : (0x7f800000 : UInt32).toNat = 2139095040 := by decide
  have e3 : (UInt32.ofNat n).toNat = n := UInt32.toNat_ofNat_of_lt' (by simpa using hn)
  rw [decide_eq_true_iff, UInt32.le_iff_toNat_le, UInt32.toNat_and, e1, e2, e3, Nat.and_two_pow_sub_one_eq_mod]
  exact h
theorem nn32_m {r : UInt32} (h : nn32 r = true) : r.toNat % 2147483648 ≤ 2139095040 := by
  unfold nn32 at h
  have e1 : (0x7fffffff : UInt32).toNat = 2 ^ 31 - 1 := by decide
  have e2 : (0x7f800000 : UInt32).toNat = 2139095040 := by decide
  rw [decide_eq_true_iff, UInt32.le_iff_toNat_le, UInt32.toNat_and, e1, e2, Nat.and_two_pow_sub_one_eq_mod] at h
  exact h
theorem enc32 {d : FP.Core.Datum} (h : wf32 d) : FP.Core.encode FP.Core.b32 d % 2147483648 ≤ 2139095040 ∧ FP.Core.encode FP.Core.b32 d < 4294967296 := by
  cases d with
  | nan => exact h.elim
  | inf s =>
    unfold FP.Core.encode FP.Core.assemble
    dsimp only
    rw [k32_t, k32_x]
    have := Bool.toNat_le s
    omega
  | fin s c q =>
    obtain ⟨h1, h2⟩ := h
    unfold FP.Core.encode FP.Core.assemble
    dsimp only
    rw [k32_t, k32_x, k32_i]
    have := Bool.toNat_le s
    split <;> omega
theorem nn32_enc {d : FP.Core.Datum} (h : wf32 d) : nn32 (UInt32.ofNat (FP.Core.encode FP.Core.b32 d)) = true := nn32_n (enc32 h).1 (enc32 h).2
theorem dec32 {n : Nat} (h : n % 2147483648 ≤ 2139095040) : FP.Core.decode FP.Core.b32 n ≠ .nan := by
  unfold FP.Core.decode FP.Core.fieldE FP.Core.fieldT
  rw [k32_t, k32_x]
  split
  · split
    · intro e; cases e
    · omega
  · split
    · intro e; cases e
    · intro e; cases e
theorem dec32_fin {n : Nat} (h : n / 8388608 % 256 ≠ 255) : ∃ s c q, FP.Core.decode FP.Core.b32 n = .fin s c q ∧ (n / 8388608 % 256 ≠ 0 → c ≠ 0) := by
  unfold FP.Core.decode FP.Core.fieldE FP.Core.fieldT
  rw [k32_t, k32_x, if_neg h]
  split
  · next e => exact ⟨_, _, _, rfl, fun h2 => absurd e h2⟩
  · exact ⟨_, _, _, rfl, fun _ => by omega⟩
theorem rr32 {y : Nat} (h0 : 0 < y) (hy : y < 2 ^ 24) : FP.Core.roundRatio FP.Core.b32 false y 1 0 = .fin false (y * 2 ^ (23 - y.log2)) ((y.log2 : Int) - 23) := by
  have hl : y.log2 < 24 := (Nat.log2_lt (by omega)).mpr hy
  have h1 := Nat.log2_self_le (show y ≠ 0 by omega)
  have h2 := Nat.lt_log2_self (n := y)
  have hlead : FP.Core.leading y 1 = (y.log2 : Int) := by
    unfold FP.Core.leading
    have e1 : Nat.log2 1 = 0 := by decide
    rw [e1]
    have e2 : ((y.log2 : Int) - ((0 : Nat) : Int)).toNat = y.log2 := by omega
    have e3 : (-((y.log2 : Int) - ((0 : Nat) : Int))).toNat = 0 := by omega
    dsimp only
    rw [e2, e3, if_pos (by omega)]
    omega
  have hq : FP.Core.quantum FP.Core.b32 y 1 0 = (y.log2 : Int) - 23 := by
    unfold FP.Core.quantum
    have e1 : ((FP.Core.b32.p : Int) - 1) = 23 := by decide
    rw [hlead, k32_i, e1]
    omega
  have hc : y * 2 ^ (23 - y.log2) < 16777216 := by
    have e1 : 2 ^ (y.log2 + 1) * 2 ^ (23 - y.log2) = 16777216 := by
      rw [← Nat.pow_add, show y.log2 + 1 + (23 - y.log2) = 23 + 1 by omega]
    rw [← e1]
    exact Nat.mul_lt_mul_of_pos_right h2 (Nat.two_pow_pos _)
  unfold FP.Core.roundRatio FP.Core.roundAt FP.Core.unitsNum FP.Core.unitsDen
  rw [if_neg (by omega), hq]
  have e2 : (0 - ((y.log2 : Int) - 23)).toNat = 23 - y.log2 := by omega
  have e3 : ((y.log2 : Int) - 23 - 0).toNat = 0 := by omega
  rw [e2, e3]
  unfold FP.Core.nearest
  rw [Nat.pow_zero, Nat.mul_one, Nat.mod_one, if_pos (by decide), Nat.div_one]
  unfold FP.Core.settle FP.Core.bound
  rw [k32_p, k32_a, if_pos hc, if_pos (by omega)]
theorem of32 {y : Nat} (hy : y < 2 ^ 24) : ∃ s c q, FP.Core.decode FP.Core.b32 (FP.i2f (iN y)).toNat = .fin s c q ∧ (y ≠ 0 → c ≠ 0) := by
  have hi : (iN y).toInt = (y : Int) := iN_toInt (by omega)
  have e0 : FP.i2f (iN y) = UInt32.ofNat (FP.Core.encode FP.Core.b32 (FP.Core.roundRatio FP.Core.b32 false y 1 0)) := by
    show UInt32.ofNat (FP.Core.encode FP.Core.b32 (FP.Core.round FP.Core.b32 (FP.Core.ofInt (iN y).toInt))) = _
    rw [hi]
    unfold FP.Core.ofInt FP.Core.round
    have e1 : decide ((y : Int) < 0) = false := decide_eq_false (by omega)
    have e2 : (y : Int).natAbs = y := by omega
    rw [e1, e2]
  have hw := enc32 (wf32_rr false y 1 0)
  have e3 : (UInt32.ofNat (FP.Core.encode FP.Core.b32 (FP.Core.roundRatio FP.Core.b32 false y 1 0))).toNat = FP.Core.encode FP.Core.b32 (FP.Core.roundRatio FP.Core.b32 false y 1 0) := UInt32.toNat_ofNat_of_lt' (by simpa using hw.2)
  rw [e0, e3]
  rcases Nat.eq_zero_or_pos y with rfl | h0
  · have ez : FP.Core.encode FP.Core.b32 (FP.Core.roundRatio FP.Core.b32 false 0 1 0) = 0 := by decide
    rw [ez]
    obtain ⟨s, c, q, h1, -⟩ := dec32_fin (n := 0) (by decide)
    exact ⟨s, c, q, h1, fun h => absurd rfl h⟩
  · have hl : y.log2 < 24 := (Nat.log2_lt (by omega)).mpr hy
    have h1 := Nat.log2_self_le (show y ≠ 0 by omega)
    have hge : 8388608 ≤ y * 2 ^ (23 - y.log2) := by
      have e1 : 2 ^ y.log2 * 2 ^ (23 - y.log2) = 8388608 := by
        rw [← Nat.pow_add, show y.log2 + (23 - y.log2) = 23 by omega]
      rw [← e1]
      exact Nat.mul_le_mul_right _ h1
    have hc : y * 2 ^ (23 - y.log2) < 16777216 := by
      have e1 : 2 ^ (y.log2 + 1) * 2 ^ (23 - y.log2) = 16777216 := by
        rw [← Nat.pow_add, show y.log2 + 1 + (23 - y.log2) = 23 + 1 by omega]
      rw [← e1]
      exact Nat.mul_lt_mul_of_pos_right Nat.lt_log2_self (Nat.two_pow_pos _)
    rw [rr32 h0 hy]
    have e4 : FP.Core.encode FP.Core.b32 (.fin false (y * 2 ^ (23 - y.log2)) ((y.log2 : Int) - 23)) = (y.log2 + 127) * 8388608 + (y * 2 ^ (23 - y.log2) - 8388608) := by
      unfold FP.Core.encode FP.Core.assemble
      dsimp only
      rw [k32_t, k32_x, k32_i, if_neg (by omega)]
      have e5 : ((y.log2 : Int) - 23 - -149).toNat + 1 = y.log2 + 127 := by omega
      rw [e5]
      simp
    rw [e4]
    generalize y * 2 ^ (23 - y.log2) = c at *
    obtain ⟨s, c', q, h2, h3⟩ := dec32_fin (n := (y.log2 + 127) * 8388608 + (c - 8388608)) (by omega)
    exact ⟨s, c', q, h2, fun _ => h3 (by omega)⟩
/-- a whole number by a whole number that isn't 0 -/
theorem quo32 {x y : Nat} (hx : x < 2 ^ 24) (hy : y < 2 ^ 24) (h0 : y ≠ 0) : nn32 (FP.fdiv (FP.i2f (iN x)) (FP.i2f (iN y))) = true := by
  obtain ⟨s, c, q, h1, -⟩ := of32 hx
  obtain ⟨s', c', q', h2, h3⟩ := of32 hy
  show nn32 (UInt32.ofNat (FP.Core.encode FP.Core.b32 (FP.Core.quotient FP.Core.b32 (FP.Core.decode FP.Core.b32 (FP.i2f (iN x)).toNat) (FP.Core.decode FP.Core.b32 (FP.i2f (iN y)).toNat)))) = true
  rw [h1, h2]
  unfold FP.Core.quotient
  dsimp only
  rw [if_neg (h3 h0)]
  exact nn32_enc (wf32_rr _ _ _ _)
/-- a float as a double -/
theorem f2d_nn {r : UInt32} (h : nn32 r = true) : nn64 (FP.f2d r) = true := by
  have hd := dec32 (nn32_m h)
  have e : FP.f2d r = UInt64.ofNat (FP.Core.encode FP.Core.b64 (FP.Core.round FP.Core.b64 (FP.Core.decode FP.Core.b32 r.toNat))) := by
    unfold FP.f2d
    have : FP.Core.fIsNaN r = false := by
      show decide (FP.Core.decode FP.Core.b32 r.toNat = .nan) = false
      exact decide_eq_false hd
    rw [this]; rfl
  rw [e]
  refine nn64_enc ?_
  cases hx : FP.Core.decode FP.Core.b32 r.toNat with
  | nan => exact absurd hx hd
  | inf s => exact True.intro
  | fin s c q => exact wf64_rr _ _ _ _
theorem dcmp_self {r : UInt64} (h : nn64 r = true) : Op.cmpValue (FP.dcmp r r) CmpOp.l = 0 := by
  have : FP.dcmp r r = some .eq := ord_self (dec64 (nn64_m h))
  rw [this]; rfl
