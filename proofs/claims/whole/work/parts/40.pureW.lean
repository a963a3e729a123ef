/-! ===== near, and sets by their places ===== -/
section PP
variable {M : Mem} {o q n : Nat} {b : Nat → Nat}
theorem t_near1 (h : MR M o n b) {t : Nat} (ht : t < 512) : f_X7_near_L120 M (iN o) (iN t) 1 FU (-1, 0) = some (oI (bs (fun s => ah s t && cl b n s) ah (2 ^ n)), M) := by
  have ho := h.o
  have h9 := h.le
  have h8 := p2_le h9
  refine lp_for (fun j => (oI (bs (fun s => ah s t && cl b n s) ah j), iN j)) (2 ^ n) (FU_lt2 h8) ?_ ?_
  · intro j hj k
    cases hc : cl b n j
    · simp (disch := omega) only [g_X7_near_L120, h.n, if_neg (show ¬ 2 ^ n ≤ j by omega), t_isClosed h hj, hc, f_X7_near_L173, f_X7_near_L174, bs, iN_le, iN_lt, chk_inb, chk_t, clamp_iN, bd_some, iN_add, iN_s, iN_and, iN_or, iN_shl, e10, e01, e00, bI_0, bI_1, bI_t, bI_f, has_iN, bitc, within_iN, mk_or1, xhas_iN, add_z, if_true, if_false, ite_true, ite_false, reduceCtorEq, Bool.false_eq_true, Bool.true_and, Bool.false_and, Bool.and_true, Bool.and_false, Bool.not_true, Bool.not_false]
    · cases hx : ah j t
      · simp (disch := omega) only [g_X7_near_L120, h.n, if_neg (show ¬ 2 ^ n ≤ j by omega), t_isClosed h hj, hc, t_isAhead, hx, f_X7_near_L173, f_X7_near_L174, bs, iN_le, iN_lt, chk_inb, chk_t, clamp_iN, bd_some, iN_add, iN_s, iN_and, iN_or, iN_shl, e10, e01, e00, bI_0, bI_1, bI_t, bI_f, has_iN, bitc, within_iN, mk_or1, xhas_iN, add_z, if_true, if_false, ite_true, ite_false, reduceCtorEq, Bool.false_eq_true, Bool.true_and, Bool.false_and, Bool.and_true, Bool.and_false, Bool.not_true, Bool.not_false]
      · cases hb : bs (fun s => ah s t && cl b n s) ah j with
        | none => simp (disch := omega) only [g_X7_near_L120, h.n, if_neg (show ¬ 2 ^ n ≤ j by omega), t_isClosed h hj, hc, t_isAhead, hx, f_X7_near_L169, f_X7_near_L174, bs, hb, oI, iN_le, iN_lt, chk_inb, chk_t, clamp_iN, bd_some, iN_add, iN_s, iN_and, iN_or, iN_shl, e10, e01, e00, bI_0, bI_1, bI_t, bI_f, has_iN, bitc, within_iN, mk_or1, xhas_iN, add_z, if_true, if_false, ite_true, ite_false, reduceCtorEq, Bool.false_eq_true, Bool.true_and, Bool.false_and, Bool.and_true, Bool.and_false, Bool.not_true, Bool.not_false]
        | some c =>
          have h1 := bs_lt hb
          cases hd : ah c j
          · simp (disch := omega) only [g_X7_near_L120, h.n, if_neg (show ¬ 2 ^ n ≤ j by omega), t_isClosed h hj, hc, t_isAhead, hx, f_X7_near_L169, f_X7_near_L174, bs, hb, oI, oI_n, hd, iN_le, iN_lt, chk_inb, chk_t, clamp_iN, bd_some, iN_add, iN_s, iN_and, iN_or, iN_shl, e10, e01, e00, bI_0, bI_1, bI_t, bI_f, has_iN, bitc, within_iN, mk_or1, xhas_iN, add_z, if_true, if_false, ite_true, ite_false, reduceCtorEq, Bool.false_eq_true, Bool.true_and, Bool.false_and, Bool.and_true, Bool.and_false, Bool.not_true, Bool.not_false]
          · simp (disch := omega) only [g_X7_near_L120, h.n, if_neg (show ¬ 2 ^ n ≤ j by omega), t_isClosed h hj, hc, t_isAhead, hx, f_X7_near_L169, f_X7_near_L174, bs, hb, oI, oI_n, hd, iN_le, iN_lt, chk_inb, chk_t, clamp_iN, bd_some, iN_add, iN_s, iN_and, iN_or, iN_shl, e10, e01, e00, bI_0, bI_1, bI_t, bI_f, has_iN, bitc, within_iN, mk_or1, xhas_iN, add_z, if_true, if_false, ite_true, ite_false, reduceCtorEq, Bool.false_eq_true, Bool.true_and, Bool.false_and, Bool.and_true, Bool.and_false, Bool.not_true, Bool.not_false]
  · intro k
    simp (disch := omega) only [g_X7_near_L120, h.n, if_pos (Nat.le_refl (2 ^ n)), iN_le, iN_lt, chk_inb, chk_t, clamp_iN, bd_some, iN_add, iN_s, iN_and, iN_or, iN_shl, e10, e01, e00, bI_0, bI_1, bI_t, bI_f, has_iN, bitc, within_iN, mk_or1, xhas_iN, add_z, if_true, if_false, ite_true, ite_false, reduceCtorEq, Bool.false_eq_true, Bool.true_and, Bool.false_and, Bool.and_true, Bool.and_false, Bool.not_true, Bool.not_false]
theorem t_near0 (h : MR M o n b) {t : Nat} (ht : t < 512) : f_X7_near_L120 M (iN o) (iN t) 0 FU (-1, 0) = some (oI (bs (fun s => ah t s && cl b n s) (fun c j => ah j c) (2 ^ n)), M) := by
  have ho := h.o
  have h9 := h.le
  have h8 := p2_le h9
  refine lp_for (fun j => (oI (bs (fun s => ah t s && cl b n s) (fun c j => ah j c) j), iN j)) (2 ^ n) (FU_lt2 h8) ?_ ?_
  · intro j hj k
    cases hc : cl b n j
    · simp (disch := omega) only [g_X7_near_L120, h.n, if_neg (show ¬ 2 ^ n ≤ j by omega), t_isClosed h hj, hc, f_X7_near_L173, f_X7_near_L174, bs, iN_le, iN_lt, chk_inb, chk_t, clamp_iN, bd_some, iN_add, iN_s, iN_and, iN_or, iN_shl, e10, e01, e00, bI_0, bI_1, bI_t, bI_f, has_iN, bitc, within_iN, mk_or1, xhas_iN, add_z, if_true, if_false, ite_true, ite_false, reduceCtorEq, Bool.false_eq_true, Bool.true_and, Bool.false_and, Bool.and_true, Bool.and_false, Bool.not_true, Bool.not_false]
    · cases hx : ah t j
      · simp (disch := omega) only [g_X7_near_L120, h.n, if_neg (show ¬ 2 ^ n ≤ j by omega), t_isClosed h hj, hc, t_isAhead, hx, f_X7_near_L173, f_X7_near_L174, bs, iN_le, iN_lt, chk_inb, chk_t, clamp_iN, bd_some, iN_add, iN_s, iN_and, iN_or, iN_shl, e10, e01, e00, bI_0, bI_1, bI_t, bI_f, has_iN, bitc, within_iN, mk_or1, xhas_iN, add_z, if_true, if_false, ite_true, ite_false, reduceCtorEq, Bool.false_eq_true, Bool.true_and, Bool.false_and, Bool.and_true, Bool.and_false, Bool.not_true, Bool.not_false]
      · cases hb : bs (fun s => ah t s && cl b n s) (fun c j => ah j c) j with
        | none => simp (disch := omega) only [g_X7_near_L120, h.n, if_neg (show ¬ 2 ^ n ≤ j by omega), t_isClosed h hj, hc, t_isAhead, hx, f_X7_near_L169, f_X7_near_L174, bs, hb, oI, iN_le, iN_lt, chk_inb, chk_t, clamp_iN, bd_some, iN_add, iN_s, iN_and, iN_or, iN_shl, e10, e01, e00, bI_0, bI_1, bI_t, bI_f, has_iN, bitc, within_iN, mk_or1, xhas_iN, add_z, if_true, if_false, ite_true, ite_false, reduceCtorEq, Bool.false_eq_true, Bool.true_and, Bool.false_and, Bool.and_true, Bool.and_false, Bool.not_true, Bool.not_false]
        | some c =>
          have h1 := bs_lt hb
          cases hd : ah j c
          · simp (disch := omega) only [g_X7_near_L120, h.n, if_neg (show ¬ 2 ^ n ≤ j by omega), t_isClosed h hj, hc, t_isAhead, hx, f_X7_near_L169, f_X7_near_L174, bs, hb, oI, oI_n, hd, iN_le, iN_lt, chk_inb, chk_t, clamp_iN, bd_some, iN_add, iN_s, iN_and, iN_or, iN_shl, e10, e01, e00, bI_0, bI_1, bI_t, bI_f, has_iN, bitc, within_iN, mk_or1, xhas_iN, add_z, if_true, if_false, ite_true, ite_false, reduceCtorEq, Bool.false_eq_true, Bool.true_and, Bool.false_and, Bool.and_true, Bool.and_false, Bool.not_true, Bool.not_false]
          · simp (disch := omega) only [g_X7_near_L120, h.n, if_neg (show ¬ 2 ^ n ≤ j by omega), t_isClosed h hj, hc, t_isAhead, hx, f_X7_near_L169, f_X7_near_L174, bs, hb, oI, oI_n, hd, iN_le, iN_lt, chk_inb, chk_t, clamp_iN, bd_some, iN_add, iN_s, iN_and, iN_or, iN_shl, e10, e01, e00, bI_0, bI_1, bI_t, bI_f, has_iN, bitc, within_iN, mk_or1, xhas_iN, add_z, if_true, if_false, ite_true, ite_false, reduceCtorEq, Bool.false_eq_true, Bool.true_and, Bool.false_and, Bool.and_true, Bool.and_false, Bool.not_true, Bool.not_false]
  · intro k
    simp (disch := omega) only [g_X7_near_L120, h.n, if_pos (Nat.le_refl (2 ^ n)), iN_le, iN_lt, chk_inb, chk_t, clamp_iN, bd_some, iN_add, iN_s, iN_and, iN_or, iN_shl, e10, e01, e00, bI_0, bI_1, bI_t, bI_f, has_iN, bitc, within_iN, mk_or1, xhas_iN, add_z, if_true, if_false, ite_true, ite_false, reduceCtorEq, Bool.false_eq_true, Bool.true_and, Bool.false_and, Bool.and_true, Bool.and_false, Bool.not_true, Bool.not_false]
/-- sets of the size z up to m: what is found at the place p, and how many were passed -/
def in1 (b : Nat → Nat) (n z p c : Nat) : Nat → Option Nat × Nat
  | 0 => (none, c)
  | m + 1 => match in1 b n z p c m with
    | (some s, c') => (some s, c')
    | (none, c') => if decide (pc m = z) && cl b n m then (if c' = p then (some m, c') else (none, c' + 1)) else (none, c')
def ou1 (b : Nat → Nat) (n p : Nat) : Nat → Option Nat × Nat
  | 0 => (none, 0)
  | z + 1 => match ou1 b n p z with
    | (some s, c) => (some s, c)
    | (none, c) => in1 b n z p c (2 ^ n)
def fz (b : Nat → Nat) (n p : Nat) : Option Nat := (ou1 b n p (n + 1)).1
theorem in1_some {z p c m m' s : Nat} (h : (in1 b n z p c m).1 = some s) (hm : m ≤ m') : (in1 b n z p c m').1 = some s := by
  obtain ⟨d, rfl⟩ := Nat.exists_eq_add_of_le hm
  induction d with
  | zero => exact h
  | succ d ih =>
    have := ih (by omega)
    rw [← Nat.add_assoc, in1]
    rcases hq : in1 b n z p c (m + d) with ⟨a, c'⟩
    rw [hq] at this
    dsimp only at this
    subst this
    rfl
theorem ou1_some {p z z' s : Nat} (h : (ou1 b n p z).1 = some s) (hm : z ≤ z') : (ou1 b n p z').1 = some s := by
  obtain ⟨d, rfl⟩ := Nat.exists_eq_add_of_le hm
  induction d with
  | zero => exact h
  | succ d ih =>
    have := ih (by omega)
    rw [← Nat.add_assoc, ou1]
    rcases hq : ou1 b n p (z + d) with ⟨a, c'⟩
    rw [hq] at this
    dsimp only at this
    subst this
    rfl
theorem in1_spec {z p c : Nat} (hc : c ≤ p) (m : Nat) : ((in1 b n z p c m).1 = none → (in1 b n z p c m).2 = c + ct m (fun s => decide (pc s = z) && cl b n s) ∧ (in1 b n z p c m).2 ≤ p) ∧ (∀ s, (in1 b n z p c m).1 = some s → p < c + ct m (fun s => decide (pc s = z) && cl b n s) ∧ s < m) := by
  induction m with
  | zero => exact ⟨fun _ => ⟨rfl, hc⟩, fun s e => by cases e⟩
  | succ m ih =>
    rw [ct_s, in1]
    rcases hq : in1 b n z p c m with ⟨a, c'⟩
    rw [hq] at ih
    dsimp only at ih
    cases a with
    | some s =>
      refine ⟨fun e => (by cases e), fun s' e => ?_⟩
      cases e
      have := ih.2 s rfl
      omega
    | none =>
      have h1 := ih.1 rfl
      dsimp only
      cases hx : (decide (pc m = z) && cl b n m)
      · simp only [Bool.false_eq_true, if_false, Bool.toNat_false]
        exact ⟨fun _ => ⟨by omega, h1.2⟩, fun s e => by cases e⟩
      · simp only [if_true, Bool.toNat_true]
        by_cases e : c' = p
        · rw [if_pos e]
          refine ⟨fun e => (by cases e), fun s e2 => ?_⟩
          cases e2
          omega
        · rw [if_neg e]
          exact ⟨fun _ => ⟨by dsimp only; omega, by dsimp only; omega⟩, fun s e => by cases e⟩
theorem ct_lt_s {z : Nat} {N : Nat} : ct N (fun s => decide (pc s < z + 1) && cl b n s) = ct N (fun s => decide (pc s < z) && cl b n s) + ct N (fun s => decide (pc s = z) && cl b n s) := by
  unfold ct
  rw [← S_add]
  refine S_congr (fun s _ => ?_)
  dsimp only
  cases cl b n s
  · simp
  · rcases Nat.lt_trichotomy (pc s) z with h | h | h
    · simp [h, show pc s < z + 1 by omega, show ¬ pc s = z by omega]
    · simp [h]
    · simp [show ¬ pc s < z + 1 by omega, show ¬ pc s < z by omega, show ¬ pc s = z by omega]
theorem ou1_spec {p : Nat} (z : Nat) : ((ou1 b n p z).1 = none → (ou1 b n p z).2 = ct (2 ^ n) (fun s => decide (pc s < z) && cl b n s) ∧ (ou1 b n p z).2 ≤ p) ∧ (∀ s, (ou1 b n p z).1 = some s → p < ct (2 ^ n) (fun s => decide (pc s < z) && cl b n s) ∧ s < 2 ^ n) := by
  induction z with
  | zero =>
    refine ⟨fun _ => ⟨?_, Nat.zero_le _⟩, fun s e => by cases e⟩
    have : ct (2 ^ n) (fun s => decide (pc s < 0) && cl b n s) = 0 := S_0.mpr (fun k _ => by simp)
    rw [this]; rfl
  | succ z ih =>
    rw [ct_lt_s, ou1]
    rcases hq : ou1 b n p z with ⟨a, c⟩
    rw [hq] at ih
    dsimp only at ih
    cases a with
    | some s =>
      refine ⟨fun e => (by cases e), fun s' e => ?_⟩
      cases e
      have := ih.2 s rfl
      omega
    | none =>
      have h1 := ih.1 rfl
      have h2 := in1_spec (b := b) (n := n) (z := z) h1.2 (2 ^ n)
      dsimp only
      refine ⟨fun e => ?_, fun s e => ?_⟩
      · have := h2.1 e
        omega
      · have := h2.2 s e
        omega
theorem fz_iff (hn : n ≤ 9) {p : Nat} : fz b n p = none ↔ ct (2 ^ n) (cl b n) ≤ p := by
  have h := ou1_spec (b := b) (n := n) (p := p) (n + 1)
  have e : ct (2 ^ n) (fun s => decide (pc s < n + 1) && cl b n s) = ct (2 ^ n) (cl b n) := ct_congr (fun s hs => by
    have := pc_le_n hs hn
    simp [show pc s < n + 1 by omega])
  rw [e] at h
  unfold fz
  constructor
  · intro h1
    have := h.1 h1
    omega
  · intro h1
    cases h2 : (ou1 b n p (n + 1)).1 with
    | none => rfl
    | some s =>
      have := h.2 s h2
      omega
theorem fz_lt {p s : Nat} (h : fz b n p = some s) : s < 2 ^ n := ((ou1_spec (b := b) (n := n) (p := p) (n + 1)).2 s h).2
theorem in1_le {z p c : Nat} (hc : c ≤ p) {m : Nat} (hn : (in1 b n z p c m).1 = none) (hm : m ≤ 512) (hc5 : c ≤ 512 * 9) : (in1 b n z p c m).2 ≤ 512 * 10 := by
  have h1 := ((in1_spec (b := b) (n := n) (z := z) hc m).1 hn).1
  have := ct_le (n := m) (p := fun s => decide (pc s = z) && cl b n s)
  omega
theorem ou1_le (hn : n ≤ 9) {p z : Nat} (h : (ou1 b n p z).1 = none) : (ou1 b n p z).2 ≤ 512 := by
  have h1 := ((ou1_spec (b := b) (n := n) (p := p) z).1 h).1
  have := ct_le (n := 2 ^ n) (p := fun s => decide (pc s < z) && cl b n s)
  have := p2_le hn
  omega
/-- the class's search -/
theorem s_findAt (h : OR M q n b) {p : Nat} (hp : p < 2 ^ 31) : f_X1_findAt M q (iN p) = some (oI (fz b n p)) := by
  have h9 := h.le
  have h8 := p2_le h9
  have key : ∃ r, f_X1_findAt_L4 M q (iN p) FU (0, 0) = some r ∧ r = oI (fz b n p) := by
    refine lp_to (fun z a => z ≤ n + 1 ∧ (ou1 b n p z).1 = none ∧ a.1 = iN (ou1 b n p z).2 ∧ a.2 = iN z) (n + 1) (FU_lt2 (by omega)) ⟨by omega, rfl, rfl, rfl⟩ ?_
    rintro z ⟨a1, a2⟩ ⟨hz, hn, h1, h2⟩
    dsimp only at h1 h2
    subst h1 h2
    rcases hq : ou1 b n p z with ⟨a, c⟩
    have hcl := ou1_le h9 hn
    have hcp := ((ou1_spec (b := b) (n := n) (p := p) z).1 hn).2
    rw [hq] at hn hcl hcp
    dsimp only at hn hcl hcp
    subst hn
    have hs : ou1 b n p (z + 1) = in1 b n z p c (2 ^ n) := by rw [ou1, hq]
    rcases Nat.lt_or_ge n z with hl | hl
    · right
      have e : z = n + 1 := by omega
      subst e
      refine ⟨-1, ?_, fun k => ?_⟩
      · unfold fz; rw [hq]; rfl
      · simp (disch := omega) only [g_X1_findAt_L4, h.n, if_pos hl, iN_le, iN_lt, chk_inb, chk_t, clamp_iN, bd_some, iN_add, iN_s, iN_and, iN_or, iN_shl, e10, e01, e00, bI_0, bI_1, bI_t, bI_f, has_iN, bitc, within_iN, mk_or1, xhas_iN, add_z, if_true, if_false, ite_true, ite_false, reduceCtorEq, Bool.false_eq_true, Bool.true_and, Bool.false_and, Bool.and_true, Bool.and_false, Bool.not_true, Bool.not_false]
    · -- the inner loop
      have key2 : (∃ s, (in1 b n z p c (2 ^ n)).1 = some s ∧ ∀ K, lp (g_X1_findAt_L15 M q (iN p) (iN z) K) FU (iN c, 0) = some (iN s)) ∨ ((in1 b n z p c (2 ^ n)).1 = none ∧ ∀ K, lp (g_X1_findAt_L15 M q (iN p) (iN z) K) FU (iN c, 0) = K (iN (in1 b n z p c (2 ^ n)).2, iN (z + 1))) := by
        have H : ∀ d m, m + d = 2 ^ n → (in1 b n z p c m).1 = none → ∀ F, d < F → (∃ s, (in1 b n z p c (2 ^ n)).1 = some s ∧ ∀ K, lp (g_X1_findAt_L15 M q (iN p) (iN z) K) F (iN (in1 b n z p c m).2, iN m) = some (iN s)) ∨ ((in1 b n z p c (2 ^ n)).1 = none ∧ ∀ K, lp (g_X1_findAt_L15 M q (iN p) (iN z) K) F (iN (in1 b n z p c m).2, iN m) = K (iN (in1 b n z p c (2 ^ n)).2, iN (z + 1))) := by
          intro d
          induction d with
          | zero =>
            intro m hm hno F hF
            obtain ⟨F, rfl⟩ := Nat.exists_eq_succ_of_ne_zero (by omega : F ≠ 0)
            have e : m = 2 ^ n := by omega
            subst e
            right
            refine ⟨hno, fun K => ?_⟩
            rw [lp_s]
            simp (disch := omega) only [g_X1_findAt_L15, s_setLimit h, if_pos (Nat.le_refl (2 ^ n)), iN_le, iN_lt, chk_inb, chk_t, clamp_iN, bd_some, iN_add, iN_s, iN_and, iN_or, iN_shl, e10, e01, e00, bI_0, bI_1, bI_t, bI_f, has_iN, bitc, within_iN, mk_or1, xhas_iN, add_z, if_true, if_false, ite_true, ite_false, reduceCtorEq, Bool.false_eq_true, Bool.true_and, Bool.false_and, Bool.and_true, Bool.and_false, Bool.not_true, Bool.not_false]
          | succ d ih =>
            intro m hm hno F hF
            obtain ⟨F, rfl⟩ := Nat.exists_eq_succ_of_ne_zero (by omega : F ≠ 0)
            have hml : m < 2 ^ n := by omega
            have hle := in1_le hcp hno (by omega) (by omega)
            rcases hq2 : in1 b n z p c m with ⟨a, c'⟩
            rw [hq2] at hno hle
            dsimp only at hno hle
            subst hno
            have hs2 : in1 b n z p c (m + 1) = if decide (pc m = z) && cl b n m then (if c' = p then (some m, c') else (none, c' + 1)) else (none, c') := by rw [in1, hq2]
            have hz31 : z < 2 ^ 31 := by omega
            by_cases hpz : pc m = z
            · cases hc : cl b n m
              · have e1 : in1 b n z p c (m + 1) = (none, c') := by rw [hs2, hc]; simp
                have := ih (m + 1) (by omega) (by rw [e1]) F (by omega)
                rw [e1] at this
                dsimp only at this
                simp only [lp_s]
                simp (disch := omega) only [g_X1_findAt_L15, s_setLimit h, if_neg (show ¬ 2 ^ n ≤ m by omega), hpz, s_isClosedBelow h (show m < 512 by omega), hc, iN_le, iN_lt, chk_inb, chk_t, clamp_iN, bd_some, iN_add, iN_s, iN_and, iN_or, iN_shl, e10, e01, e00, bI_0, bI_1, bI_t, bI_f, has_iN, bitc, within_iN, mk_or1, xhas_iN, add_z, if_true, if_false, ite_true, ite_false, reduceCtorEq, Bool.false_eq_true, Bool.true_and, Bool.false_and, Bool.and_true, Bool.and_false, Bool.not_true, Bool.not_false]
                exact this
              · by_cases e2 : c' = p
                · have e1 : in1 b n z p c (m + 1) = (some m, c') := by rw [hs2, hc, if_pos e2]; simp [hpz]
                  left
                  refine ⟨m, in1_some (m := m + 1) (by rw [e1]) (by omega), fun K => ?_⟩
                  simp only [lp_s]
                  subst e2
                  simp (disch := omega) only [g_X1_findAt_L15, s_setLimit h, if_neg (show ¬ 2 ^ n ≤ m by omega), hpz, s_isClosedBelow h (show m < 512 by omega), hc, iN_le, iN_lt, chk_inb, chk_t, clamp_iN, bd_some, iN_add, iN_s, iN_and, iN_or, iN_shl, e10, e01, e00, bI_0, bI_1, bI_t, bI_f, has_iN, bitc, within_iN, mk_or1, xhas_iN, add_z, if_true, if_false, ite_true, ite_false, reduceCtorEq, Bool.false_eq_true, Bool.true_and, Bool.false_and, Bool.and_true, Bool.and_false, Bool.not_true, Bool.not_false]
                · have e1 : in1 b n z p c (m + 1) = (none, c' + 1) := by rw [hs2, hc, if_neg e2]; simp [hpz]
                  have := ih (m + 1) (by omega) (by rw [e1]) F (by omega)
                  rw [e1] at this
                  dsimp only at this
                  have ene : (iN c' = iN p) = False := by rw [iN_eq (by omega) hp]; exact eq_false e2
                  simp only [lp_s]
                  simp (disch := omega) only [g_X1_findAt_L15, s_setLimit h, if_neg (show ¬ 2 ^ n ≤ m by omega), hpz, s_isClosedBelow h (show m < 512 by omega), hc, ene, iN_le, iN_lt, chk_inb, chk_t, clamp_iN, bd_some, iN_add, iN_s, iN_and, iN_or, iN_shl, e10, e01, e00, bI_0, bI_1, bI_t, bI_f, has_iN, bitc, within_iN, mk_or1, xhas_iN, add_z, if_true, if_false, ite_true, ite_false, reduceCtorEq, Bool.false_eq_true, Bool.true_and, Bool.false_and, Bool.and_true, Bool.and_false, Bool.not_true, Bool.not_false]
                  exact this
            · have e1 : in1 b n z p c (m + 1) = (none, c') := by rw [hs2]; simp [hpz]
              have := ih (m + 1) (by omega) (by rw [e1]) F (by omega)
              rw [e1] at this
              dsimp only at this
              have hpm := pc_le m
              have ene : (iN (pc m) = iN z) = False := by rw [iN_eq (by omega) hz31]; exact eq_false hpz
              simp only [lp_s]
              simp (disch := omega) only [g_X1_findAt_L15, s_setLimit h, if_neg (show ¬ 2 ^ n ≤ m by omega), bitc, ene, iN_le, iN_lt, chk_inb, chk_t, clamp_iN, bd_some, iN_add, iN_s, iN_and, iN_or, iN_shl, e10, e01, e00, bI_0, bI_1, bI_t, bI_f, has_iN, bitc, within_iN, mk_or1, xhas_iN, add_z, if_true, if_false, ite_true, ite_false, reduceCtorEq, Bool.false_eq_true, Bool.true_and, Bool.false_and, Bool.and_true, Bool.and_false, Bool.not_true, Bool.not_false]
              exact this
        exact H (2 ^ n) 0 (by omega) rfl FU (FU_lt2 h8)
      have hg : ∀ K, g_X1_findAt_L4 M q (iN p) K (iN c, iN z) = lp (g_X1_findAt_L15 M q (iN p) (iN z) K) FU (iN c, 0) := fun K => by
        simp (disch := omega) only [g_X1_findAt_L4, h.n, if_neg (show ¬ n < z by omega), iN_le, iN_lt, chk_inb, chk_t, clamp_iN, bd_some, iN_add, iN_s, iN_and, iN_or, iN_shl, e10, e01, e00, bI_0, bI_1, bI_t, bI_f, has_iN, bitc, within_iN, mk_or1, xhas_iN, add_z, if_true, if_false, ite_true, ite_false, reduceCtorEq, Bool.false_eq_true, Bool.true_and, Bool.false_and, Bool.and_true, Bool.and_false, Bool.not_true, Bool.not_false]; rfl
      rcases key2 with ⟨s, h1, h2⟩ | ⟨h1, h2⟩
      · right
        refine ⟨iN s, ?_, fun k => by rw [hg]; exact h2 k⟩
        have : fz b n p = some s := by
          unfold fz
          exact ou1_some (z := z + 1) (by rw [hs]; exact h1) (by omega)
        rw [this]; rfl
      · left
        refine ⟨by omega, (iN (in1 b n z p c (2 ^ n)).2, iN (z + 1)), ⟨by omega, by rw [hs]; exact h1, by rw [hs], rfl⟩, fun k => by rw [hg]; exact h2 k⟩
  obtain ⟨r, hr, e⟩ := key
  rw [← e]
  exact hr
end PP
