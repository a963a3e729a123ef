/-! ===== restricted counts: both ways agree ===== -/
section TT
variable {n : Nat} {b : Nat → Nat}
theorem BW_cong {w w' : Nat → Nat → Bool} (P : Nat → Prop) (hP : ∀ s k, k < n → P s → w s k = true → P (s + 2 ^ k)) (hw : ∀ s k, k < n → P s → w s k = w' s k) {d s : Nat} (hs : P s) : BW w n d s = BW w' n d s := by
  induction d generalizing s with
  | zero => rfl
  | succ d ih =>
    rw [BW, BW]
    refine S_congr (fun k hk => ?_)
    rw [← hw s k hk hs]
    cases hc : w s k
    · rfl
    · simp only [if_true]
      exact ih (hP s k hk hs hc)
theorem wt_0 {s t : Nat} (h : s.testBit t = true) : wt b n s t = 0 := by
  unfold wt cc
  rw [h]; rfl
/-- with u ahead of t -/
theorem with_eq (hn : n ≤ 9) {u t : Nat} (hu : u < n) (ht : t < n) : BW (cf b (f1 u t)) n n 0 = S (2 ^ n) (fun s => if s.testBit u then wt b n s t else 0) := by
  have hw0 := cf_W0 (b := b) (f1 u t)
  -- behind t all rows
  have hG : ∀ s, s < 2 ^ n → s.testBit t = true → ∀ d, BW (cf b (f1 u t)) n d s = BW (cc b) n d s := by
    intro s hs hst d
    refine BW_cong (fun s => s < 2 ^ n ∧ s.testBit t = true) ?_ ?_ ⟨hs, hst⟩
    · rintro s k hk ⟨h1, h2⟩ hc
      have hb := hw0 s k hc
      refine ⟨plus_lt h1 hk hb, ?_⟩
      rw [plus_bit h1 hk hb, h2]; rfl
    · rintro s k hk ⟨h1, h2⟩
      unfold cf f1
      cases hc : cc b s k
      · rfl
      · have hb := cc_W0 b s k hc
        have : k ≠ t := fun e => by rw [e, h2] at hb; cases hb
        simp [this]
  -- one level
  have hL : ∀ d, d < n → S (2 ^ n) (fun s => if pc s = d ∧ s.testBit t = false then FC b n s * BW (cf b (f1 u t)) n (n - d) s else 0) = S (2 ^ n) (fun s => if pc s = d + 1 ∧ s.testBit t = false then FC b n s * BW (cf b (f1 u t)) n (n - (d + 1)) s else 0) + S (2 ^ n) (fun s => if pc s = d then (if s.testBit u then wt b n s t else 0) else 0) := by
    intro d hd
    have hw1 : W0 (fun s k => cc b s k && !decide (k = t)) := fun s k h => by
      dsimp only at h
      rw [Bool.and_eq_true] at h
      exact cc_W0 b s k h.1
    have e1 := swap hw1 (n := n) (fun s => if pc s = d ∧ s.testBit t = false then FC b n s else 0) (fun s => if pc s = d + 1 then BW (cf b (f1 u t)) n (n - (d + 1)) s else 0)
    have e2 : n - d = n - (d + 1) + 1 := by omega
    have e3 : S (2 ^ n) (fun s => if pc s = d + 1 ∧ s.testBit t = false then FC b n s * BW (cf b (f1 u t)) n (n - (d + 1)) s else 0) = S (2 ^ n) (fun t' => S n (fun k => if t'.testBit k && (cc b (t' - 2 ^ k) k && !decide (k = t)) then (if pc (t' - 2 ^ k) = d ∧ (t' - 2 ^ k).testBit t = false then FC b n (t' - 2 ^ k) else 0) else 0) * (if pc t' = d + 1 then BW (cf b (f1 u t)) n (n - (d + 1)) t' else 0)) := by
      refine S_congr (fun x hx => ?_)
      by_cases hp : pc x = d + 1
      · have h0 : x ≠ 0 := fun e => by rw [e] at hp; cases hp
        simp only [hp, if_true, true_and]
        cases hxt : x.testBit t
        · simp only [if_true]
          congr 1
          rw [FC_s hx hn h0]
          refine S_congr (fun k hk => ?_)
          cases hxk : x.testBit k
          · rfl
          · have h1 := minus_pc hx hn hxk
            have h2 : pc (x - 2 ^ k) = d := by omega
            have h3 : (x - 2 ^ k).testBit t = false := by rw [minus_bit hx hxk, hxt]; rfl
            have h4 : k ≠ t := fun e => by rw [e, hxt] at hxk; cases hxk
            simp [h2, h3, h4]
        · simp only [Bool.true_eq_false, if_false]
          rw [S_congr (g := fun _ => 0) (fun k hk => ?_), S_zero, Nat.zero_mul]
          cases hxk : x.testBit k
          · rfl
          · by_cases h4 : k = t
            · simp [h4]
            · have h3 : (x - 2 ^ k).testBit t = true := by
                rw [minus_bit hx hxk, hxt]; simp; exact fun e => h4 e.symm
              simp [h3]
      · simp [hp]
    rw [e3, ← e1, ← S_add]
    refine S_congr (fun s hs => ?_)
    by_cases hp : pc s = d
    · have hne : s ≠ 2 ^ n - 1 := fun e => by rw [e, pc_all hn] at hp; omega
      simp only [hp, if_true, true_and]
      cases hst : s.testBit t
      · simp only [if_true]
        rw [e2, BW]
        have e4 : S n (fun k => if cf b (f1 u t) s k then BW (cf b (f1 u t)) n (n - (d + 1)) (s + 2 ^ k) else 0) = S n (fun k => (if cc b s k && !decide (k = t) then (if pc (s + 2 ^ k) = d + 1 then BW (cf b (f1 u t)) n (n - (d + 1)) (s + 2 ^ k) else 0) else 0) + if k = t then (if s.testBit u then (if cc b s k then BC b n (s + 2 ^ k) else 0) else 0) else 0) := by
          refine S_congr (fun k hk => ?_)
          have ecf : cf b (f1 u t) s k = (cc b s k && (!decide (k = t) || s.testBit u)) := rfl
          rw [ecf]
          cases hc : cc b s k
          · simp
          · have hb := cc_W0 b s k hc
            have h1 := plus_pc hs hn hk hb
            by_cases hkt : k = t
            · subst hkt
              simp only [decide_true, Bool.not_true, Bool.false_or, Bool.true_and, Bool.false_eq_true, if_false, if_true, Nat.zero_add]
              cases s.testBit u
              · rfl
              · simp only [if_true]
                rw [hG _ (plus_lt hs hk hb) (by rw [plus_bit hs hk hb]; simp)]
                unfold BC
                rw [h1, hp]
            · simp [hkt, h1, hp]
        rw [e4, S_add, S_one ht (fun k => if s.testBit u then (if cc b s k then BC b n (s + 2 ^ k) else 0) else 0), Nat.mul_add]
        congr 1
        unfold wt
        cases s.testBit u
        · simp
        · cases cc b s t <;> simp
      · simp only [Bool.true_eq_false, if_false, Nat.zero_mul, Nat.zero_add]
        rw [wt_0 hst]; simp
    · simp [hp]
  have hT : ∀ d, d ≤ n → BW (cf b (f1 u t)) n n 0 = S (2 ^ n) (fun s => if pc s = d ∧ s.testBit t = false then FC b n s * BW (cf b (f1 u t)) n (n - d) s else 0) + S d (fun e => S (2 ^ n) (fun s => if pc s = e then (if s.testBit u then wt b n s t else 0) else 0)) := by
    intro d
    induction d with
    | zero =>
      intro _
      rw [S_congr (n := 2 ^ n) (g := fun s => if s = 0 then BW (cf b (f1 u t)) n n s else 0) (fun s hs => ?_), S_one (Nat.two_pow_pos n) (fun s => BW (cf b (f1 u t)) n n s)]
      · rfl
      · by_cases h : s = 0
        · subst h
          have : pc 0 = 0 := rfl
          simp [this, FC_0]
        · have : ¬ pc s = 0 := fun e => h ((pc_0 hs hn).mp e)
          simp [h, this]
    | succ d ih =>
      intro hd
      rw [ih (by omega), hL d (by omega), S, Nat.add_assoc]
      congr 1
      exact Nat.add_comm _ _
  rw [hT n (Nat.le_refl n)]
  have e5 : S (2 ^ n) (fun s => if pc s = n ∧ s.testBit t = false then FC b n s * BW (cf b (f1 u t)) n (n - n) s else 0) = 0 := S_0.mpr (fun s hs => by
    by_cases h : pc s = n
    · have := (pc_n hs hn).mp h
      have h2 : s.testBit t = true := by rw [this, all_bit]; simp [ht]
      simp [h2]
    · simp [h])
  rw [e5, Nat.zero_add, S_comm]
  refine S_congr (fun s hs => ?_)
  by_cases h : pc s = n
  · have := (pc_n hs hn).mp h
    have h2 : s.testBit t = true := by rw [this, all_bit]; simp [ht]
    rw [wt_0 h2, S_congr (g := fun _ => 0) (fun e _ => by simp), S_zero]; simp
  · have h3 := pc_le_n hs hn
    rw [S_congr (n := n) (g := fun e => if e = pc s then (if s.testBit u then wt b n s t else 0) else 0) (fun e _ => by simp only [eq_comm]), S_one (show pc s < n by omega) (fun _ => if s.testBit u then wt b n s t else 0)]
/-- with t at the place p -/
theorem at_eq (hn : n ≤ 9) {t p : Nat} (ht : t < n) (hp : p < n) : BW (cf b (f2 t p ())) n n 0 = S (2 ^ n) (fun s => if pc s = p then wt b n s t else 0) := by
  have hw0 := cf_W0 (b := b) (f2 t p ())
  rw [← dual hw0 hn p (by omega)]
  have hF : ∀ d, d ≤ p → ∀ s, s < 2 ^ n → pc s = d → FW (cf b (f2 t p ())) n d s = if s.testBit t then 0 else FC b n s := by
    intro d
    induction d with
    | zero =>
      intro _ s hs hd
      have := (pc_0 hs hn).mp hd
      subst this
      rw [FC_0]; simp [FW]
    | succ d ih =>
      intro hd s hs hps
      have h0 : s ≠ 0 := fun e => by rw [e] at hps; cases hps
      rw [FW]
      cases hst : s.testBit t
      · simp only [Bool.false_eq_true, if_false]
        rw [FC_s hs hn h0]
        refine S_congr (fun k hk => ?_)
        cases hsk : s.testBit k
        · rfl
        · have h1 := minus_pc hs hn hsk
          have h2 : pc (s - 2 ^ k) = d := by omega
          have h4 : k ≠ t := fun e => by rw [e, hst] at hsk; cases hsk
          have h3 : (s - 2 ^ k).testBit t = false := by rw [minus_bit hs hsk, hst]; rfl
          have ecf : cf b (f2 t p ()) (s - 2 ^ k) k = (cc b (s - 2 ^ k) k && (decide (k = t) == decide (pc (s - 2 ^ k) = p))) := rfl
          rw [ecf, ih (by omega) _ (minus_lt hs) h2, h3]
          simp [h4, h2, show ¬ d = p by omega]
      · simp only [if_true]
        rw [S_congr (g := fun _ => 0) (fun k hk => ?_), S_zero]
        cases hsk : s.testBit k
        · rfl
        · have h1 := minus_pc hs hn hsk
          have h2 : pc (s - 2 ^ k) = d := by omega
          have ecf : cf b (f2 t p ()) (s - 2 ^ k) k = (cc b (s - 2 ^ k) k && (decide (k = t) == decide (pc (s - 2 ^ k) = p))) := rfl
          by_cases h4 : k = t
          · rw [ecf]; simp [h4, h4 ▸ h2, show ¬ d = p by omega]
          · have h3 : (s - 2 ^ k).testBit t = true := by
              rw [minus_bit hs hsk, hst]; simp; exact fun e => h4 e.symm
            rw [ih (by omega) _ (minus_lt hs) h2, h3]; simp
  have hG : ∀ s, s < 2 ^ n → s.testBit t = true → p < pc s → ∀ d, BW (cf b (f2 t p ())) n d s = BW (cc b) n d s := by
    intro s hs hst hps d
    refine BW_cong (fun s => s < 2 ^ n ∧ s.testBit t = true ∧ p < pc s) ?_ ?_ ⟨hs, hst, hps⟩
    · rintro s k hk ⟨h1, h2, h3⟩ hc
      have hb := hw0 s k hc
      refine ⟨plus_lt h1 hk hb, ?_, ?_⟩
      · rw [plus_bit h1 hk hb, h2]; rfl
      · rw [plus_pc h1 hn hk hb]; omega
    · rintro s k hk ⟨h1, h2, h3⟩
      unfold cf f2
      cases hc : cc b s k
      · rfl
      · have hb := cc_W0 b s k hc
        have : k ≠ t := fun e => by rw [e, h2] at hb; cases hb
        simp [this, show ¬ pc s = p by omega]
  refine S_congr (fun s hs => ?_)
  by_cases h : pc s = p
  · simp only [h, if_true]
    rw [hF p (Nat.le_refl p) s hs h]
    cases hst : s.testBit t
    · simp only [Bool.false_eq_true, if_false]
      rw [show n - p = n - (p + 1) + 1 by omega, BW]
      unfold wt
      rw [S_congr (g := fun k => if k = t then (if cc b s k then BC b n (s + 2 ^ k) else 0) else 0) (fun k hk => ?_), S_one ht (fun k => if cc b s k then BC b n (s + 2 ^ k) else 0)]
      · cases cc b s t <;> simp
      · have ecf : cf b (f2 t p ()) s k = (cc b s k && (decide (k = t) == decide (pc s = p))) := rfl
        rw [ecf]
        by_cases hkt : k = t
        · subst hkt
          cases hc : cc b s k
          · simp
          · have h1 := plus_pc hs hn hk hst
            simp only [h, decide_true, beq_self_eq_true, Bool.true_and, if_true]
            rw [hG _ (plus_lt hs hk hst) (by rw [plus_bit hs hk hst]; simp) (by omega)]
            unfold BC
            rw [h1, h]
        · simp [hkt, h]
    · simp only [if_true, Nat.zero_mul]
      rw [wt_0 hst]
  · simp [h]
end TT
/-! ===== chains and sets apart: both sides say the same ===== -/
section UU
variable {n : Nat} {b : Nat → Nat}
theorem S_sq {n : Nat} {h : Nat → Nat → Nat} : S n (fun k => S n (fun j => h k j)) = S n (fun k => S k (fun j => h k j + h j k)) + S n (fun k => h k k) := by
  induction n with
  | zero => rfl
  | succ n ih =>
    have e : S n (fun k => S (n + 1) (fun j => h k j)) = S n (fun k => S n (fun j => h k j)) + S n (fun k => h k n) := by
      rw [← S_add]; rfl
    show S n (fun k => S (n + 1) (fun j => h k j)) + (S n (fun j => h n j) + h n n) = (S n (fun k => S k (fun j => h k j + h j k)) + S n (fun j => h n j + h j n)) + (S n (fun k => h k k) + h n n)
    rw [e, ih, S_add]
    have e' : S n (h n) = S n (fun j => h n j) := rfl
    omega
theorem S_eq_iff {n : Nat} {f g : Nat → Nat} (h : ∀ k < n, f k ≤ g k) : S n f = S n g ↔ ∀ k < n, f k = g k := by
  constructor
  · intro e
    induction n with
    | zero => intro k hk; omega
    | succ n ih =>
      have h1 := S_le (n := n) (fun k hk => h k (by omega))
      have h2 := h n (by omega)
      rw [S, S] at e
      have h3 := ih (fun k hk => h k (by omega)) (by omega)
      intro k hk
      rcases Nat.lt_succ_iff_lt_or_eq.mp hk with h4 | h4
      · exact h3 k h4
      · rw [h4]; omega
  · exact S_congr
theorem S_tri {n : Nat} {p : Nat → Bool} : 2 * S n (fun k => S k (fun j => (p k && p j).toNat)) + ct n p = ct n p * ct n p := by
  induction n with
  | zero => rfl
  | succ n ih =>
    rw [S, ct_s]
    cases hp : p n
    · rw [S_congr (n := n) (f := fun j => (false && p j).toNat) (g := fun _ => 0) (fun j _ => rfl), S_zero]
      simpa using ih
    · have e : S n (fun j => (true && p j).toNat) = ct n p := S_congr (fun j _ => by simp)
      rw [e]
      simp only [Bool.toNat_true]
      rw [Nat.mul_add, Nat.add_mul, Nat.mul_add, Nat.mul_one, Nat.one_mul]
      omega
theorem b2n {x : Bool} {y : Nat} : x.toNat * y = if x then y else 0 := by cases x <;> simp
theorem il_ia (hS : St b n) {s : Nat} (hs : s < 2 ^ n) : il b n s = ia b n s true := by
  obtain ⟨hn, h1, h2, h3⟩ := hS
  have eX : S n (fun k => if s.testBit k then pc (b k &&& s) else 0) = S n (fun k => S n (fun j => (s.testBit k && (s.testBit j && (b k).testBit j)).toNat)) := by
    refine S_congr (fun k hk => ?_)
    cases hsk : s.testBit k
    · rw [S_congr (n := n) (f := fun j => (false && (s.testBit j && (b k).testBit j)).toNat) (g := fun _ => 0) (fun j _ => rfl), S_zero]; rfl
    · simp only [if_true, Bool.true_and]
      rw [pc_ct (Nat.lt_of_le_of_lt Nat.and_le_left (h1 k hk)) hn]
      exact ct_congr (fun j _ => by rw [Nat.testBit_and, Bool.and_comm])
  have eY : S n (fun k => S n (fun j => (s.testBit k && (s.testBit j && (b k).testBit j)).toNat)) = S n (fun k => S k (fun j => ((s.testBit k && s.testBit j) && cm b k j).toNat)) := by
    rw [S_sq, show S n (fun k => (s.testBit k && (s.testBit k && (b k).testBit k)).toNat) = 0 from S_0.mpr (fun k hk => by rw [h2 k hk]; simp), Nat.add_zero]
    refine S_congr (fun k hk => S_congr (fun j hj => ?_))
    have hjn : j < n := by omega
    unfold cm
    cases hsk : s.testBit k <;> cases hsj : s.testBit j <;> cases ha : (b k).testBit j <;> cases hb : (b j).testBit k <;> try rfl
    have := h3 k hk j hjn ha k hk hb
    rw [h2 k hk] at this
    cases this
  have eZ := S_tri (n := n) (p := s.testBit)
  rw [← pc_ct hs hn] at eZ
  have hm : pc s * (pc s - 1) / 2 = S n (fun k => S k (fun j => (s.testBit k && s.testBit j).toNat)) := by
    have : pc s * (pc s - 1) = 2 * S n (fun k => S k (fun j => (s.testBit k && s.testBit j).toNat)) := by
      rw [Nat.mul_sub, Nat.mul_one]; omega
    rw [this]; omega
  have hle : ∀ k < n, S k (fun j => ((s.testBit k && s.testBit j) && cm b k j).toNat) ≤ S k (fun j => (s.testBit k && s.testBit j).toNat) := fun k hk => S_le (fun j hj => by
    cases (s.testBit k && s.testBit j) <;> cases cm b k j <;> decide)
  rw [Bool.eq_iff_iff]
  unfold il ia
  rw [decide_eq_true_iff, eX, eY, hm, S_eq_iff hle, al_iff]
  constructor
  · intro h k hk
    have h4 := (S_eq_iff (n := k) (fun j hj => by cases (s.testBit k && s.testBit j) <;> cases cm b k j <;> decide)).mp (h k hk)
    rw [al_iff]
    intro j hj
    have := h4 j hj
    cases hx : (s.testBit k && s.testBit j)
    · rfl
    · rw [hx] at this
      cases hc : cm b k j
      · rw [hc] at this; cases this
      · rfl
  · intro h k hk
    refine S_congr (fun j hj => ?_)
    have := al_iff.mp (h k hk) j hj
    cases hx : (s.testBit k && s.testBit j)
    · rfl
    · rw [hx] at this
      cases hc : cm b k j
      · rw [hc] at this; cases this
      · rfl
theorem ap_iff (hb : ∀ k < n, b k < 2 ^ n) {s : Nat} : ap b n s = true ↔ ∀ k < n, s.testBit k = true → ∀ j < n, s.testBit j = true → (b k).testBit j = false := by
  unfold ap
  rw [al_iff]
  constructor
  · intro h k hk hsk j hj hsj
    have := h k hk
    rw [hsk, Bool.not_true, Bool.false_or] at this
    have := (no_iff (hb k hk)).mp this j hj
    cases hb : (b k).testBit j
    · rfl
    · rw [this hb] at hsj; cases hsj
  · intro h k hk
    cases hsk : s.testBit k
    · rfl
    · rw [Bool.not_true, Bool.false_or]
      refine (no_iff (hb k hk)).mpr (fun j hj hbj => ?_)
      cases hsj : s.testBit j
      · rfl
      · rw [h k hk hsk j hj hsj] at hbj; cases hbj
theorem ia_iff {s : Nat} {c : Bool} : ia b n s c = true ↔ ∀ k < n, ∀ j < k, s.testBit k = true → s.testBit j = true → cm b k j = c := by
  unfold ia
  rw [al_iff]
  constructor
  · intro h k hk j hj h1 h2
    have := al_iff.mp (h k hk) j hj
    rw [h1, h2] at this
    simpa using this
  · intro h k hk
    rw [al_iff]
    intro j hj
    cases h1 : s.testBit k
    · rfl
    · cases h2 : s.testBit j
      · rfl
      · rw [h k hk j hj h1 h2]; simp
theorem cm_comm {k j : Nat} : cm b k j = cm b j k := Bool.or_comm _ _
theorem ap_ia (hS : St b n) {s : Nat} : ap b n s = ia b n s false := by
  obtain ⟨hn, h1, h2, h3⟩ := hS
  rw [Bool.eq_iff_iff, ap_iff h1, ia_iff]
  constructor
  · intro h k hk j hj hsk hsj
    unfold cm
    rw [h k hk hsk j (by omega) hsj, h j (by omega) hsj k hk hsk]; rfl
  · intro h k hk hsk j hj hsj
    rcases Nat.lt_trichotomy j k with e | e | e
    · have := h k hk j e hsk hsj
      unfold cm at this
      rw [Bool.or_eq_false_iff] at this
      exact this.2
    · rw [e]; exact h2 k hk
    · have := h j hj k e hsj hsk
      unfold cm at this
      rw [Bool.or_eq_false_iff] at this
      exact this.1
/-- next below: the class's word and the reference's -/
theorem nx_eq (hb : ∀ k < n, b k < 2 ^ n) {j k : Nat} (hk : k < n) : ((b k).testBit j && no (mk n fun i => (b i).testBit j) (b k)) = nx b n j k := by
  unfold nx
  congr 1
  rw [Bool.eq_iff_iff, no_iff (mk_lt n _), al_iff]
  constructor
  · intro h i hi
    cases h1 : (b i).testBit j
    · rfl
    · rw [h i hi (by rw [mk_bit]; simp [hi, h1])]; rfl
  · intro h i hi h1
    have h2 := h i hi
    rw [mk_bit] at h1
    have h3 : (b i).testBit j = true := by simpa [hi] using h1
    rw [h3] at h2
    simpa using h2
end UU
/-! ===== heights ===== -/
section VV
variable {n : Nat} {b : Nat → Nat}
theorem sb_trans {s t u : Nat} (hs : s < 2 ^ n) (ht : t < 2 ^ n) (hn : n ≤ 9) (h1 : sb s t = true) (h2 : sb t u = true) : sb s u = true := by
  rw [sb_iff hs hn] at h1 ⊢
  rw [sb_iff ht hn] at h2
  exact fun k hk h => h2 k hk (h1 k hk h)
theorem sb_all {s : Nat} (hs : s < 2 ^ n) (hn : n ≤ 9) : sb s (2 ^ n - 1) = true := by
  rw [sb_iff hs hn]
  intro k hk _
  rw [all_bit]; simp [hk]
/-- s is a chain -/
def ch (b : Nat → Nat) (n s : Nat) : Bool := ia b n s true
theorem ch_iff {s : Nat} : ch b n s = true ↔ ∀ k < n, ∀ j < k, s.testBit k = true → s.testBit j = true → cm b k j = true := ia_iff
theorem ch_two {s k j : Nat} (h : ch b n s = true) (hk : k < n) (hj : j < n) (hkj : k ≠ j) (h1 : s.testBit k = true) (h2 : s.testBit j = true) : (b k).testBit j = true ∨ (b j).testBit k = true := by
  have h3 := ch_iff.mp h
  rcases Nat.lt_or_ge j k with e | e
  · have := h3 k hk j e h1 h2
    unfold cm at this
    rw [Bool.or_eq_true] at this
    exact this.symm
  · have := h3 j hj k (by omega) h2 h1
    unfold cm at this
    rw [Bool.or_eq_true] at this
    exact this
theorem ch_of {s : Nat} (h : ∀ k < n, ∀ j < n, k ≠ j → s.testBit k = true → s.testBit j = true → (b k).testBit j = true ∨ (b j).testBit k = true) : ch b n s = true := by
  refine ch_iff.mpr (fun k hk j hj h1 h2 => ?_)
  unfold cm
  rw [Bool.or_eq_true]
  exact (h k hk j (by omega) (by omega) h1 h2).symm
theorem lw_ge (hS : St b n) {s w : Nat} (hs : s < 2 ^ n) (h1 : sb s w = true) (h2 : ch b n s = true) : pc s ≤ lw b n w := by
  have := mx_ge hs (fun s => if sb s w && il b n s then pc s else 0)
  rw [il_ia hS hs, h1, show ia b n s true = true from h2] at this
  exact this
theorem lw_at (hS : St b n) {w : Nat} : ∃ s, s < 2 ^ n ∧ sb s w = true ∧ ch b n s = true ∧ pc s = lw b n w := by
  obtain ⟨s, hs, e⟩ := mx_at (Nat.two_pow_pos n) (fun s => if sb s w && il b n s then pc s else 0)
  cases hc : (sb s w && il b n s)
  · rw [hc] at e
    simp only [Bool.false_eq_true, if_false] at e
    refine ⟨0, Nat.two_pow_pos n, ?_, ch_of (fun k _ j _ _ h => by simp at h), ?_⟩
    · exact (sb_iff (Nat.two_pow_pos n) hS.1).mpr (fun k _ h => by simp at h)
    · show 0 = lw b n w
      exact e.symm
  · rw [hc] at e
    simp only [if_true] at e
    rw [Bool.and_eq_true, il_ia hS hs] at hc
    exact ⟨s, hs, hc.1, hc.2, e.symm⟩
/-- the height of t -/
def hg (b : Nat → Nat) (n t : Nat) : Nat := lw b n (b t) + 1
/-- a chain and one above all of it -/
theorem ch_plus (hS : St b n) {s t : Nat} (hs : s < 2 ^ n) (ht : t < n) (h1 : sb s (b t) = true) (h2 : ch b n s = true) : s.testBit t = false ∧ ch b n (s + 2 ^ t) = true := by
  have h3 := (sb_iff hs hS.1).mp h1
  have h4 : s.testBit t = false := by
    cases h : s.testBit t
    · rfl
    · have := h3 t ht h
      rw [hS.2.2.1 t ht] at this; cases this
  refine ⟨h4, ch_of (fun k hk j hj hkj ha hb => ?_)⟩
  rw [plus_bit hs ht h4] at ha hb
  by_cases e1 : k = t
  · subst e1
    have : s.testBit j = true := by simpa [Ne.symm hkj] using hb
    exact Or.inl (h3 j hj this)
  · have ha' : s.testBit k = true := by simpa [e1] using ha
    by_cases e2 : j = t
    · subst e2; exact Or.inr (h3 k hk ha')
    · have hb' : s.testBit j = true := by simpa [e2] using hb
      exact ch_two h2 hk hj hkj ha' hb'
/-- a chain's greatest, and the rest -/
theorem ch_top (hS : St b n) {s : Nat} (hs : s < 2 ^ n) (h0 : s ≠ 0) (h2 : ch b n s = true) : ∃ t, t < n ∧ s.testBit t = true ∧ sb (s - 2 ^ t) (b t) = true ∧ ch b n (s - 2 ^ t) = true := by
  obtain ⟨t, ht, hst, hm⟩ := ex_max hS hs h0
  refine ⟨t, ht, hst, (sb_iff (minus_lt hs) hS.1).mpr (fun k hk h => ?_), ch_of (fun k hk j hj hkj ha hb => ?_)⟩
  · rw [minus_bit hs hst, Bool.and_eq_true] at h
    have hkt : t ≠ k := fun e => by
      have := h.2
      simp [e] at this
    rcases ch_two h2 ht hk hkt hst h.1 with h5 | h5
    · exact h5
    · rw [hm k hk h.1] at h5; cases h5
  · rw [minus_bit hs hst, Bool.and_eq_true] at ha hb
    exact ch_two h2 hk hj hkj ha.1 hb.1
theorem lw_top (hS : St b n) {w t : Nat} (hw : w < 2 ^ n) (hcl : ∀ k < n, w.testBit k = true → sb (b k) w = true) (ht : t < n) (h : w.testBit t = true) : hg b n t ≤ lw b n w := by
  obtain ⟨s, hs, h1, h2, h3⟩ := lw_at hS (w := b t)
  obtain ⟨h4, h5⟩ := ch_plus hS hs ht h1 h2
  have h6 := plus_pc hs hS.1 ht h4
  unfold hg
  rw [← h3, ← h6]
  refine lw_ge hS (plus_lt hs ht h4) ((sb_iff (plus_lt hs ht h4) hS.1).mpr (fun k hk hb => ?_)) h5
  rw [plus_bit hs ht h4] at hb
  by_cases e : k = t
  · rw [e]; exact h
  · have hb' : s.testBit k = true := by simpa [e] using hb
    exact (sb_iff (hS.2.1 t ht) hS.1).mp (hcl t ht h) k hk ((sb_iff hs hS.1).mp h1 k hk hb')
theorem lw_pos (hS : St b n) {w : Nat} (hw : w < 2 ^ n) (h0 : lw b n w ≠ 0) : ∃ t, t < n ∧ w.testBit t = true ∧ lw b n w ≤ hg b n t := by
  obtain ⟨s, hs, h1, h2, h3⟩ := lw_at hS (w := w)
  have hs0 : s ≠ 0 := fun e => by
    rw [e] at h3
    exact h0 h3.symm
  obtain ⟨t, ht, hst, h4, h5⟩ := ch_top hS hs hs0 h2
  refine ⟨t, ht, (sb_iff hs hS.1).mp h1 t ht hst, ?_⟩
  have h6 := lw_ge hS (minus_lt hs) h4 h5
  have h7 := minus_pc hs hS.1 hst
  unfold hg
  omega
theorem sbB (hS : St b n) {t : Nat} (ht : t < n) : ∀ k < n, (b t).testBit k = true → sb (b k) (b t) = true := fun k hk h =>
  (sb_iff (hS.2.1 k hk) hS.1).mpr (fun i hi hb => hS.2.2.2 t ht k hk h i hi hb)
/-- heights one by one -/
theorem hg_s (hS : St b n) {t : Nat} (ht : t < n) : hg b n t = mx n (fun k => if (b t).testBit k then hg b n k else 0) + 1 := by
  have e : hg b n t = lw b n (b t) + 1 := rfl
  rw [e]
  congr 1
  apply Nat.le_antisymm
  · by_cases h0 : lw b n (b t) = 0
    · omega
    · obtain ⟨k, hk, h1, h2⟩ := lw_pos hS (hS.2.1 t ht) h0
      have := mx_ge hk (fun k => if (b t).testBit k then hg b n k else 0)
      simp only [h1, if_true] at this
      omega
  · refine mx_le.mpr (fun k hk => ?_)
    cases h : (b t).testBit k
    · simp
    · simp only [if_true]
      exact lw_top hS (hS.2.1 t ht) (sbB hS ht) hk h
/-- the longest chain of all -/
def hh (b : Nat → Nat) (n : Nat) : Nat := lw b n (2 ^ n - 1)
theorem hg_le (hS : St b n) {t : Nat} (ht : t < n) : hg b n t ≤ hh b n :=
  lw_top hS all_lt (fun k hk _ => sb_all (hS.2.1 k hk) hS.1) ht (by rw [all_bit]; simp [ht])
theorem hg_lt (hS : St b n) {t k : Nat} (ht : t < n) (hk : k < n) (h : (b t).testBit k = true) : hg b n k < hg b n t := by
  rw [hg_s hS ht]
  have := mx_ge hk (fun k => if (b t).testBit k then hg b n k else 0)
  simp only [h, if_true] at this
  omega
/-- below a thing of height more than 1 stands one of the height before -/
theorem hg_pred (hS : St b n) {t : Nat} (ht : t < n) (h : 1 < hg b n t) : ∃ k, k < n ∧ (b t).testBit k = true ∧ hg b n k + 1 = hg b n t := by
  have h1 := hg_s hS ht
  obtain ⟨k, hk, e⟩ := mx_at (show 0 < n by omega) (fun k => if (b t).testBit k then hg b n k else 0)
  rw [e] at h1
  cases hb : (b t).testBit k
  · rw [hb] at h1; simp at h1; omega
  · rw [hb] at h1
    simp only [if_true] at h1
    exact ⟨k, hk, hb, h1.symm⟩
theorem hh_le_n (hS : St b n) : hh b n ≤ n := by
  obtain ⟨s, hs, h1, h2, h3⟩ := lw_at hS (w := 2 ^ n - 1)
  have := pc_le_n hs hS.1
  unfold hh; omega
theorem hg_pos {t : Nat} : 0 < hg b n t := Nat.succ_pos _
/-- each height up to the longest chain has a thing -/
theorem hg_ex (hS : St b n) {k : Nat} (h1 : 0 < k) (h2 : k ≤ hh b n) : ∃ t, t < n ∧ hg b n t = k := by
  have H : ∀ d, d < hh b n → ∃ t, t < n ∧ hg b n t = hh b n - d := by
    intro d
    induction d with
    | zero =>
      intro h
      obtain ⟨t, ht, -, h4⟩ := lw_pos hS all_lt (show lw b n (2 ^ n - 1) ≠ 0 from fun e => by unfold hh at h; omega)
      have := hg_le hS ht
      exact ⟨t, ht, by unfold hh at *; omega⟩
    | succ d ih =>
      intro h
      obtain ⟨t, ht, e⟩ := ih (by omega)
      obtain ⟨k, hk, -, e2⟩ := hg_pred hS ht (by omega)
      exact ⟨k, hk, by omega⟩
  obtain ⟨t, ht, e⟩ := H (hh b n - k) (by omega)
  exact ⟨t, ht, by omega⟩
/-- layers -/
theorem ly_eq (hS : St b n) (k : Nat) : (ly b n k).1 = mk n (fun t => decide (k < hg b n t)) ∧ (ly b n k).2 = min k (hh b n) := by
  have hn := hS.1
  induction k with
  | zero =>
    refine ⟨?_, by simp [ly]⟩
    refine mk_eq all_lt (fun t ht => ?_)
    rw [all_bit]
    have := hg_pos (b := b) (n := n) (t := t)
    simp [ht, this]
  | succ k ih =>
    obtain ⟨i1, i2⟩ := ih
    have hlt := ly_lt (b := b) hn k
    rw [ly]
    by_cases hz : (ly b n k).1 = 0
    · rw [if_pos hz]
      have hle : hh b n ≤ k := by
        rcases Nat.lt_or_ge k (hh b n) with h | h
        · obtain ⟨t, ht, e⟩ := hg_ex hS (show 0 < k + 1 by omega) h
          rw [hz] at i1
          have := mk_bit n (fun t => decide (k < hg b n t)) t
          rw [← i1] at this
          simp [ht, e] at this
        · exact h
      refine ⟨?_, by rw [i2, Nat.min_eq_right hle, Nat.min_eq_right (by omega)]⟩
      rw [i1]
      refine mk_congr (fun t ht => ?_)
      have := hg_le hS ht
      rw [decide_eq_false (by omega), decide_eq_false (by omega)]
    · rw [if_neg hz]
      have hlt' : k < hh b n := by
        rcases Nat.lt_or_ge k (hh b n) with h | h
        · exact h
        · refine absurd ?_ hz
          rw [i1]
          refine set_ext (mk_lt n _) (Nat.two_pow_pos n) (fun t ht => ?_)
          have := hg_le hS ht
          rw [mk_bit, decide_eq_false (show ¬ k < hg b n t by omega)]; simp
      refine ⟨?_, by rw [i2, Nat.min_eq_left (by omega), Nat.min_eq_left (by omega)]⟩
      dsimp only
      have h9 := p2_le hn
      refine mk_eq (Nat.lt_of_le_of_lt Nat.and_le_left hlt) (fun t ht => ?_)
      have hl9 : (ly b n k).1 < 512 := by omega
      have edif := dif_bit (y := ls b n (ly b n k).1) (k := t) hl9
      refine Eq.trans edif ?_
      unfold ls
      rw [mk_bit]
      have hb1 : ∀ t < n, (ly b n k).1.testBit t = decide (k < hg b n t) := fun t ht => by rw [i1, mk_bit]; simp [ht]
      rw [hb1 t ht]
      by_cases hkt : k < hg b n t
      · by_cases hk1 : k + 1 < hg b n t
        · have hno : no (b t) (ly b n k).1 = false := by
            obtain ⟨j, hj, hb, e⟩ := hg_pred hS ht (by omega)
            cases hc : no (b t) (ly b n k).1
            · rfl
            · have := (no_iff (hS.2.1 t ht)).mp hc j hj hb
              rw [hb1 j hj] at this
              have := of_decide_eq_false this
              omega
          simp [hkt, hk1, hno]
        · have hno : no (b t) (ly b n k).1 = true := (no_iff (hS.2.1 t ht)).mpr (fun j hj hb => by
            have := hg_lt hS ht hj hb
            rw [hb1 j hj]
            exact decide_eq_false (by omega))
          simp [hkt, hk1, hno, ht]
      · simp [hkt, show ¬ k + 1 < hg b n t by omega]
theorem ly_hh (hS : St b n) : (ly b n n).2 = hh b n := by
  rw [(ly_eq hS n).2, Nat.min_eq_right (hh_le_n hS)]
end VV
