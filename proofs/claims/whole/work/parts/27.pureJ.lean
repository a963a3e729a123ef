/-! ===== as few chains as the most things apart ===== -/
section DW
variable {n : Nat} {b : Nat → Nat} {A : Nat → Option Nat}
/-- root and length of the way to it -/
def rl (A : Nat → Option Nat) : Nat → Nat → Nat × Nat
  | 0, h => (h, 0)
  | d + 1, h => match A h with
    | none => (h, 0)
    | some t => ((rl A d t).1, (rl A d t).2 + 1)
def Rt (A : Nat → Option Nat) (h : Nat) : Nat × Nat := rl A 10 h
def Ed (b : Nat → Nat) (n : Nat) (A : Nat → Option Nat) : Prop := ∀ h < n, ∀ x, A h = some x → x < n ∧ (b h).testBit x = true
theorem rl_fuel (hS : St b n) (hE : Ed b n A) (d : Nat) : ∀ d' h, h < n → pc (b h) < d → pc (b h) < d' → rl A d h = rl A d' h := by
  induction d with
  | zero => intro d' h _ h1; omega
  | succ d ih =>
    intro d' h hh h1 h2
    obtain ⟨d', rfl⟩ := Nat.exists_eq_succ_of_ne_zero (show d' ≠ 0 by omega)
    rw [rl, rl]
    cases hA : A h with
    | none => rfl
    | some t =>
      obtain ⟨ht, hb⟩ := hE h hh t hA
      have := pc_b_lt hS hh ht hb
      dsimp only
      rw [ih d' t ht (by omega) (by omega)]
theorem Rt_none {h : Nat} (hA : A h = none) : Rt A h = (h, 0) := by
  unfold Rt; rw [rl, hA]
theorem Rt_some (hS : St b n) (hE : Ed b n A) {h t : Nat} (hh : h < n) (hA : A h = some t) : Rt A h = ((Rt A t).1, (Rt A t).2 + 1) := by
  obtain ⟨ht, hb⟩ := hE h hh t hA
  unfold Rt
  rw [rl_fuel hS hE 10 11 h hh (by have := pc_le (b h); omega) (by have := pc_le (b h); omega), rl, hA]
theorem Rt_root (hS : St b n) (hE : Ed b n A) (d : Nat) : ∀ h < n, pc (b h) < d → (Rt A h).1 < n ∧ A (Rt A h).1 = none := by
  induction d with
  | zero => intro h _ h1; omega
  | succ d ih =>
    intro h hh h1
    cases hA : A h with
    | none => rw [Rt_none hA]; exact ⟨hh, hA⟩
    | some t =>
      obtain ⟨ht, hb⟩ := hE h hh t hA
      have := pc_b_lt hS hh ht hb
      rw [Rt_some hS hE hh hA]
      exact ih t ht (by omega)
theorem Rt_len (hS : St b n) (hE : Ed b n A) (hI : ∀ x < n, cn n A x ≤ 1) (m : Nat) : ∀ h < n, ∀ h' < n, (Rt A h).2 = m → (Rt A h').2 = m → (Rt A h).1 = (Rt A h').1 → h = h' := by
  induction m with
  | zero =>
    intro h hh h' hh' e1 e2 e3
    cases hA : A h with
    | some t => rw [Rt_some hS hE hh hA] at e1; simp at e1
    | none =>
      cases hA' : A h' with
      | some t => rw [Rt_some hS hE hh' hA'] at e2; simp at e2
      | none => rw [Rt_none hA, Rt_none hA'] at e3; exact e3
  | succ m ih =>
    intro h hh h' hh' e1 e2 e3
    cases hA : A h with
    | none => rw [Rt_none hA] at e1; simp at e1
    | some t =>
      cases hA' : A h' with
      | none => rw [Rt_none hA'] at e2; simp at e2
      | some t' =>
        rw [Rt_some hS hE hh hA] at e1 e3
        rw [Rt_some hS hE hh' hA'] at e2 e3
        dsimp only at e1 e2 e3
        have ht := (hE h hh t hA).1
        have ht' := (hE h' hh' t' hA').1
        have := ih t ht t' ht' (by omega) (by omega) e3
        subst this
        rcases Classical.em (h = h') with e | e
        · exact e
        · exfalso
          have h1 := hI t ht
          have h2 : 2 ≤ cn n A t := by
            have e5 : S n (fun k => (if k = h then 1 else 0) + (if k = h' then 1 else 0)) = 2 := by
              rw [S_add, S_one hh (fun _ => 1), S_one hh' (fun _ => 1)]
            rw [← e5]
            unfold cn ct
            refine S_le (fun k hk => ?_)
            by_cases k1 : k = h
            · subst k1; simp [hA, e]
            · by_cases k2 : k = h'
              · subst k2; simp [hA', k1]
              · simp [k1, k2]
          omega
theorem Rt_up (hS : St b n) (hE : Ed b n A) (m : Nat) : ∀ h < n, m ≤ (Rt A h).2 → ∃ g, g < n ∧ (Rt A g).1 = (Rt A h).1 ∧ (Rt A g).2 + m = (Rt A h).2 ∧ (g = h ∨ (b h).testBit g = true) := by
  induction m with
  | zero => intro h hh _; exact ⟨h, hh, rfl, rfl, Or.inl rfl⟩
  | succ m ih =>
    intro h hh hm
    cases hA : A h with
    | none => rw [Rt_none hA] at hm; simp at hm
    | some t =>
      obtain ⟨ht, hb⟩ := hE h hh t hA
      rw [Rt_some hS hE hh hA] at hm ⊢
      dsimp only at hm ⊢
      obtain ⟨g, hg, g1, g2, g3⟩ := ih t ht (by omega)
      refine ⟨g, hg, g1, by omega, Or.inr ?_⟩
      rcases g3 with e | e
      · rw [e]; exact hb
      · exact hS.2.2.2 h hh t ht hb g hg e
theorem Rt_cm (hS : St b n) (hE : Ed b n A) (hI : ∀ x < n, cn n A x ≤ 1) {h h' : Nat} (hh : h < n) (hh' : h' < n) (e : (Rt A h).1 = (Rt A h').1) (hne : h ≠ h') : (b h').testBit h = true ∨ (b h).testBit h' = true := by
  rcases Nat.le_total (Rt A h).2 (Rt A h').2 with hl | hl
  · obtain ⟨g, hg, g1, g2, g3⟩ := Rt_up hS hE ((Rt A h').2 - (Rt A h).2) h' hh' (by omega)
    have := Rt_len hS hE hI (Rt A h).2 h hh g hg rfl (by omega) (by rw [g1, e])
    subst this
    rcases g3 with e2 | e2
    · exact absurd e2 hne
    · exact Or.inl e2
  · obtain ⟨g, hg, g1, g2, g3⟩ := Rt_up hS hE ((Rt A h).2 - (Rt A h').2) h hh (by omega)
    have := Rt_len hS hE hI (Rt A h').2 h' hh' g hg rfl (by omega) (by rw [g1, e])
    subst this
    rcases g3 with e2 | e2
    · exact absurd e2.symm hne
    · exact Or.inr e2
theorem wd_at : ∃ s, s < 2 ^ n ∧ pc s = wd b n ∧ (ap b n s = true ∨ s = 0) := by
  obtain ⟨s, hs, e⟩ := mx_at (Nat.two_pow_pos n) (fun s => if ap b n s then pc s else 0)
  cases hc : ap b n s
  · rw [hc] at e
    refine ⟨0, Nat.two_pow_pos n, ?_, Or.inr rfl⟩
    exact e.symm
  · rw [hc] at e
    exact ⟨s, hs, e.symm, Or.inl hc⟩
theorem wd_ge {s : Nat} (hs : s < 2 ^ n) (h : ap b n s = true) : pc s ≤ wd b n := by
  have := mx_ge hs (fun s => if ap b n s then pc s else 0)
  rw [h] at this
  exact this
theorem wd_dd (hS : St b n) : wd b n ≤ dd b n true (2 ^ n - 1) := by
  have hn := hS.1
  obtain ⟨a, ha, e, h⟩ := wd_at (b := b) (n := n)
  rw [← e]
  have h2 : ∀ k < n, a.testBit k = true → ∀ j < n, a.testBit j = true → (b k).testBit j = false := by
    rcases h with h | h
    · exact (ap_iff hS.2.1).mp h
    · intro k _ hb; rw [h] at hb; simp at hb
  have := dd_low (b := b) (c := true) hn a ha (fun x hx hia => pc_le1 hn (Nat.lt_of_le_of_lt Nat.and_le_left ha) (fun k hk j hj e1 e2 => by
    rw [Nat.testBit_and, Bool.and_eq_true] at e1 e2
    rcases Classical.em (k = j) with e | e
    · exact e
    · rcases ch_two hia hk hj e e1.2 e2.2 with f | f
      · rw [h2 k hk e1.1 j hj e2.1] at f; cases f
      · rw [h2 j hj e2.1 k hk e1.1] at f; cases f)) (2 ^ n - 1) all_lt
  have e : a &&& (2 ^ n - 1) = a := (and_self_iff ha hn).mpr (sb_all ha hn)
  rw [e] at this
  exact this
theorem ct_none (hE : Ed b n A) : ct n (fun h => (A h).isNone) + S n (fun x => cn n A x) = n := by
  unfold cn ct
  rw [S_comm, ← S_add]
  refine Eq.trans (S_congr (g := fun _ => 1) (fun h hh => ?_)) ?_
  · dsimp only
    cases hA : A h with
    | none => simp [S_zero]
    | some t =>
      have ht := (hE h hh t hA).1
      have e : S n (fun x => (decide (some t = some x)).toNat) = 1 := by
        rw [S_congr (g := fun x => if x = t then 1 else 0) (fun x _ => by
          by_cases e : x = t
          · simp [e]
          · simp [e, Ne.symm e]), S_one ht (fun _ => 1)]
      rw [e]; simp
  · have := ct_true (n := n)
    unfold ct at this
    simpa using this
/-- as few chains as things that failed to get a follower -/
theorem dd_le (hS : St b n) (hE : Ed b n A) {F : Nat → Bool} (hC : ∀ x < n, cn n A x = if F x then 0 else 1) : dd b n true (2 ^ n - 1) ≤ ct n F := by
  have hn := hS.1
  have hI : ∀ x < n, cn n A x ≤ 1 := fun x hx => by rw [hC x hx]; split <;> omega
  have h1 := dd_col (b := b) (c := true) hn (fun h => (Rt A h).1) n (2 ^ n - 1) all_lt (fun k hk _ => (Rt_root hS hE 10 k hk (by have := pc_le (b k); omega)).1) (fun r hr => ch_of (fun k hk j hj hkj a1 a2 => by
    rw [mk_bit, Bool.and_eq_true, Bool.and_eq_true] at a1 a2
    have e1 := of_decide_eq_true a1.2.2
    have e2 := of_decide_eq_true a2.2.2
    exact (Rt_cm hS hE hI hk hj (by rw [e1, e2]) hkj).symm))
  have h2 : ct n (fun r => decide (∃ k, k < n ∧ (2 ^ n - 1).testBit k = true ∧ (Rt A k).1 = r)) ≤ ct n (fun h => (A h).isNone) := S_le (fun r hr => by
    dsimp only
    by_cases h : ∃ k, k < n ∧ (2 ^ n - 1).testBit k = true ∧ (Rt A k).1 = r
    · obtain ⟨k, hk, -, e⟩ := h
      have := (Rt_root hS hE 10 k hk (by have := pc_le (b k); omega)).2
      rw [e] at this
      rw [this]
      exact Bool.toNat_le _
    · rw [decide_eq_false h]; exact Nat.zero_le _)
  have h3 := ct_none hE
  have h4 : S n (fun x => cn n A x) = ct n (fun x => !F x) := S_congr (fun x hx => by
    dsimp only
    rw [hC x hx]; cases F x <;> rfl)
  have h5 := ct_not (n := n) (p := F)
  omega
/-- as many things apart -/
theorem wd_le_F (hS : St b n) (hE : Ed b n A) {F : Nat → Bool} (hC : ∀ x < n, cn n A x = if F x then 0 else 1) {L R : Nat → Prop} (hz : cz b n A L R) (hF : ∀ x < n, F x = true → L x) : ct n F ≤ wd b n := by
  have hn := hS.1
  have pL : ∃ l : Nat → Bool, ∀ x, l x = true ↔ L x := ⟨fun x => @decide (L x) (Classical.propDecidable _), fun x => by simp⟩
  have pR : ∃ r : Nat → Bool, ∀ x, r x = true ↔ R x := ⟨fun x => @decide (R x) (Classical.propDecidable _), fun x => by simp⟩
  obtain ⟨l, hl⟩ := pL
  obtain ⟨r, hr⟩ := pR
  have h1 : ct n r ≤ ct n (fun x => l x && !F x) := by
    have e1 : ct n r ≤ S n (fun h => S n (fun x => ((r h && decide (A h = some x)) && l x).toNat)) := S_le (fun h hh => by
      cases hrh : r h
      · exact Nat.zero_le _
      · obtain ⟨x, hx, hLx⟩ := hz.2 h hh ((hr h).mp hrh)
        have hxn := (hE h hh x hx).1
        have := S_ge hxn (fun x => ((true && decide (A h = some x)) && l x).toNat)
        rw [hx, (hl x).mpr hLx] at this
        rw [hx]
        simpa using this)
    refine Nat.le_trans e1 ?_
    rw [S_comm]
    refine S_le (fun x hx => ?_)
    dsimp only
    cases hlx : l x
    · rw [S_congr (g := fun _ => 0) (fun h _ => by simp), S_zero]; exact Nat.zero_le _
    · have e2 : S n (fun h => ((r h && decide (A h = some x)) && true).toNat) ≤ cn n A x := S_le (fun h _ => by
        dsimp only
        cases r h <;> cases decide (A h = some x) <;> decide)
      rw [hC x hx] at e2
      cases hFx : F x
      · rw [hFx] at e2; simpa using e2
      · rw [hFx] at e2; simpa using e2
  have h2 : ct n F + ct n (fun x => l x && !F x) ≤ ct n (fun x => l x && !r x) + ct n r := by
    unfold ct
    rw [← S_add, ← S_add]
    refine S_le (fun x hx => ?_)
    have := hF x hx
    rw [← hl] at this
    dsimp only
    cases hFx : F x
    · cases l x <;> cases r x <;> decide
    · rw [this hFx]; cases r x <;> decide
  have h3 : ct n (fun x => l x && !r x) = pc (mk n fun x => l x && !r x) := by
    rw [pc_ct (mk_lt n _) hn]
    exact ct_congr (fun k hk => by rw [mk_bit]; simp [hk])
  have h4 := wd_ge (b := b) (mk_lt n fun x => l x && !r x) ((ap_iff hS.2.1).mpr (fun k hk a1 j hj a2 => by
    rw [mk_bit, Bool.and_eq_true, Bool.and_eq_true] at a1 a2
    cases hb : (b k).testBit j
    · rfl
    · have := hz.1 j hj ((hl j).mp a2.2.1) k hk hb
      rw [← hr] at this
      rw [this] at a1
      simp at a1))
  omega
end DW
