/-! ===== orders that change: the reference's tables ===== -/
theorem lpX {R : Type} {go : (Int32 × Mem → Option R) → Int32 × Mem → Option R} {gi : Nat → (Int32 × Mem → Option R) → (Int32 × Mem → Option R) → Int32 × Mem → Option R} {r : Option R} (N : Nat) (lo hi : Nat → Nat) (Y : Nat → Mem) (X : Nat → Nat → Mem) (hN : N ≤ 9) (hb : ∀ k < N, lo k ≤ hi k ∧ hi k ≤ 9)
    (h1 : ∀ k < N, ∀ K, go K (iN k, Y k) = lp (gi k K) FU (iN (lo k), X k (lo k)))
    (h2 : ∀ k < N, ∀ j, lo k ≤ j → j < hi k → ∀ K k', gi k K k' (iN j, X k j) = k' (iN (j + 1), X k (j + 1)))
    (h3 : ∀ k < N, ∀ K k', gi k K k' (iN (hi k), X k (hi k)) = K (iN (k + 1), Y (k + 1)))
    (h4 : ∀ K, go K (iN N, Y N) = r) : lp go FU (iN 0, Y 0) = r := by
  refine lp_for (fun k => (iN k, Y k)) N (FU_lt hN) ?_ h4
  intro k hk K
  have hbk := hb k hk
  have e : lp (gi k K) FU ((fun d => (iN (lo k + d), X k (lo k + d))) 0) = K (iN (k + 1), Y (k + 1)) := by
    refine lp_for (fun d => (iN (lo k + d), X k (lo k + d))) (hi k - lo k) (FU_lt (by omega)) ?_ ?_
    · intro d hd k'
      exact h2 k hk (lo k + d) (by omega) (by omega) K k'
    · intro k'
      rw [show lo k + (hi k - lo k) = hi k by omega]
      exact h3 k hk K k'
  exact (h1 k hk K).trans e
/-- some of an order's 81 cells written -/
def wr (o : Nat) (P : Nat → Nat → Bool) (F : Nat → Nat → Int32) (M : Mem) : Mem := fun a i => if (decide (57 + 10 * o ≤ a) && (decide (a ≤ 65 + 10 * o) && P (a - (57 + 10 * o)) i)) = true then F (a - (57 + 10 * o)) i else M a i
/-- some of an order's values written -/
def wv (o : Nat) (P : Nat → Bool) (G : Nat → Int32) (M : Mem) : Mem := fun a i => if (decide (a = 50 + o) && P i) = true then G i else M a i
section WR
variable {o k j : Nat} {P P' : Nat → Nat → Bool} {F : Nat → Nat → Int32} {M : Mem} {Q : Nat → Bool} {G : Nat → Int32}
theorem wr_at (hk : k < 9) : wr o P F M (56 + 10 * o + 1 + k) j = if P k j = true then F k j else M (56 + 10 * o + 1 + k) j := by
  unfold wr
  have e1 : 56 + 10 * o + 1 + k - (57 + 10 * o) = k := by omega
  rw [e1, decide_eq_true (show 57 + 10 * o ≤ 56 + 10 * o + 1 + k by omega), decide_eq_true (show 56 + 10 * o + 1 + k ≤ 65 + 10 * o by omega), Bool.true_and, Bool.true_and]
theorem wr_ne {a : Nat} (h : a < 57 + 10 * o ∨ 65 + 10 * o < a) : wr o P F M a = M a := by
  funext i
  unfold wr
  rcases h with h | h
  · rw [decide_eq_false (show ¬ 57 + 10 * o ≤ a by omega), Bool.false_and, if_neg Bool.false_ne_true]
  · rw [decide_eq_false (show ¬ a ≤ 65 + 10 * o by omega), Bool.false_and, Bool.and_false, if_neg Bool.false_ne_true]
theorem wr_row {a : Nat} (h : 57 + 10 * o ≤ a ∧ a ≤ 65 + 10 * o) : ∃ k, k < 9 ∧ a = 56 + 10 * o + 1 + k := ⟨a - (57 + 10 * o), by omega, by omega⟩
theorem wr_ext {M' M'' : Mem} (h1 : ∀ k < 9, ∀ j, M' (56 + 10 * o + 1 + k) j = M'' (56 + 10 * o + 1 + k) j) (h2 : ∀ a, (a < 57 + 10 * o ∨ 65 + 10 * o < a) → M' a = M'' a) : M' = M'' := by
  funext a i
  by_cases h : 57 + 10 * o ≤ a ∧ a ≤ 65 + 10 * o
  · obtain ⟨k, hk, rfl⟩ := wr_row h
    exact h1 k hk i
  · rw [h2 a (by omega)]
theorem wr_congr (h : ∀ x y, x < 9 → P x y = P' x y) : wr o P F M = wr o P' F M :=
  wr_ext (fun k hk j => by rw [wr_at hk, wr_at hk, h k j hk]) (fun a ha => by rw [wr_ne ha, wr_ne ha])
theorem wr_none : wr o (fun _ _ => false) F M = M :=
  wr_ext (fun k hk j => by rw [wr_at hk, if_neg Bool.false_ne_true]) (fun a ha => wr_ne ha)
theorem wr_f (h : ∀ x y, x < 9 → P x y = false) : wr o P F M = M :=
  wr_ext (fun k hk j => by rw [wr_at hk, h k j hk, if_neg Bool.false_ne_true]) (fun a ha => wr_ne ha)
theorem wr_up {v : Int32} (hk : k < 9) (hv : v = F k j) : upM (wr o P F M) (56 + 10 * o + 1 + k) j v = wr o (fun x y => P x y || (decide (x = k) && decide (y = j))) F M := by
  refine wr_ext (o := o) (fun x hx y => ?_) (fun a ha => ?_)
  · rw [wr_at hx]
    by_cases e : x = k
    · subst e
      rw [upM_at, wr_at hx]
      by_cases e2 : y = j
      · subst e2; simp [hv]
      · simp [e2]
    · rw [upM_ne2 (by omega), wr_at hx]; simp [e]
  · rw [wr_ne ha]
    funext i
    rw [upM_ne2 (by omega), wr_ne ha]
theorem wr_skip (hk : k < 9) (hv : M (56 + 10 * o + 1 + k) j = F k j) : wr o P F M = wr o (fun x y => P x y || (decide (x = k) && decide (y = j))) F M := by
  refine wr_ext (o := o) (fun x hx y => ?_) (fun a ha => by rw [wr_ne ha, wr_ne ha])
  rw [wr_at hx, wr_at hx]
  by_cases e : x = k
  · subst e
    by_cases e2 : y = j
    · subst e2; simp [hv]
    · simp [e2]
  · simp [e]
theorem wr_upo {a i : Nat} {v : Int32} (h : a < 57 + 10 * o ∨ 65 + 10 * o < a) : upM (wr o P F M) a i v = wr o P F (upM M a i v) := by
  refine wr_ext (o := o) (fun x hx y => ?_) (fun c hc => ?_)
  · rw [upM_ne2 (by omega), wr_at hx, wr_at hx, upM_ne2 (by omega)]
  · rw [wr_ne hc]
    funext y
    by_cases e : c = a
    · subst e; rw [upM_at, upM_at, wr_ne hc]
    · rw [upM_ne2 e, upM_ne2 e, wr_ne hc]
theorem wv_at {i : Nat} : wv o Q G M (50 + o) i = if Q i = true then G i else M (50 + o) i := by
  unfold wv; rw [decide_eq_true rfl, Bool.true_and]
theorem wv_ne {a : Nat} (h : a ≠ 50 + o) : wv o Q G M a = M a := by
  funext i; unfold wv; rw [decide_eq_false h, Bool.false_and, if_neg Bool.false_ne_true]
theorem wv_0 : wv o (fun i => decide (i < 0)) G M = M := by
  funext a i
  by_cases h : a = 50 + o
  · subst h; rw [wv_at]; simp
  · rw [wv_ne h]
theorem wv_s {v : Int32} (hv : v = G k) : upM (wv o (fun i => decide (i < k)) G M) (50 + o) k v = wv o (fun i => decide (i < k + 1)) G M := by
  funext a i
  by_cases h : a = 50 + o
  · subst h
    rw [upM_at, wv_at, wv_at]
    by_cases e : i = k
    · subst e; simp [hv]
    · by_cases e2 : i < k
      · simp [e, e2, show i < k + 1 by omega]
      · simp [e, e2, show ¬ i < k + 1 by omega]
  · rw [upM_ne2 h, wv_ne h, wv_ne h]
end WR
/-- what is done at turn k, j -/
def pr (lo hi : Nat → Nat) (k j x y : Nat) : Bool := (decide (x < k) && (decide (lo x ≤ y) && decide (y < hi x))) || (decide (x = k) && (decide (lo k ≤ y) && decide (y < j)))
theorem pr_s {lo hi : Nat → Nat} {k j : Nat} (h : lo k ≤ j) : pr lo hi k (j + 1) = fun x y => pr lo hi k j x y || (decide (x = k) && decide (y = j)) := by
  funext x y
  rw [Bool.eq_iff_iff]
  simp only [pr, Bool.or_eq_true, Bool.and_eq_true, decide_eq_true_eq]
  omega
theorem pr_n {lo hi : Nat → Nat} {k : Nat} : pr lo hi k (hi k) = pr lo hi (k + 1) (lo (k + 1)) := by
  funext x y
  rw [Bool.eq_iff_iff]
  simp only [pr, Bool.or_eq_true, Bool.and_eq_true, decide_eq_true_eq]
  by_cases e : x = k
  · subst e; omega
  · omega
theorem pr_0 {lo hi : Nat → Nat} : pr lo hi 0 (lo 0) = fun _ _ => false := by
  funext x y
  cases h : pr lo hi 0 (lo 0) x y
  · rfl
  · exfalso
    simp only [pr, Bool.or_eq_true, Bool.and_eq_true, decide_eq_true_eq] at h
    omega
theorem pr_N {lo hi : Nat → Nat} {N x y : Nat} : pr lo hi N (lo N) x y = (decide (x < N) && (decide (lo x ≤ y) && decide (y < hi x))) := by
  rw [Bool.eq_iff_iff]
  simp only [pr, Bool.or_eq_true, Bool.and_eq_true, decide_eq_true_eq]
  omega
theorem lpW {R : Type} {go : (Int32 × Mem → Option R) → Int32 × Mem → Option R} {gi : Nat → (Int32 × Mem → Option R) → (Int32 × Mem → Option R) → Int32 × Mem → Option R} {r : Option R} (o N : Nat) (lo hi : Nat → Nat) (F : Nat → Nat → Int32) (B : Nat → Mem) (hN : N ≤ 9) (hb : ∀ k < N, lo k ≤ hi k ∧ hi k ≤ 9)
    (h1 : ∀ k < N, ∀ K, go K (iN k, wr o (pr lo hi k (lo k)) F (B k)) = lp (gi k K) FU (iN (lo k), wr o (pr lo hi k (lo k)) F (B (k + 1))))
    (h2 : ∀ k < N, ∀ j, lo k ≤ j → j < hi k → ∀ K k', gi k K k' (iN j, wr o (pr lo hi k j) F (B (k + 1))) = k' (iN (j + 1), wr o (pr lo hi k (j + 1)) F (B (k + 1))))
    (h3 : ∀ k < N, ∀ K k', gi k K k' (iN (hi k), wr o (pr lo hi k (hi k)) F (B (k + 1))) = K (iN (k + 1), wr o (pr lo hi k (hi k)) F (B (k + 1))))
    (h4 : ∀ K, go K (iN N, wr o (pr lo hi N (lo N)) F (B N)) = r) : lp go FU (iN 0, B 0) = r := by
  have H := lpX (go := go) (gi := gi) N lo hi (fun k => wr o (pr lo hi k (lo k)) F (B k)) (fun k j => wr o (pr lo hi k j) F (B (k + 1))) hN hb h1 h2 (fun k hk K k' => by rw [h3 k hk, pr_n]) h4
  rw [pr_0, wr_none] at H
  exact H
/-- what the reference has of an order: its table, its values, and that all its cells are yes or no -/
def RP (M : Mem) (o n : Nat) (b : Nat → Nat) (v : Nat → Int32) : Prop := MR M o n b ∧ (∀ k < n, M (50 + o) k = v k) ∧ ∀ k < 9, ∀ j < 9, isb (M (56 + 10 * o + 1 + k) j) = true
/-- nothing but order o of the reference has changed -/
def TG (o : Nat) (M M' : Mem) : Prop := (∀ a, a ≠ 48 → a ≠ 50 + o → (a < 57 + 10 * o ∨ 65 + 10 * o < a) → M' a = M a) ∧ ∀ k, k ≠ o → M' 48 k = M 48 k
def LOW (M M' : Mem) : Prop := ∀ a < 47, M' a = M a
theorem TG.refl (o : Nat) (M : Mem) : TG o M M := ⟨fun _ _ _ _ => rfl, fun _ _ => rfl⟩
theorem TG.trans {o : Nat} {M M' M'' : Mem} (h : TG o M M') (h' : TG o M' M'') : TG o M M'' := ⟨fun a h1 h2 h3 => by rw [h'.1 a h1 h2 h3, h.1 a h1 h2 h3], fun k hk => by rw [h'.2 k hk, h.2 k hk]⟩
theorem TG.low {o : Nat} {M M' : Mem} (h : TG o M M') : LOW M M' := fun a ha => h.1 a (by omega) (by omega) (by omega)
theorem LOW.trans {M M' M'' : Mem} (h : LOW M M') (h' : LOW M' M'') : LOW M M'' := fun a ha => by rw [h' a ha, h a ha]
theorem LOW.fr {M M' : Mem} {c : List Nat} (h : Fr M M' c) (hc : c.all (fun a => decide (47 ≤ a)) = true) : LOW M M' := fun a ha => h a (fun h1 => by
  have := List.all_eq_true.mp hc a h1
  rw [decide_eq_true_iff] at this
  omega)
theorem LOW.cd {M : Mem} {x : Int32} : LOW M (upM M 47 3 x) := fun a ha => by funext i; exact upM_ne2 (by omega)
theorem TG.so {o p : Nat} {M M' : Mem} (h : TG o M M') (ho : o < 5) (hp : p < 4) (hne : p ≠ o) : SO p M M' := ⟨fun a ha => h.1 a (by omega) (by omega) (by omega), h.2 p hne⟩
theorem SO.cd {p : Nat} {M : Mem} {x : Int32} (hp : p < 4) : SO p M (upM M 47 3 x) := SO.fr hp fr47 scr47
theorem TG.wr {o : Nat} {M : Mem} {P : Nat → Nat → Bool} {F : Nat → Nat → Int32} : TG o M (wr o P F M) := ⟨fun a _ _ h => wr_ne h, fun k _ => by rw [wr_ne (by omega)]⟩
theorem TG.wv {o : Nat} {M : Mem} {Q : Nat → Bool} {G : Nat → Int32} : TG o M (wv o Q G M) := ⟨fun a _ h _ => wv_ne h, fun k _ => by rw [wv_ne (by omega)]⟩
theorem TG.n {o : Nat} {M : Mem} {x : Int32} : TG o M (upM M 48 o x) := ⟨fun a h _ _ => by funext i; exact upM_ne2 h, fun k hk => by rw [upM_at, if_neg hk]⟩
theorem RP.same {M M' : Mem} {o n : Nat} {b : Nat → Nat} {v : Nat → Int32} (h : RP M o n b v) (h1 : M' 48 o = M 48 o) (h2 : M' (50 + o) = M (50 + o)) (h3 : ∀ a, 57 + 10 * o ≤ a → a ≤ 65 + 10 * o → M' a = M a) : RP M' o n b v := by
  obtain ⟨hM, hv, hi⟩ := h
  refine ⟨⟨hM.o, hM.le, by rw [h1]; exact hM.n, fun k hk => ⟨hM.lt hk, fun j hj => ?_⟩⟩, fun k hk => by rw [h2]; exact hv k hk, fun k hk j hj => ?_⟩
  · have := hM.le
    rw [h3 _ (by omega) (by omega)]; exact hM.b hk hj
  · rw [h3 _ (by omega) (by omega)]; exact hi k hk j hj
theorem RP.tg {M M' : Mem} {o p n : Nat} {b : Nat → Nat} {v : Nat → Int32} (h : RP M p n b v) (ht : TG o M M') (ho : o < 5) (hp : p < 5) (hne : p ≠ o) : RP M' p n b v := h.same (ht.2 p hne) (ht.1 _ (by omega) (by omega) (by omega)) (fun a h1 h2 => ht.1 a (by omega) (by omega) (by omega))
theorem RP.fr {M M' : Mem} {o n : Nat} {b : Nat → Nat} {v : Nat → Int32} {c : List Nat} (h : RP M o n b v) (hf : Fr M M' c) (hc : ∀ a ∈ c, a < 48 ∨ 106 ≤ a) : RP M' o n b v := by
  have ho := h.1.o
  have H : ∀ a, 48 ≤ a → a < 106 → M' a = M a := fun a h1 h2 => hf a (fun hm => by
    have := hc a hm
    omega)
  exact h.same (by rw [H 48 (by omega) (by omega)]) (H _ (by omega) (by omega)) (fun a h1 h2 => H a (by omega) (by omega))
theorem RP.cd {M : Mem} {o n : Nat} {b : Nat → Nat} {v : Nat → Int32} {x : Int32} (h : RP M o n b v) : RP (upM M 47 3 x) o n b v := h.fr fr47 (by decide)
theorem PO.rp {M : Mem} {o n : Nat} {b : Nat → Nat} (h : PO M o n b) : RP M o n b (M (2 + 3 * o + 2)) := ⟨h.2.2.1, fun k hk => (h.2.2.2.1 k hk).symm, h.2.2.2.2⟩
theorem POmk {M M' : Mem} {o n : Nat} {b : Nat → Nat} {v : Nat → Int32} (ho : o < 4) (hS : St b n) (h6 : OR M (2 + 3 * o) n b) (hv : ∀ k < n, M (2 + 3 * o + 2) k = v k) (hl : LOW M M') (hR : RP M' o n b v) : PO M' o n b :=
  ⟨hS, h6.same (hl _ (by omega)) (hl _ (by omega)), hR.1, fun k hk => by rw [hl _ (by omega), hv k hk, hR.2.1 k hk], hR.2.2⟩
theorem SO.cls {o p : Nat} {M M' : Mem} {c : List Nat} (hp : p < 4) (ho : o < 4) (hne : p ≠ o) (hf : Fr M M' c) (hc : ∀ a ∈ c, scr a ∨ a = 2 + 3 * o ∨ a = 2 + 3 * o + 1 ∨ a = 2 + 3 * o + 2) : SO p M M' := by
  have H : ∀ a, ¬ scr a → a ≠ 2 + 3 * o → a ≠ 2 + 3 * o + 1 → a ≠ 2 + 3 * o + 2 → M' a = M a := fun a h1 h2 h3 h4 => hf a (fun hm => by
    rcases hc a hm with h | h | h | h
    · exact h1 h
    · exact h2 h
    · exact h3 h
    · exact h4 h)
  unfold scr at H
  exact ⟨fun a ha => H a (by omega) (by omega) (by omega) (by omega), by rw [H 48 (by omega) (by omega) (by omega) (by omega)]⟩
theorem J.upd {M M6 M7 : Mem} {o : Nat} (hJ : J M) (h6 : ∀ p < 4, p ≠ o → SO p M M6) (h7 : ∀ p < 4, p ≠ o → SO p M6 M7) (hn : ∃ n b, PO M7 o n b) : J M7 := hJ.step (fun p hp hne => (h6 p hp hne).trans (h7 p hp hne)) hn
section EB
variable {M : Mem} {o n : Nat} {b : Nat → Nat} {v : Nat → Int32}
/-- the whole table written -/
def al9 (_ y : Nat) : Bool := decide (y < 9)
theorem pr_al9 {x y : Nat} (hx : x < 9) : pr (fun _ => 0) (fun _ => 9) 9 0 x y = al9 x y := by
  have := pr_N (lo := fun _ => 0) (hi := fun _ => 9) (N := 9) (x := x) (y := y)
  rw [show pr (fun _ => 0) (fun _ => 9) 9 0 x y = pr (fun _ => 0) (fun _ => 9) 9 ((fun _ => 0) 9) x y from rfl, this]
  unfold al9
  simp [hx]
theorem t_empty (ho : o < 5) (x : Int32) : f_X7_empty M (iN o) x = some (wr o al9 (fun _ _ => 0) (wv o (fun i => decide (i < 9)) (fun _ => 0) (upM M 48 o x))) := by
  have e9 : (9 : Int32) = iN 9 := rfl
  simp (disch := omega) only [f_X7_empty, chk_inb, clamp_iN, bd_some]
  have e0 : upM M 48 o x = (fun k => wv o (fun i => decide (i < k)) (fun _ => 0) (upM M 48 o x)) 0 := wv_0.symm
  rw [e0]
  refine lpW (gi := fun k K => g_X7_empty_L27 (iN o) (iN k) K) o 9 (fun _ => 0) (fun _ => 9) (fun _ _ => 0) (fun k => wv o (fun i => decide (i < k)) (fun _ => 0) (upM M 48 o x)) (Nat.le_refl 9) (fun _ _ => ⟨by omega, by omega⟩) ?_ ?_ ?_ ?_
  · intro k hk K
    simp (disch := omega) only [g_X7_empty_L9, e9, iN_le, if_neg (show ¬ 9 ≤ k by omega), chk_inb, clamp_iN, bd_some]
    rw [wr_upo (by omega), wv_s rfl]; rfl
  · intro k hk j _ hj K k'
    simp (disch := omega) only [g_X7_empty_L27, e9, iN_le, if_neg (show ¬ 9 ≤ j by omega), chk_inb, clamp_iN, isb0, chk_t, bd_some, iN_s]
    rw [wr_up (F := fun _ _ => 0) hk rfl, ← pr_s (Nat.zero_le _)]
  · intro k hk K k'
    simp (disch := omega) only [g_X7_empty_L27, e9, iN_le, if_pos (Nat.le_refl 9), iN_s]
  · intro K
    simp (disch := omega) only [g_X7_empty_L9, e9, iN_le, if_pos (Nat.le_refl 9)]
    rw [wr_congr (P' := al9) (fun x y hx => pr_al9 hx), wv_0]
def EM (o : Nat) (x : Int32) (M : Mem) : Mem := wr o al9 (fun _ _ => 0) (wv o (fun i => decide (i < 9)) (fun _ => 0) (upM M 48 o x))
theorem EM_tg {x : Int32} : TG o M (EM o x M) := (TG.n.trans TG.wv).trans TG.wr
theorem EM_n {x : Int32} : EM o x M 48 o = x := by
  unfold EM; rw [wr_ne (by omega), wv_ne (by omega), upM_eq]
theorem EM_b {x : Int32} {k j : Nat} (hk : k < 9) (hj : j < 9) : EM o x M (56 + 10 * o + 1 + k) j = 0 := by
  unfold EM; rw [wr_at hk, if_pos (by unfold al9; exact decide_eq_true hj)]
theorem EM_v {x : Int32} {k : Nat} (hk : k < 9) : EM o x M (50 + o) k = 0 := by
  unfold EM; rw [wr_ne (by omega), wv_at, if_pos (decide_eq_true hk)]
theorem EM_rp (ho : o < 5) (hn : n ≤ 9) : RP (EM o (iN n) M) o n (fun _ => 0) (fun _ => 0) := by
  refine ⟨⟨ho, hn, EM_n, fun k hk => ⟨Nat.two_pow_pos n, fun j hj => ?_⟩⟩, fun k hk => EM_v (by omega), fun k hk j hj => ?_⟩
  · rw [EM_b (by omega) (by omega)]; simp [bI]
  · rw [EM_b hk hj]; rfl
/-- one order of the reference becomes as another one -/
theorem t_becomes {p : Nat} (ho : o < 5) (h : RP M p n b v) : ∃ M', f_X7_becomes M (iN o) (iN p) = some M' ∧ (TG o M M' ∧ RP M' o n b v) := by
  have hp := h.1.o
  have h9 := h.1.le
  have e9 : (9 : Int32) = iN 9 := rfl
  by_cases e : p = o
  · subst e
    refine ⟨M, ?_, TG.refl _ _, h⟩
    simp (disch := omega) only [f_X7_becomes, chk_inb, clamp_iN, bd_some, upM_self]
    refine lpX (gi := fun k K => g_X7_becomes_L39 (iN p) (iN p) (iN k) K) 9 (fun _ => 0) (fun _ => 9) (fun _ => M) (fun _ _ => M) (Nat.le_refl 9) (fun _ _ => ⟨by omega, by omega⟩) ?_ ?_ ?_ ?_
    · intro k hk K
      simp (disch := omega) only [g_X7_becomes_L14, e9, iN_le, if_neg (show ¬ 9 ≤ k by omega), chk_inb, clamp_iN, bd_some, upM_self]; rfl
    · intro k hk j _ hj K k'
      simp (disch := omega) only [g_X7_becomes_L39, e9, iN_le, if_neg (show ¬ 9 ≤ j by omega), chk_inb, clamp_iN, bd_some, upM_self, h.2.2 k hk j hj, chk_t, iN_s]
    · intro k hk K k'
      simp (disch := omega) only [g_X7_becomes_L39, e9, iN_le, if_pos (Nat.le_refl 9), iN_s]
    · intro K
      simp (disch := omega) only [g_X7_becomes_L14, e9, iN_le, if_pos (Nat.le_refl 9)]
  · refine ⟨wr o al9 (fun x y => M (56 + 10 * p + 1 + x) y) (wv o (fun i => decide (i < 9)) (M (50 + p)) (upM M 48 o (M 48 p))), ?_, (TG.n.trans TG.wv).trans TG.wr, ?_⟩
    · simp (disch := omega) only [f_X7_becomes, chk_inb, clamp_iN, bd_some]
      have e0 : upM M 48 o (M 48 p) = (fun k => wv o (fun i => decide (i < k)) (M (50 + p)) (upM M 48 o (M 48 p))) 0 := wv_0.symm
      rw [e0]
      refine lpW (gi := fun k K => g_X7_becomes_L39 (iN o) (iN p) (iN k) K) o 9 (fun _ => 0) (fun _ => 9) (fun x y => M (56 + 10 * p + 1 + x) y) (fun k => wv o (fun i => decide (i < k)) (M (50 + p)) (upM M 48 o (M 48 p))) (Nat.le_refl 9) (fun _ _ => ⟨by omega, by omega⟩) ?_ ?_ ?_ ?_
      · intro k hk K
        have hr : wr o (pr (fun _ => 0) (fun _ => 9) k 0) (fun x y => M (56 + 10 * p + 1 + x) y) (wv o (fun i => decide (i < k)) (M (50 + p)) (upM M 48 o (M 48 p))) (50 + p) k = M (50 + p) k := by
          rw [wr_ne (by omega), wv_ne (by omega), upM_ne2 (by omega)]
        simp (disch := omega) only [g_X7_becomes_L14, e9, iN_le, if_neg (show ¬ 9 ≤ k by omega), chk_inb, clamp_iN, bd_some, hr]
        rw [wr_upo (by omega), wv_s rfl]; rfl
      · intro k hk j _ hj K k'
        have hr : wr o (pr (fun _ => 0) (fun _ => 9) k j) (fun x y => M (56 + 10 * p + 1 + x) y) (wv o (fun i => decide (i < k + 1)) (M (50 + p)) (upM M 48 o (M 48 p))) (56 + 10 * p + 1 + k) j = M (56 + 10 * p + 1 + k) j := by
          rw [wr_ne (by omega), wv_ne (by omega), upM_ne2 (by omega)]
        simp (disch := omega) only [g_X7_becomes_L39, e9, iN_le, if_neg (show ¬ 9 ≤ j by omega), chk_inb, clamp_iN, bd_some, hr, h.2.2 k hk j hj, chk_t, iN_s]
        rw [wr_up (F := fun x y => M (56 + 10 * p + 1 + x) y) hk rfl, ← pr_s (Nat.zero_le _)]
      · intro k hk K k'
        simp (disch := omega) only [g_X7_becomes_L39, e9, iN_le, if_pos (Nat.le_refl 9), iN_s]
      · intro K
        simp (disch := omega) only [g_X7_becomes_L14, e9, iN_le, if_pos (Nat.le_refl 9)]
        rw [wr_congr (P' := al9) (fun x y hx => pr_al9 hx), wv_0]
    · refine ⟨⟨ho, h9, ?_, fun k hk => ⟨h.1.lt hk, fun j hj => ?_⟩⟩, fun k hk => ?_, fun k hk j hj => ?_⟩
      · rw [wr_ne (by omega), wv_ne (by omega), upM_eq]; exact h.1.n
      · rw [wr_at (by omega), if_pos (by unfold al9; exact decide_eq_true (by omega))]; exact h.1.b hk hj
      · rw [wr_ne (by omega), wv_at, if_pos (decide_eq_true (by omega))]; exact h.2.1 k hk
      · rw [wr_at hk, if_pos (by unfold al9; exact decide_eq_true hj)]; exact h.2.2 k hk j hj
end EB
