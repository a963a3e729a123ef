/-! ===== chains: the search for followers ===== -/
/-- each thing's one ahead of it, in the cell qa -/
def CH (M : Mem) (qa n : Nat) (A : Nat → Option Nat) : Prop := ∀ h < n, M qa h = oI (A h) ∧ ∀ t, A h = some t → t < n
def cn (n : Nat) (A : Nat → Option Nat) (x : Nat) : Nat := ct n (fun h => decide (A h = some x))
def up1 (A : Nat → Option Nat) (h t : Nat) : Nat → Option Nat := fun k => if k = h then some t else A k
theorem cn_up {n : Nat} {A : Nat → Option Nat} {h t x : Nat} (hh : h < n) : cn n (up1 A h t) x + (if A h = some x then 1 else 0) = cn n A x + (if x = t then 1 else 0) := by
  unfold cn ct
  have e1 := S_one hh (fun _ => if A h = some x then 1 else 0)
  have e2 := S_one hh (fun _ => if x = t then 1 else 0)
  rw [← e1, ← e2, ← S_add, ← S_add]
  refine S_congr (fun k hk => ?_)
  by_cases e : k = h
  · subst e
    simp only [up1, if_true, Option.some.injEq]
    by_cases e3 : t = x
    · by_cases e4 : A k = some x <;> simp [e3, e4]
    · by_cases e4 : A k = some x <;> simp [e3, e4, Ne.symm e3]
  · simp [up1, e]
/-- what is below a thing of L stands in R, and what stands in R has one of L ahead -/
def cz (b : Nat → Nat) (n : Nat) (A : Nat → Option Nat) (L R : Nat → Prop) : Prop := (∀ x < n, L x → ∀ h < n, (b h).testBit x = true → R h) ∧ ∀ h < n, R h → ∃ x, A h = some x ∧ L x
/-- what a search from t answers -/
def FS (M : Mem) (qa qs n : Nat) (b : Nat → Nat) (A : Nat → Option Nat) (t s : Nat) (z : Bool) (M' : Mem) : Prop :=
  Fr M M' [qa, qs] ∧ (∀ h < n, M qs h = iN s → M' qs h = iN s) ∧ (∀ h < n, M' qs h = iN s ∨ M' qs h = M qs h) ∧
  ∃ A', CH M' qa n A' ∧ (∀ h < n, M qs h = iN s → A' h = A h) ∧ (∀ h < n, ∀ x, A' h = some x → (b h).testBit x = true) ∧
  (z = true → ∀ x, cn n A' x = cn n A x + if x = t then 1 else 0) ∧
  (z = false → A' = A ∧ (∀ h < n, (b h).testBit t = true → M' qs h = iN s) ∧ ∀ h < n, M' qs h = iN s → M qs h ≠ iN s → ∃ x, A h = some x ∧ ∀ h' < n, (b h').testBit x = true → M' qs h' = iN s) ∧
  ∀ L R, cz b n A L R → (L t → z = false) ∧ ∀ h < n, R h → A' h = A h
theorem upM_ne2 {M : Mem} {k i a j : Nat} {x : Int32} (h : a ≠ k) : upM M k i x a j = M a j := by simp only [upM, if_neg h]
section RT
variable {q1 n qa qs : Nat} {b : Nat → Nat}
set_option maxRecDepth 100000 in
theorem s_findsFollower (hS : St b n) (hq : qa ≠ qs ∧ (q1 ≠ qa ∧ q1 + 1 ≠ qa) ∧ q1 ≠ qs ∧ q1 + 1 ≠ qs) {s : Nat} (hs : s < n) (d : Nat) : ∀ (M : Mem) (A : Nat → Option Nat) (t dp : Nat), OR M q1 n b → CH M qa n A → (∀ h < n, ∀ x, A h = some x → (b h).testBit x = true) → t < n → dp ≤ ct n (fun h => decide (M qs h = iN s)) → n + 1 ≤ d + ct n (fun h => decide (M qs h = iN s)) → ∃ z M', f_X0_findsFollower d (M, q1, qa, qs, iN t, iN s, iN dp) = some (bI z, M') ∧ FS M qa qs n b A t s z M' := by
  have h9 := hS.1
  induction d with
  | zero =>
    intro M A t dp h hA hE ht hdp hd
    have := ct_le (n := n) (p := fun h => decide (M qs h = iN s))
    omega
  | succ d ih =>
    intro M A t dp h hA hE ht hdp hd
    have hcl := ct_le (n := n) (p := fun h => decide (M qs h = iN s))
    unfold f_X0_findsFollower
    rw [lp_s]
    have e9 : ((9 : Int32) < iN dp) = False := by
      rw [show (9 : Int32) = iN 9 from rfl, iN_lt (by decide) (by omega)]; simp; omega
    have hht := hasThing_n h (k := t) (by omega)
    have e0 : b_X0_findsFollower (lp b_X0_findsFollower d) (M, q1, qa, qs, iN t, iN s, iN dp) = f_X0_findsFollower_L20 q1 qa qs (iN t) (iN s) (iN dp) (lp b_X0_findsFollower d) FU (0, M) := by
      unfold b_X0_findsFollower
      simp (disch := omega) only [e9, hht, ht, decide_true, iN_le, iN_lt, chk_inb, chk_t, clamp_iN, bd_some, iN_add, iN_s, iN_and, iN_or, iN_shl, e10, e01, e00, bI_0, bI_1, bI_t, bI_f, has_iN, bitc, within_iN, mk_or1, xhas_iN, add_z, if_true, if_false, ite_true, ite_false, reduceCtorEq, Bool.false_eq_true, Bool.true_and, Bool.false_and, Bool.and_true, Bool.and_false, Bool.not_true, Bool.not_false]
    rw [e0]
    have key : ∃ r : Int32 × Mem, f_X0_findsFollower_L20 q1 qa qs (iN t) (iN s) (iN dp) (lp b_X0_findsFollower d) FU (0, M) = some r ∧ ∃ z, r.1 = bI z ∧ FS M qa qs n b A t s z r.2 := by
      refine lp_to (fun j a => j ≤ n ∧ a.1 = iN j ∧ Fr M a.2 [qa, qs] ∧ CH a.2 qa n A ∧ (∀ h < n, M qs h = iN s → a.2 qs h = iN s) ∧ (∀ h < n, a.2 qs h = iN s ∨ a.2 qs h = M qs h) ∧ (∀ h < j, (b h).testBit t = true → a.2 qs h = iN s) ∧ ∀ h < n, a.2 qs h = iN s → M qs h ≠ iN s → ∃ x, A h = some x ∧ ∀ h' < n, (b h').testBit x = true → a.2 qs h' = iN s) n (FU_lt h9) ⟨by omega, rfl, Fr.refl _ _, hA, fun h _ e => e, fun h _ => Or.inr rfl, fun h hh => by omega, fun h _ e1 e2 => absurd e1 e2⟩ ?_
      rintro j ⟨a, M1⟩ ⟨hj, h0, hf, hA1, hv1, hv2, hv3, hv4⟩
      dsimp only at h0 hf hA1 hv1 hv2 hv3 hv4
      subst h0
      have h1 : OR M1 q1 n b := h.same (hf q1 (by simp [hq.2.1.1, hq.2.2.1])) (hf (q1 + 1) (by simp only [List.mem_cons, List.not_mem_nil, or_false, not_or]; exact ⟨hq.2.1.2, hq.2.2.2⟩))
      rcases Nat.lt_or_ge j n with hl | hl
      · have step : (∀ k : Int32 × Mem → Option (Int32 × Mem), g_X0_findsFollower_L20 q1 qa qs (iN t) (iN s) (iN dp) (lp b_X0_findsFollower d) k (iN j, M1) = k (iN (j + 1), M1)) → ((b j).testBit t = true → M1 qs j = iN s) → (j < n ∧ ∃ a', (fun j (a : Int32 × Mem) => j ≤ n ∧ a.1 = iN j ∧ Fr M a.2 [qa, qs] ∧ CH a.2 qa n A ∧ (∀ h < n, M qs h = iN s → a.2 qs h = iN s) ∧ (∀ h < n, a.2 qs h = iN s ∨ a.2 qs h = M qs h) ∧ (∀ h < j, (b h).testBit t = true → a.2 qs h = iN s) ∧ ∀ h < n, a.2 qs h = iN s → M qs h ≠ iN s → ∃ x, A h = some x ∧ ∀ h' < n, (b h').testBit x = true → a.2 qs h' = iN s) (j + 1) a' ∧ ∀ k, g_X0_findsFollower_L20 q1 qa qs (iN t) (iN s) (iN dp) (lp b_X0_findsFollower d) k (iN j, M1) = k a') := by
          intro hg hb
          refine ⟨hl, (iN (j + 1), M1), ⟨hl, rfl, hf, hA1, hv1, hv2, fun h hh hbt => ?_, hv4⟩, hg⟩
          by_cases e : h = j
          · subst e; exact hb hbt
          · exact hv3 h (by omega) hbt
        cases hb : (b j).testBit t
        · left
          exact step (fun k => by simp (disch := omega) only [g_X0_findsFollower_L20, h1.n, if_neg (show ¬ n ≤ j by omega), s_isBelow h1, hb, iN_le, iN_lt, chk_inb, chk_t, clamp_iN, bd_some, iN_add, iN_s, iN_and, iN_or, iN_shl, e10, e01, e00, bI_0, bI_1, bI_t, bI_f, has_iN, bitc, within_iN, mk_or1, xhas_iN, add_z, if_true, if_false, ite_true, ite_false, reduceCtorEq, Bool.false_eq_true, Bool.true_and, Bool.false_and, Bool.and_true, Bool.and_false, Bool.not_true, Bool.not_false]) (fun e => by rw [hb] at e; cases e)
        · by_cases hvj : M1 qs j = iN s
          · left
            exact step (fun k => by simp (disch := omega) only [g_X0_findsFollower_L20, h1.n, if_neg (show ¬ n ≤ j by omega), s_isBelow h1, hb, hvj, iN_le, iN_lt, chk_inb, chk_t, clamp_iN, bd_some, iN_add, iN_s, iN_and, iN_or, iN_shl, e10, e01, e00, bI_0, bI_1, bI_t, bI_f, has_iN, bitc, within_iN, mk_or1, xhas_iN, add_z, if_true, if_false, ite_true, ite_false, reduceCtorEq, Bool.false_eq_true, Bool.true_and, Bool.false_and, Bool.and_true, Bool.and_false, Bool.not_true, Bool.not_false]) (fun _ => hvj)
          · have hnv : M qs j ≠ iN s := fun e => hvj (hv1 j hl e)
            -- marked
            have hf53 : Fr M (upM M1 qs j (iN s)) [qa, qs] := hf.trans (Fr.up (by simp))
            have hq53 : ∀ h, upM M1 qs j (iN s) qa h = M1 qa h := fun h => by simp only [upM, if_neg hq.1]
            have hA53 : CH (upM M1 qs j (iN s)) qa n A := fun h hh => by rw [hq53]; exact hA1 h hh
            have h53 : OR (upM M1 qs j (iN s)) q1 n b := h.same (hf53 q1 (by simp [hq.2.1.1, hq.2.2.1])) (hf53 (q1 + 1) (by simp only [List.mem_cons, List.not_mem_nil, or_false, not_or]; exact ⟨hq.2.1.2, hq.2.2.2⟩))
            have hs53 : ∀ h, upM M1 qs j (iN s) qs h = if h = j then iN s else M1 qs h := fun h => upM_at
            cases hAj : A j with
            | none =>
              right
              have hj1 : upM M1 qs j (iN s) qa j = -1 := by rw [hq53, (hA1 j hl).1, hAj]; rfl
              refine ⟨(1, upM (upM M1 qs j (iN s)) qa j (iN t)), ⟨true, rfl, hf53.trans (Fr.up (by simp)), fun h hh e => ?_, fun h hh => ?_, up1 A j t, fun h hh => ?_, fun h hh e => ?_, fun h hh x e => ?_, fun _ x => ?_, fun e => (by cases e), fun L R hLR => ?_⟩, fun k => ?_⟩
              · dsimp only
                rw [upM_ne2 (Ne.symm hq.1), hs53]
                split
                · rfl
                · exact hv1 h hh e
              · dsimp only
                rw [upM_ne2 (Ne.symm hq.1), hs53]
                split
                · exact Or.inl rfl
                · exact hv2 h hh
              · dsimp only
                rw [upM_at]
                unfold up1
                split
                · exact ⟨rfl, fun t' e => by cases e; exact ht⟩
                · rw [hq53]; exact hA1 h hh
              · have : h ≠ j := fun e2 => hnv (e2 ▸ e)
                simp only [up1, if_neg this]
              · unfold up1 at e
                split at e
                · next e2 => cases e; rw [e2]; exact hb
                · exact hE h hh x e
              · have := cn_up (n := n) (A := A) (t := t) (x := x) hl
                rw [hAj] at this
                simpa using this
              · refine ⟨fun hLt => ?_, fun h hh hR => ?_⟩
                · obtain ⟨x, hx, -⟩ := hLR.2 j hl (hLR.1 t ht hLt j hl hb)
                  rw [hAj] at hx; cases hx
                · have : h ≠ j := fun e2 => by
                    obtain ⟨x, hx, -⟩ := hLR.2 h hh hR
                    rw [e2, hAj] at hx; cases hx
                  simp only [up1, if_neg this]
              · simp (disch := omega) only [g_X0_findsFollower_L20, h1.n, if_neg (show ¬ n ≤ j by omega), s_isBelow h1, hb, hvj, hj1, iN_le, iN_lt, chk_inb, chk_t, clamp_iN, bd_some, iN_add, iN_s, iN_and, iN_or, iN_shl, e10, e01, e00, bI_0, bI_1, bI_t, bI_f, has_iN, bitc, within_iN, mk_or1, xhas_iN, add_z, if_true, if_false, ite_true, ite_false, reduceCtorEq, Bool.false_eq_true, Bool.true_and, Bool.false_and, Bool.and_true, Bool.and_false, Bool.not_true, Bool.not_false]
            | some w =>
              have hw : w < n := (hA1 j hl).2 w hAj
              have hj1 : upM M1 qs j (iN s) qa j = iN w := by rw [hq53, (hA1 j hl).1, hAj]; rfl
              have hc1 : ct n (fun h => decide (M qs h = iN s)) + 1 ≤ ct n (fun h => decide (upM M1 qs j (iN s) qs h = iN s)) := by
                refine ct_lt (fun h hh e => ?_) ⟨j, hl, decide_eq_false hnv, decide_eq_true (by rw [hs53, if_pos rfl])⟩
                have e := of_decide_eq_true e
                refine decide_eq_true ?_
                rw [hs53]
                split
                · rfl
                · exact hv1 h hh e
              obtain ⟨z', M2, e2, hfr2, hm1, hm2, A2, hCH2, hk2, hE2, htr, hfa, hcz⟩ := ih (upM M1 qs j (iN s)) A w (dp + 1) h53 hA53 hE hw (by omega) (by omega)
              unfold f_X0_findsFollower at e2
              have hjv : M2 qs j = iN s := hm1 j hl (by rw [hs53, if_pos rfl])
              have hfr : Fr M M2 [qa, qs] := hf53.trans hfr2
              have hd1 : iN dp + 1 = iN (dp + 1) := iN_s dp
              cases z' with
              | false =>
                left
                obtain ⟨hA2, hN2, hC2⟩ := hfa rfl
                subst hA2
                refine ⟨hl, (iN (j + 1), M2), ⟨hl, rfl, hfr, hCH2, fun h hh e => hm1 h hh ?_, fun h hh => ?_, fun h hh hbt => ?_, fun h hh e1 e3 => ?_⟩, fun k => ?_⟩
                · rw [hs53]
                  split
                  · rfl
                  · exact hv1 h hh e
                · rcases hm2 h hh with e | e
                  · exact Or.inl e
                  · rw [hs53] at e
                    split at e
                    · exact Or.inl e
                    · rcases hv2 h hh with e3 | e3
                      · exact Or.inl (by rw [← e3]; exact e)
                      · exact Or.inr (by rw [← e3]; exact e)
                · by_cases e : h = j
                  · subst e; exact hjv
                  · refine hm1 h (by omega) ?_
                    rw [hs53, if_neg e]
                    exact hv3 h (by omega) hbt
                · by_cases ehj : h = j
                  · subst ehj
                    exact ⟨w, hAj, hN2⟩
                  · by_cases e53 : upM M1 qs j (iN s) qs h = iN s
                    · rw [hs53, if_neg ehj] at e53
                      obtain ⟨x, hx, hxx⟩ := hv4 h hh e53 e3
                      refine ⟨x, hx, fun h' hh' hb' => hm1 h' hh' ?_⟩
                      rw [hs53]
                      split
                      · rfl
                      · exact hxx h' hh' hb'
                    · exact hC2 h hh e1 e53
                · have hm0 : (iN w = -1) = False := oI_n (by omega)
                  simp (disch := omega) only [g_X0_findsFollower_L20, h1.n, if_neg (show ¬ n ≤ j by omega), s_isBelow h1, hb, hvj, hj1, hm0, e2, iN_le, iN_lt, chk_inb, chk_t, clamp_iN, bd_some, iN_add, iN_s, iN_and, iN_or, iN_shl, e10, e01, e00, bI_0, bI_1, bI_t, bI_f, has_iN, bitc, within_iN, mk_or1, xhas_iN, add_z, if_true, if_false, ite_true, ite_false, reduceCtorEq, Bool.false_eq_true, Bool.true_and, Bool.false_and, Bool.and_true, Bool.and_false, Bool.not_true, Bool.not_false]
              | true =>
                right
                have hA2j : A2 j = some w := by rw [hk2 j hl (by rw [hs53, if_pos rfl]), hAj]
                refine ⟨(1, upM M2 qa j (iN t)), ⟨true, rfl, hfr.trans (Fr.up (by simp)), fun h hh e => ?_, fun h hh => ?_, up1 A2 j t, fun h hh => ?_, fun h hh e => ?_, fun h hh x e => ?_, fun _ x => ?_, fun e => (by cases e), fun L R hLR => ?_⟩, fun k => ?_⟩
                · dsimp only
                  rw [upM_ne2 (Ne.symm hq.1)]
                  refine hm1 h hh ?_
                  rw [hs53]
                  split
                  · rfl
                  · exact hv1 h hh e
                · dsimp only
                  rw [upM_ne2 (Ne.symm hq.1)]
                  rcases hm2 h hh with e | e
                  · exact Or.inl e
                  · rw [hs53] at e
                    split at e
                    · exact Or.inl e
                    · rcases hv2 h hh with e3 | e3
                      · exact Or.inl (by rw [← e3]; exact e)
                      · exact Or.inr (by rw [← e3]; exact e)
                · dsimp only
                  rw [upM_at]
                  unfold up1
                  split
                  · exact ⟨rfl, fun t' e => by cases e; exact ht⟩
                  · exact hCH2 h hh
                · have : h ≠ j := fun e2 => hnv (e2 ▸ e)
                  simp only [up1, if_neg this]
                  refine hk2 h hh ?_
                  rw [hs53, if_neg this]
                  exact hv1 h hh e
                · unfold up1 at e
                  split at e
                  · next e2 => cases e; rw [e2]; exact hb
                  · exact hE2 h hh x e
                · have e3 := cn_up (n := n) (A := A2) (t := t) (x := x) hl
                  have e4 := htr rfl x
                  rw [hA2j] at e3
                  simp only [Option.some.injEq] at e3
                  by_cases ex : w = x
                  · rw [if_pos ex] at e3
                    rw [if_pos ex.symm] at e4
                    omega
                  · rw [if_neg ex] at e3
                    rw [if_neg (Ne.symm ex)] at e4
                    omega
                · have hnLw : ¬ L w := fun hLw => by
                    have := (hcz L R hLR).1 hLw
                    cases this
                  have hnRj : ¬ R j := fun hRj => by
                    obtain ⟨x, hx, hLx⟩ := hLR.2 j hl hRj
                    rw [hAj] at hx
                    cases hx
                    exact hnLw hLx
                  refine ⟨fun hLt => absurd (hLR.1 t ht hLt j hl hb) hnRj, fun h hh hR => ?_⟩
                  have : h ≠ j := fun e2 => hnRj (e2 ▸ hR)
                  simp only [up1, if_neg this]
                  exact (hcz L R hLR).2 h hh hR
                · have hm0 : (iN w = -1) = False := oI_n (by omega)
                  simp (disch := omega) only [g_X0_findsFollower_L20, h1.n, if_neg (show ¬ n ≤ j by omega), s_isBelow h1, hb, hvj, hj1, hm0, e2, iN_le, iN_lt, chk_inb, chk_t, clamp_iN, bd_some, iN_add, iN_s, iN_and, iN_or, iN_shl, e10, e01, e00, bI_0, bI_1, bI_t, bI_f, has_iN, bitc, within_iN, mk_or1, xhas_iN, add_z, if_true, if_false, ite_true, ite_false, reduceCtorEq, Bool.false_eq_true, Bool.true_and, Bool.false_and, Bool.and_true, Bool.and_false, Bool.not_true, Bool.not_false]
      · right
        have e : j = n := by omega
        subst e
        refine ⟨(0, M1), ⟨false, rfl, hf, hv1, hv2, A, hA1, fun _ _ _ => rfl, hE, fun e => (by cases e), fun _ => ⟨rfl, fun h hh hb => hv3 h hh hb, hv4⟩, fun L R hLR => ⟨fun _ => rfl, fun _ _ _ => rfl⟩⟩, fun k => ?_⟩
        simp (disch := omega) only [g_X0_findsFollower_L20, h1.n, if_pos (Nat.le_refl j), iN_le, iN_lt, chk_inb, chk_t, clamp_iN, bd_some, iN_add, iN_s, iN_and, iN_or, iN_shl, e10, e01, e00, bI_0, bI_1, bI_t, bI_f, has_iN, bitc, within_iN, mk_or1, xhas_iN, add_z, if_true, if_false, ite_true, ite_false, reduceCtorEq, Bool.false_eq_true, Bool.true_and, Bool.false_and, Bool.and_true, Bool.and_false, Bool.not_true, Bool.not_false]
    obtain ⟨⟨r1, r2⟩, hr, z, hz, hFS⟩ := key
    dsimp only at hz hFS
    subst hz
    exact ⟨z, r2, hr, hFS⟩
end RT
