/-! ===== the class's fewest chains ===== -/
section DW
variable {n : Nat} {b : Nat → Nat}
theorem cover_end (hS : St b n) {A : Nat → Option Nat} (hE : Ed b n A) {F : Nat → Bool} (hC : ∀ x < n, cn n A x = if F x then 0 else 1) {L R : Nat → Prop} (hz : cz b n A L R) (hF : ∀ x < n, F x = true → L x) : ct n F = wd b n ∧ dd b n true (2 ^ n - 1) = wd b n := by
  have h1 := dd_le hS hE hC
  have h2 := wd_le_F hS hE hC hz hF
  have h3 := wd_dd hS
  omega
theorem ct_ext {n : Nat} {F G : Nat → Bool} (h : ∀ k < n, F k = G k) : ct n F = ct n G := ct_congr h
set_option maxRecDepth 100000 in
theorem s_chainCover {M : Mem} {q0 q1 : Nat} (hS : St b n) (h : OR M q1 n b) (hq : (q1 ≠ q0 + 1 ∧ q1 + 1 ≠ q0 + 1) ∧ q1 ≠ q0 + 2 ∧ q1 + 1 ≠ q0 + 2) : ∃ r, f_X0_chainCover M q0 q1 = some r ∧ (r.1 = iN (wd b n) ∧ Fr M r.2 [q0 + 1, q0 + 2] ∧ dd b n true (2 ^ n - 1) = wd b n) := by
  have h9 := h.le
  have hne : q0 + 1 ≠ q0 + 2 := by omega
  refine lp_to (fun j a => j ≤ 9 ∧ a.1 = iN j ∧ Fr M a.2 [q0 + 1, q0 + 2] ∧ ∀ k < j, a.2 (q0 + 1) k = -1 ∧ a.2 (q0 + 2) k = -1) 9 (FU_lt (Nat.le_refl 9)) ⟨by omega, rfl, Fr.refl _ _, fun k hk => by omega⟩ ?_
  rintro j ⟨a, M1⟩ ⟨hj, h0, hf, hm⟩
  dsimp only at h0 hf hm
  subst h0
  have e9 : (9 : Int32) = iN 9 := rfl
  rcases Nat.lt_or_ge j 9 with hl | hl
  · left
    refine ⟨hl, (iN (j + 1), upM (upM M1 (q0 + 1) j (-1)) (q0 + 2) j (-1)), ⟨hl, rfl, (hf.trans (Fr.up (by simp))).trans (Fr.up (by simp)), fun k hk => ?_⟩, fun k => ?_⟩
    · dsimp only
      rw [upM_ne2 hne, upM_at, upM_at, upM_ne2 hne.symm]
      by_cases e : k = j
      · simp [e]
      · simp only [if_neg e]; exact hm k (by omega)
    · simp (disch := omega) only [g_X0_chainCover_L2, e9, if_neg (show ¬ 9 ≤ j by omega), iN_le, iN_lt, chk_inb, chk_t, clamp_iN, bd_some, iN_add, iN_s, iN_and, iN_or, iN_shl, e10, e01, e00, bI_0, bI_1, bI_t, bI_f, has_iN, bitc, within_iN, mk_or1, xhas_iN, add_z, if_true, if_false, ite_true, ite_false, reduceCtorEq, Bool.false_eq_true, Bool.true_and, Bool.false_and, Bool.and_true, Bool.and_false, Bool.not_true, Bool.not_false]
  · right
    have e : j = 9 := by omega
    subst e
    have h1 : OR M1 q1 n b := h.same (hf q1 (by simp [hq.1.1, hq.2.1])) (hf (q1 + 1) (by simp only [List.mem_cons, List.not_mem_nil, or_false, not_or]; exact ⟨hq.1.2, hq.2.2⟩))
    have key : ∃ r, f_X0_chainCover_L35 q0 q1 FU (iN n, 0, M1) = some r ∧ (r.1 = iN (wd b n) ∧ Fr M r.2 [q0 + 1, q0 + 2] ∧ dd b n true (2 ^ n - 1) = wd b n) := by
      refine lp_to (fun t a => t ≤ n ∧ a.2.1 = iN t ∧ Fr M a.2.2 [q0 + 1, q0 + 2] ∧ ∃ (A : Nat → Option Nat) (F : Nat → Bool) (L R : Nat → Prop), a.1 = iN (n - t + ct t F) ∧ CH a.2.2 (q0 + 1) n A ∧ (∀ h < n, ∀ x, A h = some x → (b h).testBit x = true) ∧ (∀ h < n, ∀ s, t ≤ s → s < n → a.2.2 (q0 + 2) h ≠ iN s) ∧ (∀ x < n, cn n A x = if x < t then (if F x then 0 else 1) else 0) ∧ cz b n A L R ∧ ∀ x < t, F x = true → L x) n (FU_lt h9) ⟨by omega, rfl, hf, fun _ => none, fun _ => false, fun _ => False, fun _ => False, by simp [ct, S], fun h hh => ⟨?_, fun t e => by cases e⟩, fun h hh x e => (by cases e), fun h hh s _ hs => ?_, fun x hx => ?_, ⟨fun x _ e => e.elim, fun h _ e => e.elim⟩, fun x hx => by omega⟩ ?_
      · exact (hm h (by omega)).1
      · show M1 (q0 + 2) h ≠ iN s
        rw [(hm h (by omega)).2]
        intro e
        have := oI_n (c := s) (by omega)
        rw [← e] at this
        simp at this
      · have e0 : cn n (fun _ => none) x = 0 := S_0.mpr (fun k _ => by simp)
        rw [e0]; simp
      · rintro t ⟨a1, a2, M2⟩ ⟨ht, e2, hf2, A, F, L, R, e1, hA, hE, hv, hC, hz, hFL⟩
        dsimp only at e2 hf2 e1 hA hv
        subst e2 e1
        have h2 : OR M2 q1 n b := h.same (hf2 q1 (by simp [hq.1.1, hq.2.1])) (hf2 (q1 + 1) (by simp only [List.mem_cons, List.not_mem_nil, or_false, not_or]; exact ⟨hq.1.2, hq.2.2⟩))
        rcases Nat.lt_or_ge t n with hl | hl
        · left
          have hc0 : ct n (fun h => decide (M2 (q0 + 2) h = iN t)) = 0 := S_0.mpr (fun k hk => by
            dsimp only
            rw [decide_eq_false (hv k hk t (Nat.le_refl t) hl)]; rfl)
          obtain ⟨z, M3, e3, hfr, hm1, hm2, A', hA', -, hE', htr, hfa, hcz⟩ := s_findsFollower (qa := q0 + 1) (qs := q0 + 2) hS ⟨hne, hq.1, hq.2⟩ hl RD M2 A t 0 h2 hA hE hl (by omega) (by rw [hc0]; unfold RD; omega)
          have hctF := ct_le (n := t) (p := F)
          have hv3 : ∀ h < n, ∀ s, t + 1 ≤ s → s < n → M3 (q0 + 2) h ≠ iN s := fun h hh s hs hsn e => by
            rcases hm2 h hh with e4 | e4
            · rw [e4, iN_eq (by omega) (by omega)] at e; omega
            · rw [e4] at e; exact hv h hh s (by omega) hsn e
          rw [show iN 0 = (0 : Int32) from rfl] at e3
          cases z with
          | true =>
            refine ⟨hl, (iN (n - (t + 1) + ct (t + 1) (fun x => if x = t then false else F x)), iN (t + 1), M3), ⟨hl, rfl, hf2.trans hfr, A', fun x => if x = t then false else F x, L, R, rfl, hA', hE', hv3, fun x hx => ?_, ⟨hz.1, fun h hh hR => ?_⟩, fun x hx hF => ?_⟩, fun k => ?_⟩
            · rw [htr rfl x, hC x hx]
              by_cases e : x = t
              · subst e; simp
              · by_cases e4 : x < t
                · simp [e, e4, show x < t + 1 by omega]
                · simp [e, e4, show ¬ x < t + 1 by omega]
            · rw [(hcz L R hz).2 h hh hR]; exact hz.2 h hh hR
            · by_cases e : x = t
              · simp [e] at hF
              · simp only [if_neg e] at hF
                exact hFL x (by omega) hF
            · have hct : ct (t + 1) (fun x => if x = t then false else F x) = ct t F := by
                rw [ct_s, if_pos rfl, ct_congr (q := F) (fun k hk => if_neg (by omega))]; rfl
              have hsub : iN (n - t + ct t F) + (-1) = iN (n - (t + 1) + ct t F) := by
                have e5 : n - t + ct t F = (n - (t + 1) + ct t F) + 1 := by omega
                rw [e5, ← iN_s, Int32.add_assoc, show (1 : Int32) + -1 = 0 by decide, Int32.add_zero]
              rw [hct, ← hsub]
              simp (disch := omega) only [g_X0_chainCover_L35, h2.n, if_neg (show ¬ n ≤ t by omega), e3, iN_le, iN_lt, chk_inb, chk_t, clamp_iN, bd_some, iN_add, iN_s, iN_and, iN_or, iN_shl, e10, e01, e00, bI_0, bI_1, bI_t, bI_f, has_iN, bitc, within_iN, mk_or1, xhas_iN, add_z, if_true, if_false, ite_true, ite_false, reduceCtorEq, Bool.false_eq_true, Bool.true_and, Bool.false_and, Bool.and_true, Bool.and_false, Bool.not_true, Bool.not_false]
          | false =>
            obtain ⟨hAA, hN, hK⟩ := hfa rfl
            subst hAA
            refine ⟨hl, (iN (n - (t + 1) + ct (t + 1) (fun x => if x = t then true else F x)), iN (t + 1), M3), ⟨hl, rfl, hf2.trans hfr, A', fun x => if x = t then true else F x, fun x => L x ∨ x = t ∨ ∃ h, h < n ∧ M3 (q0 + 2) h = iN t ∧ A' h = some x, fun h => R h ∨ (h < n ∧ M3 (q0 + 2) h = iN t), rfl, hA', hE', hv3, fun x hx => ?_, ⟨fun x hx hLx h hh hb => ?_, fun h hh hR => ?_⟩, fun x hx hF => ?_⟩, fun k => ?_⟩
            · rw [hC x hx]
              by_cases e : x = t
              · subst e; simp
              · by_cases e4 : x < t
                · simp [e, e4, show x < t + 1 by omega]
                · simp [e4, show ¬ x < t + 1 by omega]
            · rcases hLx with hL1 | hL1 | ⟨g, hg, hg1, hg2⟩
              · exact Or.inl (hz.1 x hx hL1 h hh hb)
              · subst hL1; exact Or.inr ⟨hh, hN h hh hb⟩
              · obtain ⟨x', hx', hx2⟩ := hK g hg hg1 (hv g hg t (Nat.le_refl t) hl)
                rw [hg2] at hx'
                cases hx'
                exact Or.inr ⟨hh, hx2 h hh hb⟩
            · rcases hR with hR | ⟨-, hR⟩
              · obtain ⟨x, hx, hLx⟩ := hz.2 h hh hR
                exact ⟨x, hx, Or.inl hLx⟩
              · obtain ⟨x', hx', -⟩ := hK h hh hR (hv h hh t (Nat.le_refl t) hl)
                exact ⟨x', hx', Or.inr (Or.inr ⟨h, hh, hR, hx'⟩)⟩
            · by_cases e : x = t
              · exact Or.inr (Or.inl e)
              · simp only [if_neg e] at hF
                exact Or.inl (hFL x (by omega) hF)
            · have hct : ct (t + 1) (fun x => if x = t then true else F x) = ct t F + 1 := by
                rw [ct_s, if_pos rfl, ct_congr (q := F) (fun k hk => if_neg (by omega))]; rfl
              rw [hct, show n - (t + 1) + (ct t F + 1) = n - t + ct t F by omega]
              simp (disch := omega) only [g_X0_chainCover_L35, h2.n, if_neg (show ¬ n ≤ t by omega), e3, iN_le, iN_lt, chk_inb, chk_t, clamp_iN, bd_some, iN_add, iN_s, iN_and, iN_or, iN_shl, e10, e01, e00, bI_0, bI_1, bI_t, bI_f, has_iN, bitc, within_iN, mk_or1, xhas_iN, add_z, if_true, if_false, ite_true, ite_false, reduceCtorEq, Bool.false_eq_true, Bool.true_and, Bool.false_and, Bool.and_true, Bool.and_false, Bool.not_true, Bool.not_false]
        · right
          have e : t = n := by omega
          subst e
          have hEd : Ed b t A := fun h hh x e => ⟨(hA h hh).2 x e, hE h hh x e⟩
          obtain ⟨c1, c2⟩ := cover_end hS hEd (F := F) (fun x hx => by rw [hC x hx, if_pos hx]) hz hFL
          refine ⟨(iN (wd b t), M2), ⟨rfl, hf2, c2⟩, fun k => ?_⟩
          simp (disch := omega) only [g_X0_chainCover_L35, h2.n, if_pos (Nat.le_refl t), Nat.sub_self, Nat.zero_add, c1, iN_le, iN_lt, chk_inb, chk_t, clamp_iN, bd_some, iN_add, iN_s, iN_and, iN_or, iN_shl, e10, e01, e00, bI_0, bI_1, bI_t, bI_f, has_iN, bitc, within_iN, mk_or1, xhas_iN, add_z, if_true, if_false, ite_true, ite_false, reduceCtorEq, Bool.false_eq_true, Bool.true_and, Bool.false_and, Bool.and_true, Bool.and_false, Bool.not_true, Bool.not_false]
    obtain ⟨r, er, hr⟩ := key
    refine ⟨r, hr, fun k => ?_⟩
    simp (disch := omega) only [g_X0_chainCover_L2, e9, if_pos (Nat.le_refl 9), h1.n, er, iN_le, iN_lt, chk_inb, chk_t, clamp_iN, bd_some, iN_add, iN_s, iN_and, iN_or, iN_shl, e10, e01, e00, bI_0, bI_1, bI_t, bI_f, has_iN, bitc, within_iN, mk_or1, xhas_iN, add_z, if_true, if_false, ite_true, ite_false, reduceCtorEq, Bool.false_eq_true, Bool.true_and, Bool.false_and, Bool.and_true, Bool.and_false, Bool.not_true, Bool.not_false]
theorem dd_true {M : Mem} {q0 q1 : Nat} (hS : St b n) (h : OR M q1 n b) (hq : (q1 ≠ q0 + 1 ∧ q1 + 1 ≠ q0 + 1) ∧ q1 ≠ q0 + 2 ∧ q1 + 1 ≠ q0 + 2) : dd b n true (2 ^ n - 1) = wd b n := by
  obtain ⟨r, -, hr⟩ := s_chainCover hS h hq
  exact hr.2.2
end DW
