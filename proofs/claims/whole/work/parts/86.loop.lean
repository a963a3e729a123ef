/-! ===== the law's loop ===== -/
section LO
variable {p : Program} {l : Launch} {e : Env} {s : State} {m : MethodId} {args : Array Value} {below : List Frame} {meth : Method} {c : Code} {B : Nat} {D : va_G} {Y : Nat → ClassId} {o : Ou} {Q : State → Prop} {b LN : Nat} {xs : Nat → Int32} {k sl : Nat}
def tgL : List Nat := [280, 348, 416, 484, 552, 620, 700, 780, 860, 928, 984, 1052, 1132, 1212, 1292, 1348, 1404, 1460, 1540, 1627, 1695, 1763, 1847, 1915, 1990, 2065, 2140, 2208, 2264, 2320, 2376, 2432, 2488, 2544, 2612, 2680, 2748, 2830, 2898, 2966, 3034, 3102, 3158, 3226, 3294, 3362, 3442, 3522, 3611, 3713, 3781, 3861, 3929, 3992, 4067]
set_option maxHeartbeats 2000000 in
theorem law_case (C : Cx p s m args c cL_law 9 RL B D Y) (hX : XI B s) (hl9 : l.stackTraces = false) (hXs : va_X b LN xs s s.heap) (hbl : b < s.heap.size) (hbA : ¬ B ≤ b) {M : Mem} {x5 : Int32} (h1 : vp_in (x5 + 1) LN) (h2 : vp_in (x5 + 2) LN) (h3 : vp_in (x5 + 3) LN) (hkc : k + 4 ≤ room_1.cells) (hks : sl + 24 ≤ room_1.slots) (hJ : J M) (K : ∀ M2 o2, J M2 → At p l e room_1 s m args below meth c 9 (k + 4) (sl + 24) Q B D Y o2 4081 M2 [(0, .ref b), (1, .ref (B + 0)), (2, .ref (B + 47)), (3, .ref (B + 110)), (4, .ref (B + 111)), (5, .int x5)] []) : ∀ j, j < 55 → At p l e room_1 s m args below meth c 9 k sl Q B D Y o (tgL.getD j 0) M [(0, .ref b), (1, .ref (B + 0)), (2, .ref (B + 47)), (3, .ref (B + 110)), (4, .ref (B + 111)), (5, .int x5)] [] := fun j hj => by
  match j, hj with
  | 0, _ =>
    obtain ⟨M2, hf, hJ2⟩ := c_0 (a1 := xs (x5 + 1).toNatClampNeg) (a2 := xs (x5 + 2).toNatClampNeg) (a3 := xs (x5 + 3).toNatClampNeg) hJ
    exact w_law_0 C hX hl9 hXs hbl hbA h1 h2 h3 rfl rfl rfl hkc hks hf (fun o2 => K M2 o2 hJ2)
  | 1, _ =>
    obtain ⟨M2, hf, hJ2⟩ := c_1 (a1 := xs (x5 + 1).toNatClampNeg) (a2 := xs (x5 + 2).toNatClampNeg) (a3 := xs (x5 + 3).toNatClampNeg) hJ
    exact w_law_1 C hX hl9 hXs hbl hbA h1 h2 h3 rfl rfl rfl hkc hks hf (fun o2 => K M2 o2 hJ2)
  | 2, _ =>
    obtain ⟨M2, hf, hJ2⟩ := c_2 (a1 := xs (x5 + 1).toNatClampNeg) (a2 := xs (x5 + 2).toNatClampNeg) (a3 := xs (x5 + 3).toNatClampNeg) hJ
    exact w_law_2 C hX hl9 hXs hbl hbA h1 h2 h3 rfl rfl rfl hkc hks hf (fun o2 => K M2 o2 hJ2)
  | 3, _ =>
    obtain ⟨M2, hf, hJ2⟩ := c_3 (a1 := xs (x5 + 1).toNatClampNeg) (a2 := xs (x5 + 2).toNatClampNeg) (a3 := xs (x5 + 3).toNatClampNeg) hJ
    exact w_law_3 C hX hl9 hXs hbl hbA h1 h2 h3 rfl rfl rfl hkc hks hf (fun o2 => K M2 o2 hJ2)
  | 4, _ =>
    obtain ⟨M2, hf, hJ2⟩ := c_4 (a1 := xs (x5 + 1).toNatClampNeg) (a2 := xs (x5 + 2).toNatClampNeg) (a3 := xs (x5 + 3).toNatClampNeg) hJ
    exact w_law_4 C hX hl9 hXs hbl hbA h1 h2 h3 rfl rfl rfl hkc hks hf (fun o2 => K M2 o2 hJ2)
  | 5, _ =>
    obtain ⟨M2, hf, hJ2⟩ := c_5 (a1 := xs (x5 + 1).toNatClampNeg) (a2 := xs (x5 + 2).toNatClampNeg) (a3 := xs (x5 + 3).toNatClampNeg) hJ
    exact w_law_5 C hX hl9 hXs hbl hbA h1 h2 h3 rfl rfl rfl hkc hks hf (fun o2 => K M2 o2 hJ2)
  | 6, _ =>
    obtain ⟨M2, hf, hJ2⟩ := c_6 (a1 := xs (x5 + 1).toNatClampNeg) (a2 := xs (x5 + 2).toNatClampNeg) (a3 := xs (x5 + 3).toNatClampNeg) hJ
    exact w_law_6 C hX hl9 hXs hbl hbA h1 h2 h3 rfl rfl rfl hkc hks hf (fun o2 => K M2 o2 hJ2)
  | 7, _ =>
    obtain ⟨M2, hf, hJ2⟩ := c_7 (a1 := xs (x5 + 1).toNatClampNeg) (a2 := xs (x5 + 2).toNatClampNeg) (a3 := xs (x5 + 3).toNatClampNeg) hJ
    exact w_law_7 C hX hl9 hXs hbl hbA h1 h2 h3 rfl rfl rfl hkc hks hf (fun o2 => K M2 o2 hJ2)
  | 8, _ =>
    obtain ⟨M2, hf, hJ2⟩ := c_8 (a1 := xs (x5 + 1).toNatClampNeg) (a2 := xs (x5 + 2).toNatClampNeg) (a3 := xs (x5 + 3).toNatClampNeg) hJ
    exact w_law_8 C hX hl9 hXs hbl hbA h1 h2 h3 rfl rfl rfl hkc hks hf (fun o2 => K M2 o2 hJ2)
  | 9, _ =>
    obtain ⟨M2, hf, hJ2⟩ := c_9 (a1 := xs (x5 + 1).toNatClampNeg) (a2 := xs (x5 + 2).toNatClampNeg) (a3 := xs (x5 + 3).toNatClampNeg) hJ
    exact w_law_9 C hX hl9 hXs hbl hbA h1 h2 h3 rfl rfl rfl hkc hks hf (fun o2 => K M2 o2 hJ2)
  | 10, _ =>
    obtain ⟨M2, hf, hJ2⟩ := c_10 (a1 := xs (x5 + 1).toNatClampNeg) (a2 := xs (x5 + 2).toNatClampNeg) (a3 := xs (x5 + 3).toNatClampNeg) hJ
    exact w_law_10 C hX hl9 hXs hbl hbA h1 h2 h3 rfl rfl rfl hkc hks hf (fun o2 => K M2 o2 hJ2)
  | 11, _ =>
    obtain ⟨M2, hf, hJ2⟩ := c_11 (a1 := xs (x5 + 1).toNatClampNeg) (a2 := xs (x5 + 2).toNatClampNeg) (a3 := xs (x5 + 3).toNatClampNeg) hJ
    exact w_law_11 C hX hl9 hXs hbl hbA h1 h2 h3 rfl rfl rfl hkc hks hf (fun o2 => K M2 o2 hJ2)
  | 12, _ =>
    obtain ⟨M2, hf, hJ2⟩ := c_12 (a1 := xs (x5 + 1).toNatClampNeg) (a2 := xs (x5 + 2).toNatClampNeg) (a3 := xs (x5 + 3).toNatClampNeg) hJ
    exact w_law_12 C hX hl9 hXs hbl hbA h1 h2 h3 rfl rfl rfl hkc hks hf (fun o2 => K M2 o2 hJ2)
  | 13, _ =>
    obtain ⟨M2, hf, hJ2⟩ := c_13 (a1 := xs (x5 + 1).toNatClampNeg) (a2 := xs (x5 + 2).toNatClampNeg) (a3 := xs (x5 + 3).toNatClampNeg) hJ
    exact w_law_13 C hX hl9 hXs hbl hbA h1 h2 h3 rfl rfl rfl hkc hks hf (fun o2 => K M2 o2 hJ2)
  | 14, _ =>
    obtain ⟨M2, hf, hJ2⟩ := c_14 (a1 := xs (x5 + 1).toNatClampNeg) (a2 := xs (x5 + 2).toNatClampNeg) (a3 := xs (x5 + 3).toNatClampNeg) hJ
    exact w_law_14 C hX hl9 hXs hbl hbA h1 h2 h3 rfl rfl rfl hkc hks hf (fun o2 => K M2 o2 hJ2)
  | 15, _ =>
    obtain ⟨M2, hf, hJ2⟩ := c_15 (a1 := xs (x5 + 1).toNatClampNeg) (a2 := xs (x5 + 2).toNatClampNeg) (a3 := xs (x5 + 3).toNatClampNeg) hJ
    exact w_law_15 C hX hl9 hXs hbl hbA h1 h2 h3 rfl rfl rfl hkc hks hf (fun o2 => K M2 o2 hJ2)
  | 16, _ =>
    obtain ⟨M2, hf, hJ2⟩ := c_16 (a1 := xs (x5 + 1).toNatClampNeg) (a2 := xs (x5 + 2).toNatClampNeg) (a3 := xs (x5 + 3).toNatClampNeg) hJ
    exact w_law_16 C hX hl9 hXs hbl hbA h1 h2 h3 rfl rfl rfl hkc hks hf (fun o2 => K M2 o2 hJ2)
  | 17, _ =>
    obtain ⟨M2, hf, hJ2⟩ := c_17 (a1 := xs (x5 + 1).toNatClampNeg) (a2 := xs (x5 + 2).toNatClampNeg) (a3 := xs (x5 + 3).toNatClampNeg) hJ
    exact w_law_17 C hX hl9 hXs hbl hbA h1 h2 h3 rfl rfl rfl hkc hks hf (fun o2 => K M2 o2 hJ2)
  | 18, _ =>
    obtain ⟨M2, hf, hJ2⟩ := c_18 (a1 := xs (x5 + 1).toNatClampNeg) (a2 := xs (x5 + 2).toNatClampNeg) (a3 := xs (x5 + 3).toNatClampNeg) hJ
    exact w_law_18 C hX hl9 hXs hbl hbA h1 h2 h3 rfl rfl rfl hkc hks hf (fun o2 => K M2 o2 hJ2)
  | 19, _ =>
    obtain ⟨M2, hf, hJ2⟩ := c_19 (a1 := xs (x5 + 1).toNatClampNeg) (a2 := xs (x5 + 2).toNatClampNeg) (a3 := xs (x5 + 3).toNatClampNeg) hJ
    exact w_law_19 C hX hl9 hXs hbl hbA h1 h2 h3 rfl rfl rfl hkc hks hf (fun o2 => K M2 o2 hJ2)
  | 20, _ =>
    obtain ⟨M2, hf, hJ2⟩ := c_20 (a1 := xs (x5 + 1).toNatClampNeg) (a2 := xs (x5 + 2).toNatClampNeg) (a3 := xs (x5 + 3).toNatClampNeg) hJ
    exact w_law_20 C hX hl9 hXs hbl hbA h1 h2 h3 rfl rfl rfl hkc hks hf (fun o2 => K M2 o2 hJ2)
  | 21, _ =>
    obtain ⟨M2, hf, hJ2⟩ := c_21 (a1 := xs (x5 + 1).toNatClampNeg) (a2 := xs (x5 + 2).toNatClampNeg) (a3 := xs (x5 + 3).toNatClampNeg) hJ
    exact w_law_21 C hX hl9 hXs hbl hbA h1 h2 h3 rfl rfl rfl hkc hks hf (fun o2 => K M2 o2 hJ2)
  | 22, _ =>
    obtain ⟨M2, hf, hJ2⟩ := c_22 (a1 := xs (x5 + 1).toNatClampNeg) (a2 := xs (x5 + 2).toNatClampNeg) (a3 := xs (x5 + 3).toNatClampNeg) hJ
    exact w_law_22 C hX hl9 hXs hbl hbA h1 h2 h3 rfl rfl rfl hkc hks hf (fun o2 => K M2 o2 hJ2)
  | 23, _ =>
    obtain ⟨M2, hf, hJ2⟩ := c_23 (a1 := xs (x5 + 1).toNatClampNeg) (a2 := xs (x5 + 2).toNatClampNeg) (a3 := xs (x5 + 3).toNatClampNeg) hJ
    exact w_law_23 C hX hl9 hXs hbl hbA h1 h2 h3 rfl rfl rfl hkc hks hf (fun o2 => K M2 o2 hJ2)
  | 24, _ =>
    obtain ⟨M2, hf, hJ2⟩ := c_24 (a1 := xs (x5 + 1).toNatClampNeg) (a2 := xs (x5 + 2).toNatClampNeg) (a3 := xs (x5 + 3).toNatClampNeg) hJ
    exact w_law_24 C hX hl9 hXs hbl hbA h1 h2 h3 rfl rfl rfl hkc hks hf (fun o2 => K M2 o2 hJ2)
  | 25, _ =>
    obtain ⟨M2, hf, hJ2⟩ := c_25 (a1 := xs (x5 + 1).toNatClampNeg) (a2 := xs (x5 + 2).toNatClampNeg) (a3 := xs (x5 + 3).toNatClampNeg) hJ
    exact w_law_25 C hX hl9 hXs hbl hbA h1 h2 h3 rfl rfl rfl hkc hks hf (fun o2 => K M2 o2 hJ2)
  | 26, _ =>
    obtain ⟨M2, hf, hJ2⟩ := c_26 (a1 := xs (x5 + 1).toNatClampNeg) (a2 := xs (x5 + 2).toNatClampNeg) (a3 := xs (x5 + 3).toNatClampNeg) hJ
    exact w_law_26 C hX hl9 hXs hbl hbA h1 h2 h3 rfl rfl rfl hkc hks hf (fun o2 => K M2 o2 hJ2)
  | 27, _ =>
    obtain ⟨M2, hf, hJ2⟩ := c_27 (a1 := xs (x5 + 1).toNatClampNeg) (a2 := xs (x5 + 2).toNatClampNeg) (a3 := xs (x5 + 3).toNatClampNeg) hJ
    exact w_law_27 C hX hl9 hXs hbl hbA h1 h2 h3 rfl rfl rfl hkc hks hf (fun o2 => K M2 o2 hJ2)
  | 28, _ =>
    obtain ⟨M2, hf, hJ2⟩ := c_28 (a1 := xs (x5 + 1).toNatClampNeg) (a2 := xs (x5 + 2).toNatClampNeg) (a3 := xs (x5 + 3).toNatClampNeg) hJ
    exact w_law_28 C hX hl9 hXs hbl hbA h1 h2 h3 rfl rfl rfl hkc hks hf (fun o2 => K M2 o2 hJ2)
  | 29, _ =>
    obtain ⟨M2, hf, hJ2⟩ := c_29 (a1 := xs (x5 + 1).toNatClampNeg) (a2 := xs (x5 + 2).toNatClampNeg) (a3 := xs (x5 + 3).toNatClampNeg) hJ
    exact w_law_29 C hX hl9 hXs hbl hbA h1 h2 h3 rfl rfl rfl hkc hks hf (fun o2 => K M2 o2 hJ2)
  | 30, _ =>
    obtain ⟨M2, hf, hJ2⟩ := c_30 (a1 := xs (x5 + 1).toNatClampNeg) (a2 := xs (x5 + 2).toNatClampNeg) (a3 := xs (x5 + 3).toNatClampNeg) hJ
    exact w_law_30 C hX hl9 hXs hbl hbA h1 h2 h3 rfl rfl rfl hkc hks hf (fun o2 => K M2 o2 hJ2)
  | 31, _ =>
    obtain ⟨M2, hf, hJ2⟩ := c_31 (a1 := xs (x5 + 1).toNatClampNeg) (a2 := xs (x5 + 2).toNatClampNeg) (a3 := xs (x5 + 3).toNatClampNeg) hJ
    exact w_law_31 C hX hl9 hXs hbl hbA h1 h2 h3 rfl rfl rfl hkc hks hf (fun o2 => K M2 o2 hJ2)
  | 32, _ =>
    obtain ⟨M2, hf, hJ2⟩ := c_32 (a1 := xs (x5 + 1).toNatClampNeg) (a2 := xs (x5 + 2).toNatClampNeg) (a3 := xs (x5 + 3).toNatClampNeg) hJ
    exact w_law_32 C hX hl9 hXs hbl hbA h1 h2 h3 rfl rfl rfl hkc hks hf (fun o2 => K M2 o2 hJ2)
  | 33, _ =>
    obtain ⟨M2, hf, hJ2⟩ := c_33 (a1 := xs (x5 + 1).toNatClampNeg) (a2 := xs (x5 + 2).toNatClampNeg) (a3 := xs (x5 + 3).toNatClampNeg) hJ
    exact w_law_33 C hX hl9 hXs hbl hbA h1 h2 h3 rfl rfl rfl hkc hks hf (fun o2 => K M2 o2 hJ2)
  | 34, _ =>
    obtain ⟨M2, hf, hJ2⟩ := c_34 (a1 := xs (x5 + 1).toNatClampNeg) (a2 := xs (x5 + 2).toNatClampNeg) (a3 := xs (x5 + 3).toNatClampNeg) hJ
    exact w_law_34 C hX hl9 hXs hbl hbA h1 h2 h3 rfl rfl rfl hkc hks hf (fun o2 => K M2 o2 hJ2)
  | 35, _ =>
    obtain ⟨M2, hf, hJ2⟩ := c_35 (a1 := xs (x5 + 1).toNatClampNeg) (a2 := xs (x5 + 2).toNatClampNeg) (a3 := xs (x5 + 3).toNatClampNeg) hJ
    exact w_law_35 C hX hl9 hXs hbl hbA h1 h2 h3 rfl rfl rfl hkc hks hf (fun o2 => K M2 o2 hJ2)
  | 36, _ =>
    obtain ⟨M2, hf, hJ2⟩ := c_36 (a1 := xs (x5 + 1).toNatClampNeg) (a2 := xs (x5 + 2).toNatClampNeg) (a3 := xs (x5 + 3).toNatClampNeg) hJ
    exact w_law_36 C hX hl9 hXs hbl hbA h1 h2 h3 rfl rfl rfl hkc hks hf (fun o2 => K M2 o2 hJ2)
  | 37, _ =>
    obtain ⟨M2, hf, hJ2⟩ := c_37 (a1 := xs (x5 + 1).toNatClampNeg) (a2 := xs (x5 + 2).toNatClampNeg) (a3 := xs (x5 + 3).toNatClampNeg) hJ
    exact w_law_37 C hX hl9 hXs hbl hbA h1 h2 h3 rfl rfl rfl hkc hks hf (fun o2 => K M2 o2 hJ2)
  | 38, _ =>
    obtain ⟨M2, hf, hJ2⟩ := c_38 (a1 := xs (x5 + 1).toNatClampNeg) (a2 := xs (x5 + 2).toNatClampNeg) (a3 := xs (x5 + 3).toNatClampNeg) hJ
    exact w_law_38 C hX hl9 hXs hbl hbA h1 h2 h3 rfl rfl rfl hkc hks hf (fun o2 => K M2 o2 hJ2)
  | 39, _ =>
    obtain ⟨M2, hf, hJ2⟩ := c_39 (a1 := xs (x5 + 1).toNatClampNeg) (a2 := xs (x5 + 2).toNatClampNeg) (a3 := xs (x5 + 3).toNatClampNeg) hJ
    exact w_law_39 C hX hl9 hXs hbl hbA h1 h2 h3 rfl rfl rfl hkc hks hf (fun o2 => K M2 o2 hJ2)
  | 40, _ =>
    obtain ⟨M2, hf, hJ2⟩ := c_40 (a1 := xs (x5 + 1).toNatClampNeg) (a2 := xs (x5 + 2).toNatClampNeg) (a3 := xs (x5 + 3).toNatClampNeg) hJ
    exact w_law_40 C hX hl9 hXs hbl hbA h1 h2 h3 rfl rfl rfl hkc hks hf (fun o2 => K M2 o2 hJ2)
  | 41, _ =>
    obtain ⟨M2, hf, hJ2⟩ := c_41 (a1 := xs (x5 + 1).toNatClampNeg) (a2 := xs (x5 + 2).toNatClampNeg) (a3 := xs (x5 + 3).toNatClampNeg) hJ
    exact w_law_41 C hX hl9 hXs hbl hbA h1 h2 h3 rfl rfl rfl hkc hks hf (fun o2 => K M2 o2 hJ2)
  | 42, _ =>
    obtain ⟨M2, hf, hJ2⟩ := c_42 (a1 := xs (x5 + 1).toNatClampNeg) (a2 := xs (x5 + 2).toNatClampNeg) (a3 := xs (x5 + 3).toNatClampNeg) hJ
    exact w_law_42 C hX hl9 hXs hbl hbA h1 h2 h3 rfl rfl rfl hkc hks hf (fun o2 => K M2 o2 hJ2)
  | 43, _ =>
    obtain ⟨M2, hf, hJ2⟩ := c_43 (a1 := xs (x5 + 1).toNatClampNeg) (a2 := xs (x5 + 2).toNatClampNeg) (a3 := xs (x5 + 3).toNatClampNeg) hJ
    exact w_law_43 C hX hl9 hXs hbl hbA h1 h2 h3 rfl rfl rfl hkc hks hf (fun o2 => K M2 o2 hJ2)
  | 44, _ =>
    obtain ⟨M2, hf, hJ2⟩ := c_44 (a1 := xs (x5 + 1).toNatClampNeg) (a2 := xs (x5 + 2).toNatClampNeg) (a3 := xs (x5 + 3).toNatClampNeg) hJ
    exact w_law_44 C hX hl9 hXs hbl hbA h1 h2 h3 rfl rfl rfl hkc hks hf (fun o2 => K M2 o2 hJ2)
  | 45, _ =>
    obtain ⟨M2, hf, hJ2⟩ := c_45 (a1 := xs (x5 + 1).toNatClampNeg) (a2 := xs (x5 + 2).toNatClampNeg) (a3 := xs (x5 + 3).toNatClampNeg) hJ
    exact w_law_45 C hX hl9 hXs hbl hbA h1 h2 h3 rfl rfl rfl hkc hks hf (fun o2 => K M2 o2 hJ2)
  | 46, _ =>
    obtain ⟨M2, hf, hJ2⟩ := c_46 (a1 := xs (x5 + 1).toNatClampNeg) (a2 := xs (x5 + 2).toNatClampNeg) (a3 := xs (x5 + 3).toNatClampNeg) hJ
    exact w_law_46 C hX hl9 hXs hbl hbA h1 h2 h3 rfl rfl rfl hkc hks hf (fun o2 => K M2 o2 hJ2)
  | 47, _ =>
    obtain ⟨M2, hf, hJ2⟩ := c_47 (a1 := xs (x5 + 1).toNatClampNeg) (a2 := xs (x5 + 2).toNatClampNeg) (a3 := xs (x5 + 3).toNatClampNeg) hJ
    exact w_law_47 C hX hl9 hXs hbl hbA h1 h2 h3 rfl rfl rfl hkc hks hf (fun o2 => K M2 o2 hJ2)
  | 48, _ =>
    obtain ⟨M2, hf, hJ2⟩ := c_48 (a1 := xs (x5 + 1).toNatClampNeg) (a2 := xs (x5 + 2).toNatClampNeg) (a3 := xs (x5 + 3).toNatClampNeg) hJ
    exact w_law_48 C hX hl9 hXs hbl hbA h1 h2 h3 rfl rfl rfl hkc hks hf (fun o2 => K M2 o2 hJ2)
  | 49, _ =>
    obtain ⟨M2, hf, hJ2⟩ := c_49 (a1 := xs (x5 + 1).toNatClampNeg) (a2 := xs (x5 + 2).toNatClampNeg) (a3 := xs (x5 + 3).toNatClampNeg) hJ
    exact w_law_49 C hX hl9 hXs hbl hbA h1 h2 h3 rfl rfl rfl hkc hks hf (fun o2 => K M2 o2 hJ2)
  | 50, _ =>
    obtain ⟨M2, hf, hJ2⟩ := c_50 (a1 := xs (x5 + 1).toNatClampNeg) (a2 := xs (x5 + 2).toNatClampNeg) (a3 := xs (x5 + 3).toNatClampNeg) hJ
    exact w_law_50 C hX hl9 hXs hbl hbA h1 h2 h3 rfl rfl rfl hkc hks hf (fun o2 => K M2 o2 hJ2)
  | 51, _ =>
    obtain ⟨M2, hf, hJ2⟩ := c_51 (a1 := xs (x5 + 1).toNatClampNeg) (a2 := xs (x5 + 2).toNatClampNeg) (a3 := xs (x5 + 3).toNatClampNeg) hJ
    exact w_law_51 C hX hl9 hXs hbl hbA h1 h2 h3 rfl rfl rfl hkc hks hf (fun o2 => K M2 o2 hJ2)
  | 52, _ =>
    obtain ⟨M2, hf, hJ2⟩ := c_52 (a1 := xs (x5 + 1).toNatClampNeg) (a2 := xs (x5 + 2).toNatClampNeg) (a3 := xs (x5 + 3).toNatClampNeg) hJ
    exact w_law_52 C hX hl9 hXs hbl hbA h1 h2 h3 rfl rfl rfl hkc hks hf (fun o2 => K M2 o2 hJ2)
  | 53, _ =>
    obtain ⟨M2, hf, hJ2⟩ := c_53 (a1 := xs (x5 + 1).toNatClampNeg) (a2 := xs (x5 + 2).toNatClampNeg) (a3 := xs (x5 + 3).toNatClampNeg) hJ
    exact w_law_53 C hX hl9 hXs hbl hbA h1 h2 h3 rfl rfl rfl hkc hks hf (fun o2 => K M2 o2 hJ2)
  | 54, _ =>
    obtain ⟨M2, hf, hJ2⟩ := c_54 (a1 := xs (x5 + 1).toNatClampNeg) (a2 := xs (x5 + 2).toNatClampNeg) (a3 := xs (x5 + 3).toNatClampNeg) hJ
    exact w_law_54 C hX hl9 hXs hbl hbA h1 h2 h3 rfl rfl rfl hkc hks hf (fun o2 => K M2 o2 hJ2)
  | j + 55, h => exact absurd h (by omega)
theorem law_table (C : Cx p s m args c cL_law 9 RL B D Y) {M : Mem} {L rest : List Value} {LV : List (Nat × Value)} {z : Int32} (K1 : ∀ j, j < 55 → At p l e room_1 s m args below meth c 9 k sl Q B D Y o (tgL.getD j 0) M LV rest) (K2 : At p l e room_1 s m args below meth c 9 k sl Q B D Y o 4081 M LV rest) : At p l e room_1 s m args below meth c 9 k sl Q B D Y o 44 M LV (.int z :: rest) := fun H locs ls hP hS hl => by
  by_cases h1 : z.toInt < 0 ∨ 54 < z.toInt
  · exact lv_tableOut C.1 C.2.1 dL_law_44 h1 (by decide) (K2 H locs ls hP hS hl)
  · have hj : z.toInt.toNat < 55 := by omega
    have hz : z.toInt = (z.toInt.toNat : Int) := by omega
    have ho : ∀ j, j < 55 → ∃ off : Int, (#[236, 304, 372, 440, 508, 576, 656, 736, 816, 884, 940, 1008, 1088, 1168, 1248, 1304, 1360, 1416, 1496, 1583, 1651, 1719, 1803, 1871, 1946, 2021, 2096, 2164, 2220, 2276, 2332, 2388, 2444, 2500, 2568, 2636, 2704, 2786, 2854, 2922, 2990, 3058, 3114, 3182, 3250, 3318, 3398, 3478, 3567, 3669, 3737, 3817, 3885, 3948, 4023] : Array Int)[j]? = some off ∧ ((44 : Nat) : Int) + off = ((tgL.getD j 0 : Nat) : Int) := by
      intro j hj
      match j, hj with
      | 0, _ => exact ⟨236, rfl, rfl⟩
      | 1, _ => exact ⟨304, rfl, rfl⟩
      | 2, _ => exact ⟨372, rfl, rfl⟩
      | 3, _ => exact ⟨440, rfl, rfl⟩
      | 4, _ => exact ⟨508, rfl, rfl⟩
      | 5, _ => exact ⟨576, rfl, rfl⟩
      | 6, _ => exact ⟨656, rfl, rfl⟩
      | 7, _ => exact ⟨736, rfl, rfl⟩
      | 8, _ => exact ⟨816, rfl, rfl⟩
      | 9, _ => exact ⟨884, rfl, rfl⟩
      | 10, _ => exact ⟨940, rfl, rfl⟩
      | 11, _ => exact ⟨1008, rfl, rfl⟩
      | 12, _ => exact ⟨1088, rfl, rfl⟩
      | 13, _ => exact ⟨1168, rfl, rfl⟩
      | 14, _ => exact ⟨1248, rfl, rfl⟩
      | 15, _ => exact ⟨1304, rfl, rfl⟩
      | 16, _ => exact ⟨1360, rfl, rfl⟩
      | 17, _ => exact ⟨1416, rfl, rfl⟩
      | 18, _ => exact ⟨1496, rfl, rfl⟩
      | 19, _ => exact ⟨1583, rfl, rfl⟩
      | 20, _ => exact ⟨1651, rfl, rfl⟩
      | 21, _ => exact ⟨1719, rfl, rfl⟩
      | 22, _ => exact ⟨1803, rfl, rfl⟩
      | 23, _ => exact ⟨1871, rfl, rfl⟩
      | 24, _ => exact ⟨1946, rfl, rfl⟩
      | 25, _ => exact ⟨2021, rfl, rfl⟩
      | 26, _ => exact ⟨2096, rfl, rfl⟩
      | 27, _ => exact ⟨2164, rfl, rfl⟩
      | 28, _ => exact ⟨2220, rfl, rfl⟩
      | 29, _ => exact ⟨2276, rfl, rfl⟩
      | 30, _ => exact ⟨2332, rfl, rfl⟩
      | 31, _ => exact ⟨2388, rfl, rfl⟩
      | 32, _ => exact ⟨2444, rfl, rfl⟩
      | 33, _ => exact ⟨2500, rfl, rfl⟩
      | 34, _ => exact ⟨2568, rfl, rfl⟩
      | 35, _ => exact ⟨2636, rfl, rfl⟩
      | 36, _ => exact ⟨2704, rfl, rfl⟩
      | 37, _ => exact ⟨2786, rfl, rfl⟩
      | 38, _ => exact ⟨2854, rfl, rfl⟩
      | 39, _ => exact ⟨2922, rfl, rfl⟩
      | 40, _ => exact ⟨2990, rfl, rfl⟩
      | 41, _ => exact ⟨3058, rfl, rfl⟩
      | 42, _ => exact ⟨3114, rfl, rfl⟩
      | 43, _ => exact ⟨3182, rfl, rfl⟩
      | 44, _ => exact ⟨3250, rfl, rfl⟩
      | 45, _ => exact ⟨3318, rfl, rfl⟩
      | 46, _ => exact ⟨3398, rfl, rfl⟩
      | 47, _ => exact ⟨3478, rfl, rfl⟩
      | 48, _ => exact ⟨3567, rfl, rfl⟩
      | 49, _ => exact ⟨3669, rfl, rfl⟩
      | 50, _ => exact ⟨3737, rfl, rfl⟩
      | 51, _ => exact ⟨3817, rfl, rfl⟩
      | 52, _ => exact ⟨3885, rfl, rfl⟩
      | 53, _ => exact ⟨3948, rfl, rfl⟩
      | 54, _ => exact ⟨4023, rfl, rfl⟩
      | j + 55, h => exact absurd h (by omega)
    obtain ⟨off, g1, g2⟩ := ho _ hj
    refine lv_tableIn C.1 C.2.1 (off := off) dL_law_44 (by omega) (by omega) ?_ g2 (K1 _ hj H locs ls hP hS hl)
    rw [Int.sub_zero]
    exact g1
theorem vin_iN {a n : Nat} (h : a < n) (hn : n < 2 ^ 31) : vp_in (iN a) n := inb_in (by rw [inb_iN (by omega)]; exact decide_eq_true h)
theorem law_last {t LN : Nat} (hL : LN ≤ 2048) (ht : 4 * t ≤ LN) (h : ¬ nI LN - 4 < iN (4 * t)) : 4 * t + 4 ≤ LN := by
  have hsub : LN < 4 → nI LN - 4 < 0 := by
    intro h4
    match LN, h4 with
    | 0, _ => decide
    | 1, _ => decide
    | 2, _ => decide
    | 3, _ => decide
    | n + 4, h => exact absurd h (by omega)
  by_cases h4 : LN < 4
  · exfalso
    apply h
    have h1 := hsub h4
    rw [Int32.lt_iff_toInt_lt] at h1 ⊢
    rw [iN_toInt (by omega)]
    have h0 : (0 : Int32).toInt = 0 := by decide
    omega
  · have e : nI LN - 4 = iN (LN - 4) := iN_sub (a := LN) (b := 4) (by omega)
    rw [e, iN_lt (by omega) (by omega)] at h
    omega
theorem law_loop (C : Cx p s m args c cL_law 9 RL B D Y) (hX : XI B s) (hl9 : l.stackTraces = false) (hXs : va_X b LN xs s s.heap) (hbl : b < s.heap.size) (hbA : ¬ B ≤ b) (hL : LN ≤ 2048) {k0 s0 : Nat} (hk0 : k0 ≤ 112) (hs0 : s0 ≤ 4904) (hend : ∀ k sl o M LV, k ≤ 601024 → sl ≤ 7293034 → At p l e room_1 s m args below meth c 9 k sl Q B D Y o 4087 M LV []) : ∀ n t k sl o M, J M → LN + 4 ≤ 4 * t + 4 * n → 4 * t ≤ LN → k ≤ k0 + 4 * t → sl ≤ s0 + 24 * t → At p l e room_1 s m args below meth c 9 k sl Q B D Y o 28 M [(0, .ref b), (1, .ref (B + 0)), (2, .ref (B + 47)), (3, .ref (B + 110)), (4, .ref (B + 111)), (5, .int (iN (4 * t)))] [] := by
  intro n
  induction n with
  | zero => intro t k sl o M hJ h1 h2; exfalso; omega
  | succ n ih =>
    intro t k sl o M hJ hn ht hk hs
    refine A_iload C 5 rfl dL_law_28 ?_
    refine A_aload_n C 0 rfl dL_law_30 ?_
    refine A_slen C hXs hbl hbA dL_law_31 ?_
    refine A_iconst C (v := 4) rfl dL_law_32 ?_
    refine A_isub C dL_law_33 ?_
    refine A_icmp_gt C 4087 (by decide) dL_law_34 (X := some ()) (Z := some ()) (r := ()) (by split <;> rfl) (fun _ _ => hend _ _ _ _ _ (by omega) (by omega)) (fun hge _ => ?_)
    have h4 := law_last hL ht hge
    refine A_aload_n C 0 rfl dL_law_37 ?_
    refine A_iload C 5 rfl dL_law_38 ?_
    refine A_sld C hXs hbl hbA (vin_iN (by omega) (by omega)) rfl dL_law_40 ?_
    refine A_bipush C (v := 63) (by decide) dL_law_41 ?_
    refine A_iand C dL_law_43 ?_
    have hback : ∀ k2 sl2 o2 M2, J M2 → k2 ≤ k0 + 4 * (t + 1) → sl2 ≤ s0 + 24 * (t + 1) → At p l e room_1 s m args below meth c 9 k2 sl2 Q B D Y o2 4081 M2 [(0, .ref b), (1, .ref (B + 0)), (2, .ref (B + 47)), (3, .ref (B + 110)), (4, .ref (B + 111)), (5, .int (iN (4 * t)))] [] := by
      intro k2 sl2 o2 M2 hJ2 hk2 hs2
      have e4 : iN (4 * t) + 4 = iN (4 * (t + 1)) := iN_add (4 * t) 4
      refine A_iinc C (k0 := 5) (w := 4) [(0, .ref b), (1, .ref (B + 0)), (2, .ref (B + 47)), (3, .ref (B + 110)), (4, .ref (B + 111)), (5, .int (iN (4 * t) + 4))] rfl rfl (by decide) [1, 2, 3, 4, 5, 0] rfl dL_law_4081 ?_
      refine A_goto C 28 (by decide) dL_law_4084 ?_
      rw [e4]
      exact ih (t + 1) k2 sl2 o2 M2 hJ2 (by omega) (by omega) hk2 hs2
    have a1 : iN (4 * t) + 1 = iN (4 * t + 1) := iN_add (4 * t) 1
    have a2 : iN (4 * t) + 2 = iN (4 * t + 2) := iN_add (4 * t) 2
    have a3 : iN (4 * t) + 3 = iN (4 * t + 3) := iN_add (4 * t) 3
    refine law_table (L := []) C (fun j hj => ?_) (hback _ _ _ _ hJ (by omega) (by omega))
    exact law_case C hX hl9 hXs hbl hbA (by rw [a1]; exact vin_iN (by omega) (by omega)) (by rw [a2]; exact vin_iN (by omega) (by omega)) (by rw [a3]; exact vin_iN (by omega) (by omega)) (by show k + 4 ≤ 601024; omega) (by show sl + 24 ≤ 7293034; omega) hJ (fun M2 o2 hJ2 => hback _ _ _ _ hJ2 (by omega) (by omega)) j hj
end LO
