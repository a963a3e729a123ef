/-! ===== decoding by bytes: what an opcode gives, from its one to three bytes; the law's bytes by windows ===== -/
section DW
def BN (c : ByteArray) (p n : Nat) : Prop := ∃ v, c.data.toList[p]? = some v ∧ v.toNat = n
theorem dw_u1 {c : ByteArray} {p n : Nat} (h : BN c p n) : Jvm.ClassFile.Reader.runAt (Jvm.ClassFile.Reader.u1 : Jvm.ClassFile.Decoder Nat) c p = .ok (n, p + 1) := by
  obtain ⟨v, h, rfl⟩ := h
  obtain ⟨hp, e⟩ := List.getElem?_eq_some_iff.mp h
  have hp' : p < c.size := hp
  have e' : c[p]'hp' = v := e
  have hu : (Jvm.ClassFile.Reader.u1 : Jvm.ClassFile.Decoder Nat) c p = if h : p < c.size then .ok ((c[p]'h).toNat, p + 1) else .error (Jvm.ClassFile.HasTruncated.truncated p) := by
    show (dite (p < c.size) (fun h => (do set (p + 1); Pure.pure (c[p]'h).toNat : Jvm.ClassFile.Decoder Nat)) (fun _ => (throw (Jvm.ClassFile.HasTruncated.truncated p) : Jvm.ClassFile.Decoder Nat))) c p = _
    by_cases hq : p < c.size
    · rw [dif_pos hq, dif_pos hq]; rfl
    · rw [dif_neg hq, dif_neg hq]; rfl
  show (Jvm.ClassFile.Reader.u1 : Jvm.ClassFile.Decoder Nat) c p = _
  rw [hu, dif_pos hp', e']
theorem dw_b {α β : Type} {f : Jvm.ClassFile.Decoder α} {k : α → Jvm.ClassFile.Decoder β} {c : ByteArray} {p q : Nat} {x : α} {r : Except Jvm.ClassFile.DecodeError (β × Nat)} (h : Jvm.ClassFile.Reader.runAt f c p = .ok (x, q)) (h2 : Jvm.ClassFile.Reader.runAt (k x) c q = r) : Jvm.ClassFile.Reader.runAt (f >>= k) c p = r := by
  show Except.bind (Jvm.ClassFile.Reader.runAt f c p) (fun z => Jvm.ClassFile.Reader.runAt (k z.1) c z.2) = r
  rw [h]; exact h2
theorem dw_map {α β : Type} {f : α → β} {g : Jvm.ClassFile.Decoder α} {c : ByteArray} {p q : Nat} {x : α} (h : Jvm.ClassFile.Reader.runAt g c p = .ok (x, q)) : Jvm.ClassFile.Reader.runAt (f <$> g) c p = .ok (f x, q) := by
  show Except.bind (Jvm.ClassFile.Reader.runAt g c p) (fun z => .ok (f z.1, z.2)) = _
  rw [h]; rfl
theorem dw_u2 {c : ByteArray} {p a b : Nat} (h0 : BN c p a) (h1 : BN c (p + 1) b) : Jvm.ClassFile.Reader.runAt (Jvm.ClassFile.Reader.u2 : Jvm.ClassFile.Decoder Nat) c p = .ok (a * 256 + b, p + 2) := dw_b (dw_u1 h0) (dw_b (dw_u1 h1) rfl)
theorem dw_s1 {c : ByteArray} {p a : Nat} (h0 : BN c p a) : Jvm.ClassFile.Reader.runAt (Jvm.ClassFile.Reader.s1 : Jvm.ClassFile.Decoder Int) c p = .ok (Jvm.ClassFile.Reader.signed 8 a, p + 1) := dw_map (dw_u1 h0)
theorem dw_s2 {c : ByteArray} {p a b : Nat} (h0 : BN c p a) (h1 : BN c (p + 1) b) : Jvm.ClassFile.Reader.runAt (Jvm.ClassFile.Reader.s2 : Jvm.ClassFile.Decoder Int) c p = .ok (Jvm.ClassFile.Reader.signed 16 (a * 256 + b), p + 2) := dw_map (dw_u2 h0 h1)
theorem dw_at {c : ByteArray} {p q n : Nat} {i : Instr} {k : Nat → Jvm.ClassFile.Decoder Instr} (hk : Jvm.ClassFile.Decoder.instr p = Jvm.ClassFile.Reader.u1 >>= k) (h0 : BN c p n) (h : Jvm.ClassFile.Reader.runAt (k n) c (p + 1) = .ok (i, q)) : decode c p = .ok (i, q - p) := by
  have e : Jvm.ClassFile.Reader.runAt (Jvm.ClassFile.Decoder.instr p) c p = .ok (i, q) := by rw [hk]; exact dw_b (dw_u1 h0) h
  show Except.bind (Jvm.ClassFile.Reader.runAt (Jvm.ClassFile.Decoder.instr p) c p) (fun z => .ok (z.1, z.2 - p)) = _
  rw [e]; rfl
theorem dw_0 {c : ByteArray} {p n : Nat} {i : Instr} {k : Nat → Jvm.ClassFile.Decoder Instr} (hk : Jvm.ClassFile.Decoder.instr p = Jvm.ClassFile.Reader.u1 >>= k) (hr : k n = Pure.pure i) (h0 : BN c p n) : decode c p = .ok (i, 1) := by
  have h := dw_at (i := i) (q := p + 1) hk h0 (by rw [hr]; rfl)
  rw [h, Nat.add_sub_cancel_left]
theorem dw_1 {c : ByteArray} {p n a : Nat} {g : Nat → Instr} {k : Nat → Jvm.ClassFile.Decoder Instr} (hk : Jvm.ClassFile.Decoder.instr p = Jvm.ClassFile.Reader.u1 >>= k) (hr : k n = Jvm.ClassFile.Reader.u1 >>= fun x => Pure.pure (g x)) (h0 : BN c p n) (h1 : BN c (p + 1) a) : decode c p = .ok (g a, 2) := by
  have h := dw_at (i := g a) (q := p + 2) hk h0 (by rw [hr]; exact dw_b (dw_u1 h1) rfl)
  rw [h, Nat.add_sub_cancel_left]
theorem dw_1s {c : ByteArray} {p n a : Nat} {g : Int → Instr} {k : Nat → Jvm.ClassFile.Decoder Instr} (hk : Jvm.ClassFile.Decoder.instr p = Jvm.ClassFile.Reader.u1 >>= k) (hr : k n = Jvm.ClassFile.Reader.s1 >>= fun x => Pure.pure (g x)) (h0 : BN c p n) (h1 : BN c (p + 1) a) : decode c p = .ok (g (Jvm.ClassFile.Reader.signed 8 a), 2) := by
  have h := dw_at (i := g (Jvm.ClassFile.Reader.signed 8 a)) (q := p + 2) hk h0 (by rw [hr]; exact dw_b (dw_s1 h1) rfl)
  rw [h, Nat.add_sub_cancel_left]
theorem dw_2 {c : ByteArray} {p n a b : Nat} {g : Nat → Instr} {k : Nat → Jvm.ClassFile.Decoder Instr} (hk : Jvm.ClassFile.Decoder.instr p = Jvm.ClassFile.Reader.u1 >>= k) (hr : k n = Jvm.ClassFile.Reader.u2 >>= fun x => Pure.pure (g x)) (h0 : BN c p n) (h1 : BN c (p + 1) a) (h2 : BN c (p + 2) b) : decode c p = .ok (g (a * 256 + b), 3) := by
  have h := dw_at (i := g (a * 256 + b)) (q := p + 3) hk h0 (by rw [hr]; exact dw_b (dw_u2 h1 h2) rfl)
  rw [h, Nat.add_sub_cancel_left]
theorem dw_2s {c : ByteArray} {p n a b : Nat} {g : Int → Instr} {k : Nat → Jvm.ClassFile.Decoder Instr} (hk : Jvm.ClassFile.Decoder.instr p = Jvm.ClassFile.Reader.u1 >>= k) (hr : k n = Jvm.ClassFile.Reader.s2 >>= fun x => Pure.pure (g x)) (h0 : BN c p n) (h1 : BN c (p + 1) a) (h2 : BN c (p + 2) b) : decode c p = .ok (g (Jvm.ClassFile.Reader.signed 16 (a * 256 + b)), 3) := by
  have h := dw_at (i := g (Jvm.ClassFile.Reader.signed 16 (a * 256 + b))) (q := p + 3) hk h0 (by rw [hr]; exact dw_b (dw_s2 h1 h2) rfl)
  rw [h, Nat.add_sub_cancel_left]
theorem dw_win {c : ByteArray} {base i n : Nat} {L : List Nat} (hw : ((c.data.toList.drop base).take 72).map UInt8.toNat = L) (hi : L[i]? = some n) : BN c (base + i) n := by
  rw [← hw, List.getElem?_map] at hi
  obtain ⟨v, h1, h2⟩ := Option.map_eq_some_iff.mp hi
  refine ⟨v, ?_, h2⟩
  rw [List.getElem?_take] at h1
  split at h1
  · rw [List.getElem?_drop] at h1; exact h1
  · cases h1
theorem q_3 {c : ByteArray} {p : Nat} (h0 : BN c p 3) : decode c p = .ok (.iconst 0, 1) := dw_0 rfl rfl h0
theorem q_4 {c : ByteArray} {p : Nat} (h0 : BN c p 4) : decode c p = .ok (.iconst 1, 1) := dw_0 rfl rfl h0
theorem q_5 {c : ByteArray} {p : Nat} (h0 : BN c p 5) : decode c p = .ok (.iconst 2, 1) := dw_0 rfl rfl h0
theorem q_6 {c : ByteArray} {p : Nat} (h0 : BN c p 6) : decode c p = .ok (.iconst 3, 1) := dw_0 rfl rfl h0
theorem q_7 {c : ByteArray} {p : Nat} (h0 : BN c p 7) : decode c p = .ok (.iconst 4, 1) := dw_0 rfl rfl h0
theorem q_9 {c : ByteArray} {p : Nat} (h0 : BN c p 9) : decode c p = .ok (.lconst 0, 1) := dw_0 rfl rfl h0
theorem q_10 {c : ByteArray} {p : Nat} (h0 : BN c p 10) : decode c p = .ok (.lconst 1, 1) := dw_0 rfl rfl h0
theorem q_16 {c : ByteArray} {p a : Nat} {x : Int} (h0 : BN c p 16) (h1 : BN c (p + 1) a) (hx : Jvm.ClassFile.Reader.signed 8 a = x) : decode c p = .ok (.bipush x, 2) := by
  subst hx; exact dw_1s (g := fun x => .bipush x) rfl rfl h0 h1
theorem q_21 {c : ByteArray} {p a : Nat} (h0 : BN c p 21) (h1 : BN c (p + 1) a) : decode c p = .ok (.iload a, 2) := dw_1 (g := fun x => .iload x) rfl rfl h0 h1
theorem q_23 {c : ByteArray} {p a : Nat} (h0 : BN c p 23) (h1 : BN c (p + 1) a) : decode c p = .ok (.fload a, 2) := dw_1 (g := fun x => .fload x) rfl rfl h0 h1
theorem q_24 {c : ByteArray} {p a : Nat} (h0 : BN c p 24) (h1 : BN c (p + 1) a) : decode c p = .ok (.dload a, 2) := dw_1 (g := fun x => .dload x) rfl rfl h0 h1
theorem q_25 {c : ByteArray} {p a : Nat} (h0 : BN c p 25) (h1 : BN c (p + 1) a) : decode c p = .ok (.aload a, 2) := dw_1 (g := fun x => .aload x) rfl rfl h0 h1
theorem q_42 {c : ByteArray} {p : Nat} (h0 : BN c p 42) : decode c p = .ok (.aload_n 0, 1) := dw_0 rfl rfl h0
theorem q_43 {c : ByteArray} {p : Nat} (h0 : BN c p 43) : decode c p = .ok (.aload_n 1, 1) := dw_0 rfl rfl h0
theorem q_44 {c : ByteArray} {p : Nat} (h0 : BN c p 44) : decode c p = .ok (.aload_n 2, 1) := dw_0 rfl rfl h0
theorem q_45 {c : ByteArray} {p : Nat} (h0 : BN c p 45) : decode c p = .ok (.aload_n 3, 1) := dw_0 rfl rfl h0
theorem q_46 {c : ByteArray} {p : Nat} (h0 : BN c p 46) : decode c p = .ok (.iaload, 1) := dw_0 rfl rfl h0
theorem q_47 {c : ByteArray} {p : Nat} (h0 : BN c p 47) : decode c p = .ok (.laload, 1) := dw_0 rfl rfl h0
theorem q_49 {c : ByteArray} {p : Nat} (h0 : BN c p 49) : decode c p = .ok (.daload, 1) := dw_0 rfl rfl h0
theorem q_54 {c : ByteArray} {p a : Nat} (h0 : BN c p 54) (h1 : BN c (p + 1) a) : decode c p = .ok (.istore a, 2) := dw_1 (g := fun x => .istore x) rfl rfl h0 h1
theorem q_56 {c : ByteArray} {p a : Nat} (h0 : BN c p 56) (h1 : BN c (p + 1) a) : decode c p = .ok (.fstore a, 2) := dw_1 (g := fun x => .fstore x) rfl rfl h0 h1
theorem q_57 {c : ByteArray} {p a : Nat} (h0 : BN c p 57) (h1 : BN c (p + 1) a) : decode c p = .ok (.dstore a, 2) := dw_1 (g := fun x => .dstore x) rfl rfl h0 h1
theorem q_58 {c : ByteArray} {p a : Nat} (h0 : BN c p 58) (h1 : BN c (p + 1) a) : decode c p = .ok (.astore a, 2) := dw_1 (g := fun x => .astore x) rfl rfl h0 h1
theorem q_76 {c : ByteArray} {p : Nat} (h0 : BN c p 76) : decode c p = .ok (.astore_n 1, 1) := dw_0 rfl rfl h0
theorem q_77 {c : ByteArray} {p : Nat} (h0 : BN c p 77) : decode c p = .ok (.astore_n 2, 1) := dw_0 rfl rfl h0
theorem q_78 {c : ByteArray} {p : Nat} (h0 : BN c p 78) : decode c p = .ok (.astore_n 3, 1) := dw_0 rfl rfl h0
theorem q_89 {c : ByteArray} {p : Nat} (h0 : BN c p 89) : decode c p = .ok (.dup, 1) := dw_0 rfl rfl h0
theorem q_96 {c : ByteArray} {p : Nat} (h0 : BN c p 96) : decode c p = .ok (.iadd, 1) := dw_0 rfl rfl h0
theorem q_100 {c : ByteArray} {p : Nat} (h0 : BN c p 100) : decode c p = .ok (.isub, 1) := dw_0 rfl rfl h0
theorem q_126 {c : ByteArray} {p : Nat} (h0 : BN c p 126) : decode c p = .ok (.iand, 1) := dw_0 rfl rfl h0
theorem q_133 {c : ByteArray} {p : Nat} (h0 : BN c p 133) : decode c p = .ok (.i2l, 1) := dw_0 rfl rfl h0
theorem q_141 {c : ByteArray} {p : Nat} (h0 : BN c p 141) : decode c p = .ok (.f2d, 1) := dw_0 rfl rfl h0
theorem q_146 {c : ByteArray} {p : Nat} (h0 : BN c p 146) : decode c p = .ok (.i2c, 1) := dw_0 rfl rfl h0
theorem q_148 {c : ByteArray} {p : Nat} (h0 : BN c p 148) : decode c p = .ok (.lcmp, 1) := dw_0 rfl rfl h0
theorem q_149 {c : ByteArray} {p : Nat} (h0 : BN c p 149) : decode c p = .ok (.fcmp .l, 1) := dw_0 rfl rfl h0
theorem q_151 {c : ByteArray} {p : Nat} (h0 : BN c p 151) : decode c p = .ok (.dcmp .l, 1) := dw_0 rfl rfl h0
theorem q_153 {c : ByteArray} {p a b : Nat} {x : Int} (h0 : BN c p 153) (h1 : BN c (p + 1) a) (h2 : BN c (p + 2) b) (hx : Jvm.ClassFile.Reader.signed 16 (a * 256 + b) = x) : decode c p = .ok (.ifCond .eq x, 3) := by
  subst hx; exact dw_2s (g := fun x => .ifCond .eq x) rfl rfl h0 h1 h2
theorem q_154 {c : ByteArray} {p a b : Nat} {x : Int} (h0 : BN c p 154) (h1 : BN c (p + 1) a) (h2 : BN c (p + 2) b) (hx : Jvm.ClassFile.Reader.signed 16 (a * 256 + b) = x) : decode c p = .ok (.ifCond .ne x, 3) := by
  subst hx; exact dw_2s (g := fun x => .ifCond .ne x) rfl rfl h0 h1 h2
theorem q_159 {c : ByteArray} {p a b : Nat} {x : Int} (h0 : BN c p 159) (h1 : BN c (p + 1) a) (h2 : BN c (p + 2) b) (hx : Jvm.ClassFile.Reader.signed 16 (a * 256 + b) = x) : decode c p = .ok (.if_icmp .eq x, 3) := by
  subst hx; exact dw_2s (g := fun x => .if_icmp .eq x) rfl rfl h0 h1 h2
theorem q_163 {c : ByteArray} {p a b : Nat} {x : Int} (h0 : BN c p 163) (h1 : BN c (p + 1) a) (h2 : BN c (p + 2) b) (hx : Jvm.ClassFile.Reader.signed 16 (a * 256 + b) = x) : decode c p = .ok (.if_icmp .gt x, 3) := by
  subst hx; exact dw_2s (g := fun x => .if_icmp .gt x) rfl rfl h0 h1 h2
theorem q_167 {c : ByteArray} {p a b : Nat} {x : Int} (h0 : BN c p 167) (h1 : BN c (p + 1) a) (h2 : BN c (p + 2) b) (hx : Jvm.ClassFile.Reader.signed 16 (a * 256 + b) = x) : decode c p = .ok (.goto x, 3) := by
  subst hx; exact dw_2s (g := fun x => .goto x) rfl rfl h0 h1 h2
theorem q_172 {c : ByteArray} {p : Nat} (h0 : BN c p 172) : decode c p = .ok (.ireturn, 1) := dw_0 rfl rfl h0
theorem q_182 {c : ByteArray} {p a b x : Nat} (h0 : BN c p 182) (h1 : BN c (p + 1) a) (h2 : BN c (p + 2) b) (hx : a * 256 + b = x) : decode c p = .ok (.invokevirtual x, 3) := by
  subst hx; exact dw_2 (g := fun x => .invokevirtual x) rfl rfl h0 h1 h2
theorem q_183 {c : ByteArray} {p a b x : Nat} (h0 : BN c p 183) (h1 : BN c (p + 1) a) (h2 : BN c (p + 2) b) (hx : a * 256 + b = x) : decode c p = .ok (.invokespecial x, 3) := by
  subst hx; exact dw_2 (g := fun x => .invokespecial x) rfl rfl h0 h1 h2
theorem q_184 {c : ByteArray} {p a b x : Nat} (h0 : BN c p 184) (h1 : BN c (p + 1) a) (h2 : BN c (p + 2) b) (hx : a * 256 + b = x) : decode c p = .ok (.invokestatic x, 3) := by
  subst hx; exact dw_2 (g := fun x => .invokestatic x) rfl rfl h0 h1 h2
theorem q_187 {c : ByteArray} {p a b x : Nat} (h0 : BN c p 187) (h1 : BN c (p + 1) a) (h2 : BN c (p + 2) b) (hx : a * 256 + b = x) : decode c p = .ok (.new x, 3) := by
  subst hx; exact dw_2 (g := fun x => .new x) rfl rfl h0 h1 h2
theorem q_190 {c : ByteArray} {p : Nat} (h0 : BN c p 190) : decode c p = .ok (.arraylength, 1) := dw_0 rfl rfl h0
end DW
set_option maxRecDepth 100000 in
theorem wq_0 : ((cL_law.data.toList.drop 0).take 72).map UInt8.toNat = [187, 0, 8, 89, 183, 0, 188, 76, 187, 0, 189, 89, 183, 0, 191, 77, 4, 188, 11, 78, 4, 188, 7, 58, 4, 3, 54, 5, 21, 5, 42, 190, 7, 100, 163, 15, 213, 42, 21, 5, 46, 16, 63, 126, 170, 0, 0, 0, 0, 0, 15, 197, 0, 0, 0, 0, 0, 0, 0, 54, 0, 0, 0, 236, 0, 0, 1, 48, 0, 0, 1, 116] := by decide +kernel
set_option maxRecDepth 100000 in
theorem wq_1 : ((cL_law.data.toList.drop 64).take 72).map UInt8.toNat = [0, 0, 1, 48, 0, 0, 1, 116, 0, 0, 1, 184, 0, 0, 1, 252, 0, 0, 2, 64, 0, 0, 2, 144, 0, 0, 2, 224, 0, 0, 3, 48, 0, 0, 3, 116, 0, 0, 3, 172, 0, 0, 3, 240, 0, 0, 4, 64, 0, 0, 4, 144, 0, 0, 4, 224, 0, 0, 5, 24, 0, 0, 5, 80, 0, 0, 5, 136, 0, 0, 5, 216] := by decide +kernel
set_option maxRecDepth 100000 in
theorem wq_2 : ((cL_law.data.toList.drop 128).take 72).map UInt8.toNat = [0, 0, 5, 136, 0, 0, 5, 216, 0, 0, 6, 47, 0, 0, 6, 115, 0, 0, 6, 183, 0, 0, 7, 11, 0, 0, 7, 79, 0, 0, 7, 154, 0, 0, 7, 229, 0, 0, 8, 48, 0, 0, 8, 116, 0, 0, 8, 172, 0, 0, 8, 228, 0, 0, 9, 28, 0, 0, 9, 84, 0, 0, 9, 140, 0, 0, 9, 196, 0, 0, 10, 8] := by decide +kernel
set_option maxRecDepth 100000 in
theorem wq_3 : ((cL_law.data.toList.drop 192).take 72).map UInt8.toNat = [0, 0, 9, 196, 0, 0, 10, 8, 0, 0, 10, 76, 0, 0, 10, 144, 0, 0, 10, 226, 0, 0, 11, 38, 0, 0, 11, 106, 0, 0, 11, 174, 0, 0, 11, 242, 0, 0, 12, 42, 0, 0, 12, 110, 0, 0, 12, 178, 0, 0, 12, 246, 0, 0, 13, 70, 0, 0, 13, 150, 0, 0, 13, 239, 0, 0, 14, 85, 0, 0, 14, 153] := by decide +kernel
set_option maxRecDepth 100000 in
theorem wq_4 : ((cL_law.data.toList.drop 256).take 72).map UInt8.toNat = [0, 0, 14, 85, 0, 0, 14, 153, 0, 0, 14, 233, 0, 0, 15, 45, 0, 0, 15, 108, 0, 0, 15, 183, 43, 42, 21, 5, 4, 96, 46, 42, 21, 5, 5, 96, 46, 45, 184, 0, 192, 54, 6, 44, 42, 21, 5, 4, 96, 46, 42, 21, 5, 5, 96, 46, 182, 0, 197, 54, 7, 44, 182, 0, 198, 21, 6, 159, 0, 5, 3, 172] := by decide +kernel
set_option maxRecDepth 100000 in
theorem wq_5 : ((cL_law.data.toList.drop 320).take 72).map UInt8.toNat = [198, 21, 6, 159, 0, 5, 3, 172, 21, 6, 154, 0, 15, 45, 3, 47, 21, 7, 133, 148, 153, 0, 5, 3, 172, 167, 14, 152, 43, 42, 21, 5, 4, 96, 46, 42, 21, 5, 5, 96, 46, 45, 184, 0, 202, 54, 6, 44, 42, 21, 5, 4, 96, 46, 42, 21, 5, 5, 96, 46, 182, 0, 204, 54, 7, 44, 182, 0, 198, 21, 6, 159] := by decide +kernel
set_option maxRecDepth 100000 in
theorem wq_6 : ((cL_law.data.toList.drop 384).take 72).map UInt8.toNat = [7, 44, 182, 0, 198, 21, 6, 159, 0, 5, 3, 172, 21, 6, 154, 0, 15, 45, 3, 47, 21, 7, 133, 148, 153, 0, 5, 3, 172, 167, 14, 84, 43, 42, 21, 5, 4, 96, 46, 42, 21, 5, 5, 96, 46, 45, 184, 0, 205, 54, 6, 44, 42, 21, 5, 4, 96, 46, 42, 21, 5, 5, 96, 46, 182, 0, 207, 54, 7, 44, 182, 0] := by decide +kernel
set_option maxRecDepth 100000 in
theorem wq_7 : ((cL_law.data.toList.drop 448).take 72).map UInt8.toNat = [182, 0, 207, 54, 7, 44, 182, 0, 198, 21, 6, 159, 0, 5, 3, 172, 21, 6, 154, 0, 15, 45, 3, 47, 21, 7, 133, 148, 153, 0, 5, 3, 172, 167, 14, 16, 43, 42, 21, 5, 4, 96, 46, 42, 21, 5, 5, 96, 46, 45, 184, 0, 208, 54, 6, 44, 42, 21, 5, 4, 96, 46, 42, 21, 5, 5, 96, 46, 182, 0, 210, 54] := by decide +kernel
set_option maxRecDepth 100000 in
theorem wq_8 : ((cL_law.data.toList.drop 512).take 72).map UInt8.toNat = [5, 5, 96, 46, 182, 0, 210, 54, 7, 44, 182, 0, 198, 21, 6, 159, 0, 5, 3, 172, 21, 6, 154, 0, 15, 45, 3, 47, 21, 7, 133, 148, 153, 0, 5, 3, 172, 167, 13, 204, 43, 42, 21, 5, 4, 96, 46, 42, 21, 5, 5, 96, 46, 45, 184, 0, 211, 54, 6, 44, 42, 21, 5, 4, 96, 46, 42, 21, 5, 5, 96, 46] := by decide +kernel
set_option maxRecDepth 100000 in
theorem wq_9 : ((cL_law.data.toList.drop 576).take 72).map UInt8.toNat = [96, 46, 42, 21, 5, 5, 96, 46, 182, 0, 213, 54, 7, 44, 182, 0, 198, 21, 6, 159, 0, 5, 3, 172, 21, 6, 154, 0, 15, 45, 3, 47, 21, 7, 133, 148, 153, 0, 5, 3, 172, 167, 13, 136, 43, 42, 21, 5, 4, 96, 46, 42, 21, 5, 5, 96, 46, 42, 21, 5, 6, 96, 46, 45, 184, 0, 214, 54, 6, 44, 42, 21] := by decide +kernel
set_option maxRecDepth 100000 in
theorem wq_10 : ((cL_law.data.toList.drop 640).take 72).map UInt8.toNat = [184, 0, 214, 54, 6, 44, 42, 21, 5, 4, 96, 46, 42, 21, 5, 5, 96, 46, 42, 21, 5, 6, 96, 46, 182, 0, 217, 54, 7, 44, 182, 0, 198, 21, 6, 159, 0, 5, 3, 172, 21, 6, 154, 0, 15, 45, 3, 47, 21, 7, 133, 148, 153, 0, 5, 3, 172, 167, 13, 56, 43, 42, 21, 5, 4, 96, 46, 42, 21, 5, 5, 96] := by decide +kernel
set_option maxRecDepth 100000 in
theorem wq_11 : ((cL_law.data.toList.drop 704).take 72).map UInt8.toNat = [4, 96, 46, 42, 21, 5, 5, 96, 46, 42, 21, 5, 6, 96, 46, 45, 184, 0, 218, 54, 6, 44, 42, 21, 5, 4, 96, 46, 42, 21, 5, 5, 96, 46, 42, 21, 5, 6, 96, 46, 182, 0, 220, 54, 7, 44, 182, 0, 198, 21, 6, 159, 0, 5, 3, 172, 21, 6, 154, 0, 15, 45, 3, 47, 21, 7, 133, 148, 153, 0, 5, 3] := by decide +kernel
set_option maxRecDepth 100000 in
theorem wq_12 : ((cL_law.data.toList.drop 768).take 72).map UInt8.toNat = [21, 7, 133, 148, 153, 0, 5, 3, 172, 167, 12, 232, 43, 42, 21, 5, 4, 96, 46, 42, 21, 5, 5, 96, 46, 42, 21, 5, 6, 96, 46, 45, 184, 0, 221, 54, 6, 44, 42, 21, 5, 4, 96, 46, 42, 21, 5, 5, 96, 46, 42, 21, 5, 6, 96, 46, 182, 0, 223, 54, 7, 44, 182, 0, 198, 21, 6, 159, 0, 5, 3, 172] := by decide +kernel
set_option maxRecDepth 100000 in
theorem wq_13 : ((cL_law.data.toList.drop 832).take 72).map UInt8.toNat = [198, 21, 6, 159, 0, 5, 3, 172, 21, 6, 154, 0, 15, 45, 3, 47, 21, 7, 133, 148, 153, 0, 5, 3, 172, 167, 12, 152, 43, 42, 21, 5, 4, 96, 46, 42, 21, 5, 5, 96, 46, 45, 184, 0, 224, 54, 6, 44, 42, 21, 5, 4, 96, 46, 42, 21, 5, 5, 96, 46, 182, 0, 226, 54, 7, 44, 182, 0, 198, 21, 6, 159] := by decide +kernel
set_option maxRecDepth 100000 in
theorem wq_14 : ((cL_law.data.toList.drop 896).take 72).map UInt8.toNat = [7, 44, 182, 0, 198, 21, 6, 159, 0, 5, 3, 172, 21, 6, 154, 0, 15, 45, 3, 47, 21, 7, 133, 148, 153, 0, 5, 3, 172, 167, 12, 84, 43, 42, 21, 5, 4, 96, 46, 45, 184, 0, 227, 54, 6, 44, 42, 21, 5, 4, 96, 46, 182, 0, 230, 54, 7, 44, 182, 0, 198, 21, 6, 159, 0, 5, 3, 172, 21, 6, 154, 0] := by decide +kernel
set_option maxRecDepth 100000 in
theorem wq_15 : ((cL_law.data.toList.drop 960).take 72).map UInt8.toNat = [0, 5, 3, 172, 21, 6, 154, 0, 15, 45, 3, 47, 21, 7, 133, 148, 153, 0, 5, 3, 172, 167, 12, 28, 43, 42, 21, 5, 4, 96, 46, 42, 21, 5, 5, 96, 46, 45, 184, 0, 231, 54, 6, 44, 42, 21, 5, 4, 96, 46, 42, 21, 5, 5, 96, 46, 182, 0, 233, 54, 7, 44, 182, 0, 198, 21, 6, 159, 0, 5, 3, 172] := by decide +kernel
set_option maxRecDepth 100000 in
theorem wq_16 : ((cL_law.data.toList.drop 1024).take 72).map UInt8.toNat = [198, 21, 6, 159, 0, 5, 3, 172, 21, 6, 154, 0, 15, 45, 3, 47, 21, 7, 133, 148, 153, 0, 5, 3, 172, 167, 11, 216, 43, 42, 21, 5, 4, 96, 46, 42, 21, 5, 5, 96, 46, 42, 21, 5, 6, 96, 46, 45, 184, 0, 234, 54, 6, 44, 42, 21, 5, 4, 96, 46, 42, 21, 5, 5, 96, 46, 42, 21, 5, 6, 96, 46] := by decide +kernel
set_option maxRecDepth 100000 in
theorem wq_17 : ((cL_law.data.toList.drop 1088).take 72).map UInt8.toNat = [96, 46, 42, 21, 5, 6, 96, 46, 182, 0, 236, 54, 7, 44, 182, 0, 198, 21, 6, 159, 0, 5, 3, 172, 21, 6, 154, 0, 15, 45, 3, 47, 21, 7, 133, 148, 153, 0, 5, 3, 172, 167, 11, 136, 43, 42, 21, 5, 4, 96, 46, 42, 21, 5, 5, 96, 46, 42, 21, 5, 6, 96, 46, 45, 184, 0, 237, 54, 6, 44, 42, 21] := by decide +kernel
set_option maxRecDepth 100000 in
theorem wq_18 : ((cL_law.data.toList.drop 1152).take 72).map UInt8.toNat = [184, 0, 237, 54, 6, 44, 42, 21, 5, 4, 96, 46, 42, 21, 5, 5, 96, 46, 42, 21, 5, 6, 96, 46, 182, 0, 239, 54, 7, 44, 182, 0, 198, 21, 6, 159, 0, 5, 3, 172, 21, 6, 154, 0, 15, 45, 3, 47, 21, 7, 133, 148, 153, 0, 5, 3, 172, 167, 11, 56, 43, 42, 21, 5, 4, 96, 46, 42, 21, 5, 5, 96] := by decide +kernel
set_option maxRecDepth 100000 in
theorem wq_19 : ((cL_law.data.toList.drop 1216).take 72).map UInt8.toNat = [4, 96, 46, 42, 21, 5, 5, 96, 46, 42, 21, 5, 6, 96, 46, 45, 184, 0, 240, 54, 6, 44, 42, 21, 5, 4, 96, 46, 42, 21, 5, 5, 96, 46, 42, 21, 5, 6, 96, 46, 182, 0, 242, 54, 7, 44, 182, 0, 198, 21, 6, 159, 0, 5, 3, 172, 21, 6, 154, 0, 15, 45, 3, 47, 21, 7, 133, 148, 153, 0, 5, 3] := by decide +kernel
set_option maxRecDepth 100000 in
theorem wq_20 : ((cL_law.data.toList.drop 1280).take 72).map UInt8.toNat = [21, 7, 133, 148, 153, 0, 5, 3, 172, 167, 10, 232, 43, 42, 21, 5, 4, 96, 46, 45, 184, 0, 243, 54, 6, 44, 42, 21, 5, 4, 96, 46, 182, 0, 245, 54, 7, 44, 182, 0, 198, 21, 6, 159, 0, 5, 3, 172, 21, 6, 154, 0, 15, 45, 3, 47, 21, 7, 133, 148, 153, 0, 5, 3, 172, 167, 10, 176, 43, 42, 21, 5] := by decide +kernel
set_option maxRecDepth 100000 in
theorem wq_21 : ((cL_law.data.toList.drop 1344).take 72).map UInt8.toNat = [172, 167, 10, 176, 43, 42, 21, 5, 4, 96, 46, 45, 184, 0, 246, 54, 6, 44, 42, 21, 5, 4, 96, 46, 182, 0, 248, 54, 7, 44, 182, 0, 198, 21, 6, 159, 0, 5, 3, 172, 21, 6, 154, 0, 15, 45, 3, 47, 21, 7, 133, 148, 153, 0, 5, 3, 172, 167, 10, 120, 43, 42, 21, 5, 4, 96, 46, 45, 184, 0, 249, 54] := by decide +kernel
set_option maxRecDepth 100000 in
theorem wq_22 : ((cL_law.data.toList.drop 1408).take 72).map UInt8.toNat = [4, 96, 46, 45, 184, 0, 249, 54, 6, 44, 42, 21, 5, 4, 96, 46, 182, 0, 251, 54, 7, 44, 182, 0, 198, 21, 6, 159, 0, 5, 3, 172, 21, 6, 154, 0, 15, 45, 3, 47, 21, 7, 133, 148, 153, 0, 5, 3, 172, 167, 10, 64, 43, 42, 21, 5, 4, 96, 46, 42, 21, 5, 5, 96, 46, 42, 21, 5, 6, 96, 46, 45] := by decide +kernel
set_option maxRecDepth 100000 in
theorem wq_23 : ((cL_law.data.toList.drop 1472).take 72).map UInt8.toNat = [46, 42, 21, 5, 6, 96, 46, 45, 184, 0, 252, 54, 6, 44, 42, 21, 5, 4, 96, 46, 42, 21, 5, 5, 96, 46, 42, 21, 5, 6, 96, 46, 182, 0, 254, 54, 7, 44, 182, 0, 198, 21, 6, 159, 0, 5, 3, 172, 21, 6, 154, 0, 15, 45, 3, 47, 21, 7, 133, 148, 153, 0, 5, 3, 172, 167, 9, 240, 43, 42, 21, 5] := by decide +kernel
set_option maxRecDepth 100000 in
theorem wq_24 : ((cL_law.data.toList.drop 1536).take 72).map UInt8.toNat = [172, 167, 9, 240, 43, 42, 21, 5, 4, 96, 46, 42, 21, 5, 5, 96, 46, 42, 21, 5, 6, 96, 46, 45, 184, 0, 255, 54, 6, 44, 42, 21, 5, 4, 96, 46, 42, 21, 5, 5, 96, 46, 42, 21, 5, 6, 96, 46, 182, 1, 1, 54, 7, 44, 182, 0, 198, 21, 6, 159, 0, 5, 3, 172, 21, 6, 154, 0, 22, 45, 3, 47] := by decide +kernel
set_option maxRecDepth 100000 in
theorem wq_25 : ((cL_law.data.toList.drop 1600).take 72).map UInt8.toNat = [21, 6, 154, 0, 22, 45, 3, 47, 21, 7, 153, 0, 7, 10, 167, 0, 4, 9, 148, 153, 0, 5, 3, 172, 167, 9, 153, 43, 42, 21, 5, 4, 96, 46, 42, 21, 5, 5, 96, 46, 45, 184, 1, 2, 54, 6, 44, 42, 21, 5, 4, 96, 46, 42, 21, 5, 5, 96, 46, 182, 1, 4, 54, 7, 44, 182, 0, 198, 21, 6, 159, 0] := by decide +kernel
set_option maxRecDepth 100000 in
theorem wq_26 : ((cL_law.data.toList.drop 1664).take 72).map UInt8.toNat = [44, 182, 0, 198, 21, 6, 159, 0, 5, 3, 172, 21, 6, 154, 0, 15, 45, 3, 47, 21, 7, 133, 148, 153, 0, 5, 3, 172, 167, 9, 85, 43, 42, 21, 5, 4, 96, 46, 42, 21, 5, 5, 96, 46, 45, 184, 1, 5, 54, 6, 44, 42, 21, 5, 4, 96, 46, 42, 21, 5, 5, 96, 46, 182, 1, 7, 54, 7, 44, 182, 0, 198] := by decide +kernel
set_option maxRecDepth 100000 in
theorem wq_27 : ((cL_law.data.toList.drop 1728).take 72).map UInt8.toNat = [1, 7, 54, 7, 44, 182, 0, 198, 21, 6, 159, 0, 5, 3, 172, 21, 6, 154, 0, 15, 45, 3, 47, 21, 7, 133, 148, 153, 0, 5, 3, 172, 167, 9, 17, 43, 42, 21, 5, 4, 96, 46, 42, 21, 5, 5, 96, 46, 153, 0, 7, 4, 167, 0, 4, 3, 45, 184, 1, 8, 54, 6, 44, 42, 21, 5, 4, 96, 46, 42, 21, 5] := by decide +kernel
set_option maxRecDepth 100000 in
theorem wq_28 : ((cL_law.data.toList.drop 1792).take 72).map UInt8.toNat = [21, 5, 4, 96, 46, 42, 21, 5, 5, 96, 46, 153, 0, 7, 4, 167, 0, 4, 3, 182, 1, 11, 54, 7, 44, 182, 0, 198, 21, 6, 159, 0, 5, 3, 172, 21, 6, 154, 0, 15, 45, 3, 47, 21, 7, 133, 148, 153, 0, 5, 3, 172, 167, 8, 189, 43, 42, 21, 5, 4, 96, 46, 42, 21, 5, 5, 96, 46, 45, 184, 1, 12] := by decide +kernel
set_option maxRecDepth 100000 in
theorem wq_29 : ((cL_law.data.toList.drop 1856).take 72).map UInt8.toNat = [5, 5, 96, 46, 45, 184, 1, 12, 54, 6, 44, 42, 21, 5, 4, 96, 46, 42, 21, 5, 5, 96, 46, 182, 1, 14, 54, 7, 44, 182, 0, 198, 21, 6, 159, 0, 5, 3, 172, 21, 6, 154, 0, 15, 45, 3, 47, 21, 7, 133, 148, 153, 0, 5, 3, 172, 167, 8, 121, 43, 42, 21, 5, 4, 96, 46, 42, 21, 5, 5, 96, 46] := by decide +kernel
set_option maxRecDepth 100000 in
theorem wq_30 : ((cL_law.data.toList.drop 1920).take 72).map UInt8.toNat = [96, 46, 42, 21, 5, 5, 96, 46, 45, 184, 1, 15, 54, 6, 44, 42, 21, 5, 4, 96, 46, 42, 21, 5, 5, 96, 46, 182, 1, 17, 54, 7, 44, 182, 0, 198, 21, 6, 159, 0, 5, 3, 172, 21, 6, 154, 0, 22, 45, 3, 47, 21, 7, 153, 0, 7, 10, 167, 0, 4, 9, 148, 153, 0, 5, 3, 172, 167, 8, 46, 43, 42] := by decide +kernel
set_option maxRecDepth 100000 in
theorem wq_31 : ((cL_law.data.toList.drop 1984).take 72).map UInt8.toNat = [5, 3, 172, 167, 8, 46, 43, 42, 21, 5, 4, 96, 46, 42, 21, 5, 5, 96, 46, 45, 184, 1, 18, 54, 6, 44, 42, 21, 5, 4, 96, 46, 42, 21, 5, 5, 96, 46, 182, 1, 20, 54, 7, 44, 182, 0, 198, 21, 6, 159, 0, 5, 3, 172, 21, 6, 154, 0, 22, 45, 3, 47, 21, 7, 153, 0, 7, 10, 167, 0, 4, 9] := by decide +kernel
set_option maxRecDepth 100000 in
theorem wq_32 : ((cL_law.data.toList.drop 2048).take 72).map UInt8.toNat = [153, 0, 7, 10, 167, 0, 4, 9, 148, 153, 0, 5, 3, 172, 167, 7, 227, 43, 42, 21, 5, 4, 96, 46, 42, 21, 5, 5, 96, 46, 45, 184, 1, 21, 54, 6, 44, 42, 21, 5, 4, 96, 46, 42, 21, 5, 5, 96, 46, 182, 1, 23, 54, 7, 44, 182, 0, 198, 21, 6, 159, 0, 5, 3, 172, 21, 6, 154, 0, 22, 45, 3] := by decide +kernel
set_option maxRecDepth 100000 in
theorem wq_33 : ((cL_law.data.toList.drop 2112).take 72).map UInt8.toNat = [172, 21, 6, 154, 0, 22, 45, 3, 47, 21, 7, 153, 0, 7, 10, 167, 0, 4, 9, 148, 153, 0, 5, 3, 172, 167, 7, 152, 43, 42, 21, 5, 4, 96, 46, 42, 21, 5, 5, 96, 46, 45, 184, 1, 24, 54, 6, 44, 42, 21, 5, 4, 96, 46, 42, 21, 5, 5, 96, 46, 182, 1, 26, 54, 7, 44, 182, 0, 198, 21, 6, 159] := by decide +kernel
set_option maxRecDepth 100000 in
theorem wq_34 : ((cL_law.data.toList.drop 2176).take 72).map UInt8.toNat = [7, 44, 182, 0, 198, 21, 6, 159, 0, 5, 3, 172, 21, 6, 154, 0, 15, 45, 3, 47, 21, 7, 133, 148, 153, 0, 5, 3, 172, 167, 7, 84, 43, 42, 21, 5, 4, 96, 46, 45, 184, 1, 27, 54, 6, 44, 42, 21, 5, 4, 96, 46, 182, 1, 29, 54, 7, 44, 182, 0, 198, 21, 6, 159, 0, 5, 3, 172, 21, 6, 154, 0] := by decide +kernel
set_option maxRecDepth 100000 in
theorem wq_35 : ((cL_law.data.toList.drop 2240).take 72).map UInt8.toNat = [0, 5, 3, 172, 21, 6, 154, 0, 15, 45, 3, 47, 21, 7, 133, 148, 153, 0, 5, 3, 172, 167, 7, 28, 43, 42, 21, 5, 4, 96, 46, 45, 184, 1, 30, 54, 6, 44, 42, 21, 5, 4, 96, 46, 182, 1, 32, 54, 7, 44, 182, 0, 198, 21, 6, 159, 0, 5, 3, 172, 21, 6, 154, 0, 15, 45, 3, 47, 21, 7, 133, 148] := by decide +kernel
set_option maxRecDepth 100000 in
theorem wq_36 : ((cL_law.data.toList.drop 2304).take 72).map UInt8.toNat = [15, 45, 3, 47, 21, 7, 133, 148, 153, 0, 5, 3, 172, 167, 6, 228, 43, 42, 21, 5, 4, 96, 46, 45, 184, 1, 33, 54, 6, 44, 42, 21, 5, 4, 96, 46, 182, 1, 35, 54, 7, 44, 182, 0, 198, 21, 6, 159, 0, 5, 3, 172, 21, 6, 154, 0, 15, 45, 3, 47, 21, 7, 133, 148, 153, 0, 5, 3, 172, 167, 6, 172] := by decide +kernel
set_option maxRecDepth 100000 in
theorem wq_37 : ((cL_law.data.toList.drop 2368).take 72).map UInt8.toNat = [153, 0, 5, 3, 172, 167, 6, 172, 43, 42, 21, 5, 4, 96, 46, 45, 184, 1, 36, 54, 6, 44, 42, 21, 5, 4, 96, 46, 182, 1, 38, 54, 7, 44, 182, 0, 198, 21, 6, 159, 0, 5, 3, 172, 21, 6, 154, 0, 15, 45, 3, 47, 21, 7, 133, 148, 153, 0, 5, 3, 172, 167, 6, 116, 43, 42, 21, 5, 4, 96, 46, 45] := by decide +kernel
set_option maxRecDepth 100000 in
theorem wq_38 : ((cL_law.data.toList.drop 2432).take 72).map UInt8.toNat = [43, 42, 21, 5, 4, 96, 46, 45, 184, 1, 39, 54, 6, 44, 42, 21, 5, 4, 96, 46, 182, 1, 41, 54, 7, 44, 182, 0, 198, 21, 6, 159, 0, 5, 3, 172, 21, 6, 154, 0, 15, 45, 3, 47, 21, 7, 133, 148, 153, 0, 5, 3, 172, 167, 6, 60, 43, 42, 21, 5, 4, 96, 46, 45, 184, 1, 42, 54, 6, 44, 42, 21] := by decide +kernel
set_option maxRecDepth 100000 in
theorem wq_39 : ((cL_law.data.toList.drop 2496).take 72).map UInt8.toNat = [184, 1, 42, 54, 6, 44, 42, 21, 5, 4, 96, 46, 182, 1, 44, 54, 7, 44, 182, 0, 198, 21, 6, 159, 0, 5, 3, 172, 21, 6, 154, 0, 15, 45, 3, 47, 21, 7, 133, 148, 153, 0, 5, 3, 172, 167, 6, 4, 43, 42, 21, 5, 4, 96, 46, 42, 21, 5, 5, 96, 46, 45, 184, 1, 45, 54, 6, 44, 42, 21, 5, 4] := by decide +kernel
set_option maxRecDepth 100000 in
theorem wq_40 : ((cL_law.data.toList.drop 2560).take 72).map UInt8.toNat = [45, 54, 6, 44, 42, 21, 5, 4, 96, 46, 42, 21, 5, 5, 96, 46, 182, 1, 47, 54, 7, 44, 182, 0, 198, 21, 6, 159, 0, 5, 3, 172, 21, 6, 154, 0, 15, 45, 3, 47, 21, 7, 133, 148, 153, 0, 5, 3, 172, 167, 5, 192, 43, 42, 21, 5, 4, 96, 46, 42, 21, 5, 5, 96, 46, 45, 184, 1, 48, 54, 6, 44] := by decide +kernel
set_option maxRecDepth 100000 in
theorem wq_41 : ((cL_law.data.toList.drop 2624).take 72).map UInt8.toNat = [46, 45, 184, 1, 48, 54, 6, 44, 42, 21, 5, 4, 96, 46, 42, 21, 5, 5, 96, 46, 182, 1, 50, 54, 7, 44, 182, 0, 198, 21, 6, 159, 0, 5, 3, 172, 21, 6, 154, 0, 15, 45, 3, 47, 21, 7, 133, 148, 153, 0, 5, 3, 172, 167, 5, 124, 43, 42, 21, 5, 4, 96, 46, 42, 21, 5, 5, 96, 46, 45, 184, 1] := by decide +kernel
set_option maxRecDepth 100000 in
theorem wq_42 : ((cL_law.data.toList.drop 2688).take 72).map UInt8.toNat = [21, 5, 5, 96, 46, 45, 184, 1, 51, 54, 6, 44, 42, 21, 5, 4, 96, 46, 42, 21, 5, 5, 96, 46, 182, 1, 53, 54, 7, 44, 182, 0, 198, 21, 6, 159, 0, 5, 3, 172, 21, 6, 154, 0, 15, 45, 3, 47, 21, 7, 133, 148, 153, 0, 5, 3, 172, 167, 5, 56, 43, 42, 21, 5, 4, 96, 46, 42, 21, 5, 5, 96] := by decide +kernel
set_option maxRecDepth 100000 in
theorem wq_43 : ((cL_law.data.toList.drop 2752).take 72).map UInt8.toNat = [4, 96, 46, 42, 21, 5, 5, 96, 46, 42, 21, 5, 6, 96, 46, 146, 45, 184, 1, 54, 54, 6, 44, 42, 21, 5, 4, 96, 46, 42, 21, 5, 5, 96, 46, 42, 21, 5, 6, 96, 46, 146, 182, 1, 57, 54, 7, 44, 182, 0, 198, 21, 6, 159, 0, 5, 3, 172, 21, 6, 154, 0, 15, 45, 3, 47, 21, 7, 133, 148, 153, 0] := by decide +kernel
set_option maxRecDepth 100000 in
theorem wq_44 : ((cL_law.data.toList.drop 2816).take 72).map UInt8.toNat = [3, 47, 21, 7, 133, 148, 153, 0, 5, 3, 172, 167, 4, 230, 43, 42, 21, 5, 4, 96, 46, 42, 21, 5, 5, 96, 46, 45, 184, 1, 58, 54, 6, 44, 42, 21, 5, 4, 96, 46, 42, 21, 5, 5, 96, 46, 182, 1, 60, 54, 7, 44, 182, 0, 198, 21, 6, 159, 0, 5, 3, 172, 21, 6, 154, 0, 15, 45, 3, 47, 21, 7] := by decide +kernel
set_option maxRecDepth 100000 in
theorem wq_45 : ((cL_law.data.toList.drop 2880).take 72).map UInt8.toNat = [154, 0, 15, 45, 3, 47, 21, 7, 133, 148, 153, 0, 5, 3, 172, 167, 4, 162, 43, 42, 21, 5, 4, 96, 46, 42, 21, 5, 5, 96, 46, 45, 184, 1, 61, 54, 6, 44, 42, 21, 5, 4, 96, 46, 42, 21, 5, 5, 96, 46, 182, 1, 63, 54, 7, 44, 182, 0, 198, 21, 6, 159, 0, 5, 3, 172, 21, 6, 154, 0, 15, 45] := by decide +kernel
set_option maxRecDepth 100000 in
theorem wq_46 : ((cL_law.data.toList.drop 2944).take 72).map UInt8.toNat = [3, 172, 21, 6, 154, 0, 15, 45, 3, 47, 21, 7, 133, 148, 153, 0, 5, 3, 172, 167, 4, 94, 43, 42, 21, 5, 4, 96, 46, 42, 21, 5, 5, 96, 46, 45, 184, 1, 64, 54, 6, 44, 42, 21, 5, 4, 96, 46, 42, 21, 5, 5, 96, 46, 182, 1, 66, 54, 7, 44, 182, 0, 198, 21, 6, 159, 0, 5, 3, 172, 21, 6] := by decide +kernel
set_option maxRecDepth 100000 in
theorem wq_47 : ((cL_law.data.toList.drop 3008).take 72).map UInt8.toNat = [6, 159, 0, 5, 3, 172, 21, 6, 154, 0, 15, 45, 3, 47, 21, 7, 133, 148, 153, 0, 5, 3, 172, 167, 4, 26, 43, 42, 21, 5, 4, 96, 46, 42, 21, 5, 5, 96, 46, 45, 184, 1, 67, 54, 6, 44, 42, 21, 5, 4, 96, 46, 42, 21, 5, 5, 96, 46, 182, 1, 69, 54, 7, 44, 182, 0, 198, 21, 6, 159, 0, 5] := by decide +kernel
set_option maxRecDepth 100000 in
theorem wq_48 : ((cL_law.data.toList.drop 3072).take 72).map UInt8.toNat = [182, 0, 198, 21, 6, 159, 0, 5, 3, 172, 21, 6, 154, 0, 15, 45, 3, 47, 21, 7, 133, 148, 153, 0, 5, 3, 172, 167, 3, 214, 43, 42, 21, 5, 4, 96, 46, 45, 184, 1, 70, 54, 6, 44, 42, 21, 5, 4, 96, 46, 182, 1, 72, 54, 7, 44, 182, 0, 198, 21, 6, 159, 0, 5, 3, 172, 21, 6, 154, 0, 15, 45] := by decide +kernel
set_option maxRecDepth 100000 in
theorem wq_49 : ((cL_law.data.toList.drop 3136).take 72).map UInt8.toNat = [3, 172, 21, 6, 154, 0, 15, 45, 3, 47, 21, 7, 133, 148, 153, 0, 5, 3, 172, 167, 3, 158, 43, 42, 21, 5, 4, 96, 46, 42, 21, 5, 5, 96, 46, 45, 184, 1, 73, 54, 6, 44, 42, 21, 5, 4, 96, 46, 42, 21, 5, 5, 96, 46, 182, 1, 75, 54, 7, 44, 182, 0, 198, 21, 6, 159, 0, 5, 3, 172, 21, 6] := by decide +kernel
set_option maxRecDepth 100000 in
theorem wq_50 : ((cL_law.data.toList.drop 3200).take 72).map UInt8.toNat = [6, 159, 0, 5, 3, 172, 21, 6, 154, 0, 15, 45, 3, 47, 21, 7, 133, 148, 153, 0, 5, 3, 172, 167, 3, 90, 43, 42, 21, 5, 4, 96, 46, 42, 21, 5, 5, 96, 46, 45, 184, 1, 76, 54, 6, 44, 42, 21, 5, 4, 96, 46, 42, 21, 5, 5, 96, 46, 182, 1, 78, 54, 7, 44, 182, 0, 198, 21, 6, 159, 0, 5] := by decide +kernel
set_option maxRecDepth 100000 in
theorem wq_51 : ((cL_law.data.toList.drop 3264).take 72).map UInt8.toNat = [182, 0, 198, 21, 6, 159, 0, 5, 3, 172, 21, 6, 154, 0, 15, 45, 3, 47, 21, 7, 133, 148, 153, 0, 5, 3, 172, 167, 3, 22, 43, 42, 21, 5, 4, 96, 46, 42, 21, 5, 5, 96, 46, 45, 184, 1, 79, 54, 6, 44, 42, 21, 5, 4, 96, 46, 42, 21, 5, 5, 96, 46, 182, 1, 81, 54, 7, 44, 182, 0, 198, 21] := by decide +kernel
set_option maxRecDepth 100000 in
theorem wq_52 : ((cL_law.data.toList.drop 3328).take 72).map UInt8.toNat = [81, 54, 7, 44, 182, 0, 198, 21, 6, 159, 0, 5, 3, 172, 21, 6, 154, 0, 15, 45, 3, 47, 21, 7, 133, 148, 153, 0, 5, 3, 172, 167, 2, 210, 43, 42, 21, 5, 4, 96, 46, 42, 21, 5, 5, 96, 46, 42, 21, 5, 6, 96, 46, 45, 184, 1, 82, 54, 6, 44, 42, 21, 5, 4, 96, 46, 42, 21, 5, 5, 96, 46] := by decide +kernel
set_option maxRecDepth 100000 in
theorem wq_53 : ((cL_law.data.toList.drop 3392).take 72).map UInt8.toNat = [96, 46, 42, 21, 5, 5, 96, 46, 42, 21, 5, 6, 96, 46, 182, 1, 84, 54, 7, 44, 182, 0, 198, 21, 6, 159, 0, 5, 3, 172, 21, 6, 154, 0, 15, 45, 3, 47, 21, 7, 133, 148, 153, 0, 5, 3, 172, 167, 2, 130, 43, 42, 21, 5, 4, 96, 46, 42, 21, 5, 5, 96, 46, 42, 21, 5, 6, 96, 46, 45, 184, 1] := by decide +kernel
set_option maxRecDepth 100000 in
theorem wq_54 : ((cL_law.data.toList.drop 3456).take 72).map UInt8.toNat = [21, 5, 6, 96, 46, 45, 184, 1, 85, 54, 6, 44, 42, 21, 5, 4, 96, 46, 42, 21, 5, 5, 96, 46, 42, 21, 5, 6, 96, 46, 182, 1, 87, 54, 7, 44, 182, 0, 198, 21, 6, 159, 0, 5, 3, 172, 21, 6, 154, 0, 15, 45, 3, 47, 21, 7, 133, 148, 153, 0, 5, 3, 172, 167, 2, 50, 43, 42, 21, 5, 4, 96] := by decide +kernel
set_option maxRecDepth 100000 in
theorem wq_55 : ((cL_law.data.toList.drop 3520).take 72).map UInt8.toNat = [2, 50, 43, 42, 21, 5, 4, 96, 46, 42, 21, 5, 5, 96, 46, 25, 4, 184, 1, 88, 54, 6, 44, 42, 21, 5, 4, 96, 46, 42, 21, 5, 5, 96, 46, 182, 1, 91, 57, 7, 44, 182, 0, 198, 21, 6, 159, 0, 5, 3, 172, 21, 6, 154, 0, 35, 25, 4, 3, 49, 24, 7, 151, 153, 0, 25, 25, 4, 3, 49, 25, 4] := by decide +kernel
set_option maxRecDepth 100000 in
theorem wq_56 : ((cL_law.data.toList.drop 3584).take 72).map UInt8.toNat = [0, 25, 25, 4, 3, 49, 25, 4, 3, 49, 151, 153, 0, 11, 24, 7, 24, 7, 151, 154, 0, 5, 3, 172, 167, 1, 217, 43, 42, 21, 5, 4, 96, 46, 42, 21, 5, 5, 96, 46, 42, 21, 5, 6, 96, 46, 25, 4, 184, 1, 92, 54, 6, 44, 42, 21, 5, 4, 96, 46, 42, 21, 5, 5, 96, 46, 42, 21, 5, 6, 96, 46] := by decide +kernel
set_option maxRecDepth 100000 in
theorem wq_57 : ((cL_law.data.toList.drop 3648).take 72).map UInt8.toNat = [96, 46, 42, 21, 5, 6, 96, 46, 182, 1, 95, 56, 7, 44, 182, 0, 198, 21, 6, 159, 0, 5, 3, 172, 21, 6, 154, 0, 36, 25, 4, 3, 49, 23, 7, 141, 151, 153, 0, 25, 25, 4, 3, 49, 25, 4, 3, 49, 151, 153, 0, 11, 23, 7, 23, 7, 149, 154, 0, 5, 3, 172, 167, 1, 115, 43, 42, 21, 5, 4, 96, 46] := by decide +kernel
set_option maxRecDepth 100000 in
theorem wq_58 : ((cL_law.data.toList.drop 3712).take 72).map UInt8.toNat = [115, 43, 42, 21, 5, 4, 96, 46, 42, 21, 5, 5, 96, 46, 45, 184, 1, 96, 54, 6, 44, 42, 21, 5, 4, 96, 46, 42, 21, 5, 5, 96, 46, 182, 1, 98, 54, 7, 44, 182, 0, 198, 21, 6, 159, 0, 5, 3, 172, 21, 6, 154, 0, 15, 45, 3, 47, 21, 7, 133, 148, 153, 0, 5, 3, 172, 167, 1, 47, 43, 42, 21] := by decide +kernel
set_option maxRecDepth 100000 in
theorem wq_59 : ((cL_law.data.toList.drop 3776).take 72).map UInt8.toNat = [3, 172, 167, 1, 47, 43, 42, 21, 5, 4, 96, 46, 42, 21, 5, 5, 96, 46, 42, 21, 5, 6, 96, 46, 45, 184, 1, 99, 54, 6, 44, 42, 21, 5, 4, 96, 46, 42, 21, 5, 5, 96, 46, 42, 21, 5, 6, 96, 46, 182, 1, 101, 54, 7, 44, 182, 0, 198, 21, 6, 159, 0, 5, 3, 172, 21, 6, 154, 0, 15, 45, 3] := by decide +kernel
set_option maxRecDepth 100000 in
theorem wq_60 : ((cL_law.data.toList.drop 3840).take 72).map UInt8.toNat = [172, 21, 6, 154, 0, 15, 45, 3, 47, 21, 7, 133, 148, 153, 0, 5, 3, 172, 167, 0, 223, 43, 42, 21, 5, 4, 96, 46, 42, 21, 5, 5, 96, 46, 45, 184, 1, 102, 54, 6, 44, 42, 21, 5, 4, 96, 46, 42, 21, 5, 5, 96, 46, 182, 1, 104, 54, 7, 44, 182, 0, 198, 21, 6, 159, 0, 5, 3, 172, 21, 6, 154] := by decide +kernel
set_option maxRecDepth 100000 in
theorem wq_61 : ((cL_law.data.toList.drop 3904).take 72).map UInt8.toNat = [159, 0, 5, 3, 172, 21, 6, 154, 0, 15, 45, 3, 47, 21, 7, 133, 148, 153, 0, 5, 3, 172, 167, 0, 155, 43, 42, 21, 5, 4, 96, 46, 45, 184, 1, 105, 54, 6, 44, 42, 21, 5, 4, 96, 46, 182, 1, 107, 54, 7, 44, 182, 0, 198, 21, 6, 159, 0, 5, 3, 172, 21, 6, 154, 0, 22, 45, 3, 47, 21, 7, 153] := by decide +kernel
set_option maxRecDepth 100000 in
theorem wq_62 : ((cL_law.data.toList.drop 3968).take 72).map UInt8.toNat = [0, 22, 45, 3, 47, 21, 7, 153, 0, 7, 10, 167, 0, 4, 9, 148, 153, 0, 5, 3, 172, 167, 0, 92, 43, 42, 21, 5, 4, 96, 46, 42, 21, 5, 5, 96, 46, 45, 184, 1, 108, 54, 6, 44, 42, 21, 5, 4, 96, 46, 42, 21, 5, 5, 96, 46, 182, 1, 110, 54, 7, 44, 182, 0, 198, 21, 6, 159, 0, 5, 3, 172] := by decide +kernel
set_option maxRecDepth 100000 in
theorem wq_63 : ((cL_law.data.toList.drop 4032).take 72).map UInt8.toNat = [198, 21, 6, 159, 0, 5, 3, 172, 21, 6, 154, 0, 22, 45, 3, 47, 21, 7, 153, 0, 7, 10, 167, 0, 4, 9, 148, 153, 0, 5, 3, 172, 167, 0, 17, 43, 182, 1, 111, 44, 182, 1, 115, 148, 153, 0, 5, 3, 172, 132, 5, 4, 167, 240, 40, 4, 172] := by decide +kernel
