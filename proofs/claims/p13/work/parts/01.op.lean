/-! decoding by bytes: what an opcode and its operands give -/
def gb (c : ByteArray) (i : Nat) : Option Nat := (c.data.toList[i]?).map UInt8.toNat
theorem gb_ok {c : ByteArray} {p b : Nat} (h : gb c p = some b) : (Reader.u1 : Decoder Nat) c p = .ok (b, p + 1) := by
  unfold gb at h
  cases e : c.data.toList[p]? with
  | none => rw [e] at h; cases h
  | some v =>
    rw [e] at h
    obtain ⟨hp, hv⟩ := List.getElem?_eq_some_iff.mp e
    have hb : v.toNat = b := Option.some.inj h
    have hq : p < c.size := hp
    have hc : c[p] = v := hv
    show (dite (p < c.size) (fun h => (do set (p + 1); pure c[p].toNat : Decoder Nat)) (fun h => throw (HasTruncated.truncated p)) : Decoder Nat) c p = _
    rw [dif_pos hq, ← hb, ← hc]
    rfl
theorem gb_1 {α : Type} {c : ByteArray} {p b : Nat} (h : gb c p = some b) (K : Nat → Decoder α) : Reader.runAt (Reader.u1 >>= K) c p = Reader.runAt (K b) c (p + 1) := by
  have e : Reader.runAt (Reader.u1 >>= K) c p = Except.bind ((Reader.u1 : Decoder Nat) c p) (fun q => K q.1 c q.2) := rfl
  rw [e, gb_ok h]
  rfl
theorem gb_ok2 {c : ByteArray} {p a b : Nat} (h1 : gb c p = some a) (h2 : gb c (p + 1) = some b) : (Reader.u2 : Decoder Nat) c p = .ok (a * 256 + b, p + 2) := by
  have e : (Reader.u2 : Decoder Nat) c p = Except.bind ((Reader.u1 : Decoder Nat) c p) (fun q => Except.bind ((Reader.u1 : Decoder Nat) c q.2) (fun r => .ok (q.1 * 256 + r.1, r.2))) := rfl
  rw [e, gb_ok h1]
  show Except.bind ((Reader.u1 : Decoder Nat) c (p + 1)) (fun r => .ok (a * 256 + r.1, r.2)) = _
  rw [gb_ok h2]
  rfl
theorem gb_2 {α : Type} {c : ByteArray} {p a b : Nat} (h1 : gb c p = some a) (h2 : gb c (p + 1) = some b) (K : Nat → Decoder α) : Reader.runAt (Reader.u2 >>= K) c p = Reader.runAt (K (a * 256 + b)) c (p + 2) := by
  have e : Reader.runAt (Reader.u2 >>= K) c p = Except.bind ((Reader.u2 : Decoder Nat) c p) (fun q => K q.1 c q.2) := rfl
  rw [e, gb_ok2 h1 h2]
  rfl
theorem gs_1 {α : Type} {c : ByteArray} {p b : Nat} (h : gb c p = some b) (K : Int → Decoder α) : Reader.runAt (Reader.s1 >>= K) c p = Reader.runAt (K (Reader.signed 8 b)) c (p + 1) := by
  have e : Reader.runAt (Reader.s1 >>= K) c p = Except.bind (Except.bind ((Reader.u1 : Decoder Nat) c p) (fun q => .ok (Reader.signed 8 q.1, q.2))) (fun q => K q.1 c q.2) := rfl
  rw [e, gb_ok h]
  rfl
theorem gs_2 {α : Type} {c : ByteArray} {p a b : Nat} (h1 : gb c p = some a) (h2 : gb c (p + 1) = some b) (K : Int → Decoder α) : Reader.runAt (Reader.s2 >>= K) c p = Reader.runAt (K (Reader.signed 16 (a * 256 + b))) c (p + 2) := by
  have e : Reader.runAt (Reader.s2 >>= K) c p = Except.bind (Except.bind ((Reader.u2 : Decoder Nat) c p) (fun q => .ok (Reader.signed 16 q.1, q.2))) (fun q => K q.1 c q.2) := rfl
  rw [e, gb_ok2 h1 h2]
  rfl
theorem op_of {c : ByteArray} {pc l : Nat} {i : Instr} (h : Reader.runAt (Decoder.instr pc) c pc = .ok (i, pc + l)) : decode c pc = .ok (i, l) := by
  have e : decode c pc = Except.bind (Reader.runAt (Decoder.instr pc) c pc) (fun q => .ok (q.1, q.2 - pc)) := rfl
  rw [e, h]
  show Except.ok (i, pc + l - pc) = _
  rw [Nat.add_sub_cancel_left]
theorem op_b1 {c : ByteArray} {p a b : Nat} (h : (gb c p, gb c (p + 1)) = (some a, some b)) : gb c p = some a ∧ gb c (p + 1) = some b := ⟨congrArg Prod.fst h, congrArg Prod.snd h⟩
theorem op_b2 {c : ByteArray} {p a b d : Nat} (h : (gb c p, gb c (p + 1), gb c (p + 2)) = (some a, some b, some d)) : gb c p = some a ∧ gb c (p + 1) = some b ∧ gb c (p + 2) = some d := ⟨congrArg Prod.fst h, congrArg (fun q => q.2.1) h, congrArg (fun q => q.2.2) h⟩
theorem op_2 {c : ByteArray} {pc : Nat} (h : gb c pc = some 2) : decode c pc = .ok (.iconst (-1), 1) := op_of ((gb_1 h _).trans rfl)
theorem op_3 {c : ByteArray} {pc : Nat} (h : gb c pc = some 3) : decode c pc = .ok (.iconst 0, 1) := op_of ((gb_1 h _).trans rfl)
theorem op_4 {c : ByteArray} {pc : Nat} (h : gb c pc = some 4) : decode c pc = .ok (.iconst 1, 1) := op_of ((gb_1 h _).trans rfl)
theorem op_5 {c : ByteArray} {pc : Nat} (h : gb c pc = some 5) : decode c pc = .ok (.iconst 2, 1) := op_of ((gb_1 h _).trans rfl)
theorem op_6 {c : ByteArray} {pc : Nat} (h : gb c pc = some 6) : decode c pc = .ok (.iconst 3, 1) := op_of ((gb_1 h _).trans rfl)
theorem op_7 {c : ByteArray} {pc : Nat} (h : gb c pc = some 7) : decode c pc = .ok (.iconst 4, 1) := op_of ((gb_1 h _).trans rfl)
theorem op_8 {c : ByteArray} {pc : Nat} (h : gb c pc = some 8) : decode c pc = .ok (.iconst 5, 1) := op_of ((gb_1 h _).trans rfl)
theorem op_9 {c : ByteArray} {pc : Nat} (h : gb c pc = some 9) : decode c pc = .ok (.lconst 0, 1) := op_of ((gb_1 h _).trans rfl)
theorem op_10 {c : ByteArray} {pc : Nat} (h : gb c pc = some 10) : decode c pc = .ok (.lconst 1, 1) := op_of ((gb_1 h _).trans rfl)
theorem op_16 {c : ByteArray} {pc b : Nat} (h : (gb c pc, gb c (pc + 1)) = (some 16, some b)) : decode c pc = .ok (.bipush (Reader.signed 8 b), 2) := op_of ((gb_1 (op_b1 h).1 _).trans ((gs_1 (op_b1 h).2 _).trans rfl))
theorem op_17 {c : ByteArray} {pc b d : Nat} (h : (gb c pc, gb c (pc + 1), gb c (pc + 2)) = (some 17, some b, some d)) : decode c pc = .ok (.sipush (Reader.signed 16 (b * 256 + d)), 3) := op_of ((gb_1 (op_b2 h).1 _).trans ((gs_2 (op_b2 h).2.1 (op_b2 h).2.2 _).trans rfl))
theorem op_18 {c : ByteArray} {pc b : Nat} (h : (gb c pc, gb c (pc + 1)) = (some 18, some b)) : decode c pc = .ok (.ldc b, 2) := op_of ((gb_1 (op_b1 h).1 _).trans ((gb_1 (op_b1 h).2 _).trans rfl))
theorem op_19 {c : ByteArray} {pc b d : Nat} (h : (gb c pc, gb c (pc + 1), gb c (pc + 2)) = (some 19, some b, some d)) : decode c pc = .ok (.ldc_w (b * 256 + d), 3) := op_of ((gb_1 (op_b2 h).1 _).trans ((gb_2 (op_b2 h).2.1 (op_b2 h).2.2 _).trans rfl))
theorem op_20 {c : ByteArray} {pc b d : Nat} (h : (gb c pc, gb c (pc + 1), gb c (pc + 2)) = (some 20, some b, some d)) : decode c pc = .ok (.ldc2_w (b * 256 + d), 3) := op_of ((gb_1 (op_b2 h).1 _).trans ((gb_2 (op_b2 h).2.1 (op_b2 h).2.2 _).trans rfl))
theorem op_21 {c : ByteArray} {pc b : Nat} (h : (gb c pc, gb c (pc + 1)) = (some 21, some b)) : decode c pc = .ok (.iload b, 2) := op_of ((gb_1 (op_b1 h).1 _).trans ((gb_1 (op_b1 h).2 _).trans rfl))
theorem op_22 {c : ByteArray} {pc b : Nat} (h : (gb c pc, gb c (pc + 1)) = (some 22, some b)) : decode c pc = .ok (.lload b, 2) := op_of ((gb_1 (op_b1 h).1 _).trans ((gb_1 (op_b1 h).2 _).trans rfl))
theorem op_25 {c : ByteArray} {pc b : Nat} (h : (gb c pc, gb c (pc + 1)) = (some 25, some b)) : decode c pc = .ok (.aload b, 2) := op_of ((gb_1 (op_b1 h).1 _).trans ((gb_1 (op_b1 h).2 _).trans rfl))
theorem op_26 {c : ByteArray} {pc : Nat} (h : gb c pc = some 26) : decode c pc = .ok (.iload_n 0, 1) := op_of ((gb_1 h _).trans rfl)
theorem op_27 {c : ByteArray} {pc : Nat} (h : gb c pc = some 27) : decode c pc = .ok (.iload_n 1, 1) := op_of ((gb_1 h _).trans rfl)
theorem op_28 {c : ByteArray} {pc : Nat} (h : gb c pc = some 28) : decode c pc = .ok (.iload_n 2, 1) := op_of ((gb_1 h _).trans rfl)
theorem op_29 {c : ByteArray} {pc : Nat} (h : gb c pc = some 29) : decode c pc = .ok (.iload_n 3, 1) := op_of ((gb_1 h _).trans rfl)
theorem op_30 {c : ByteArray} {pc : Nat} (h : gb c pc = some 30) : decode c pc = .ok (.lload_n 0, 1) := op_of ((gb_1 h _).trans rfl)
theorem op_31 {c : ByteArray} {pc : Nat} (h : gb c pc = some 31) : decode c pc = .ok (.lload_n 1, 1) := op_of ((gb_1 h _).trans rfl)
theorem op_32 {c : ByteArray} {pc : Nat} (h : gb c pc = some 32) : decode c pc = .ok (.lload_n 2, 1) := op_of ((gb_1 h _).trans rfl)
theorem op_42 {c : ByteArray} {pc : Nat} (h : gb c pc = some 42) : decode c pc = .ok (.aload_n 0, 1) := op_of ((gb_1 h _).trans rfl)
theorem op_43 {c : ByteArray} {pc : Nat} (h : gb c pc = some 43) : decode c pc = .ok (.aload_n 1, 1) := op_of ((gb_1 h _).trans rfl)
theorem op_44 {c : ByteArray} {pc : Nat} (h : gb c pc = some 44) : decode c pc = .ok (.aload_n 2, 1) := op_of ((gb_1 h _).trans rfl)
theorem op_45 {c : ByteArray} {pc : Nat} (h : gb c pc = some 45) : decode c pc = .ok (.aload_n 3, 1) := op_of ((gb_1 h _).trans rfl)
theorem op_46 {c : ByteArray} {pc : Nat} (h : gb c pc = some 46) : decode c pc = .ok (.iaload, 1) := op_of ((gb_1 h _).trans rfl)
theorem op_47 {c : ByteArray} {pc : Nat} (h : gb c pc = some 47) : decode c pc = .ok (.laload, 1) := op_of ((gb_1 h _).trans rfl)
theorem op_51 {c : ByteArray} {pc : Nat} (h : gb c pc = some 51) : decode c pc = .ok (.baload, 1) := op_of ((gb_1 h _).trans rfl)
theorem op_52 {c : ByteArray} {pc : Nat} (h : gb c pc = some 52) : decode c pc = .ok (.caload, 1) := op_of ((gb_1 h _).trans rfl)
theorem op_54 {c : ByteArray} {pc b : Nat} (h : (gb c pc, gb c (pc + 1)) = (some 54, some b)) : decode c pc = .ok (.istore b, 2) := op_of ((gb_1 (op_b1 h).1 _).trans ((gb_1 (op_b1 h).2 _).trans rfl))
theorem op_55 {c : ByteArray} {pc b : Nat} (h : (gb c pc, gb c (pc + 1)) = (some 55, some b)) : decode c pc = .ok (.lstore b, 2) := op_of ((gb_1 (op_b1 h).1 _).trans ((gb_1 (op_b1 h).2 _).trans rfl))
theorem op_58 {c : ByteArray} {pc b : Nat} (h : (gb c pc, gb c (pc + 1)) = (some 58, some b)) : decode c pc = .ok (.astore b, 2) := op_of ((gb_1 (op_b1 h).1 _).trans ((gb_1 (op_b1 h).2 _).trans rfl))
theorem op_59 {c : ByteArray} {pc : Nat} (h : gb c pc = some 59) : decode c pc = .ok (.istore_n 0, 1) := op_of ((gb_1 h _).trans rfl)
theorem op_60 {c : ByteArray} {pc : Nat} (h : gb c pc = some 60) : decode c pc = .ok (.istore_n 1, 1) := op_of ((gb_1 h _).trans rfl)
theorem op_61 {c : ByteArray} {pc : Nat} (h : gb c pc = some 61) : decode c pc = .ok (.istore_n 2, 1) := op_of ((gb_1 h _).trans rfl)
theorem op_62 {c : ByteArray} {pc : Nat} (h : gb c pc = some 62) : decode c pc = .ok (.istore_n 3, 1) := op_of ((gb_1 h _).trans rfl)
theorem op_64 {c : ByteArray} {pc : Nat} (h : gb c pc = some 64) : decode c pc = .ok (.lstore_n 1, 1) := op_of ((gb_1 h _).trans rfl)
theorem op_76 {c : ByteArray} {pc : Nat} (h : gb c pc = some 76) : decode c pc = .ok (.astore_n 1, 1) := op_of ((gb_1 h _).trans rfl)
theorem op_77 {c : ByteArray} {pc : Nat} (h : gb c pc = some 77) : decode c pc = .ok (.astore_n 2, 1) := op_of ((gb_1 h _).trans rfl)
theorem op_78 {c : ByteArray} {pc : Nat} (h : gb c pc = some 78) : decode c pc = .ok (.astore_n 3, 1) := op_of ((gb_1 h _).trans rfl)
theorem op_79 {c : ByteArray} {pc : Nat} (h : gb c pc = some 79) : decode c pc = .ok (.iastore, 1) := op_of ((gb_1 h _).trans rfl)
theorem op_80 {c : ByteArray} {pc : Nat} (h : gb c pc = some 80) : decode c pc = .ok (.lastore, 1) := op_of ((gb_1 h _).trans rfl)
theorem op_84 {c : ByteArray} {pc : Nat} (h : gb c pc = some 84) : decode c pc = .ok (.bastore, 1) := op_of ((gb_1 h _).trans rfl)
theorem op_85 {c : ByteArray} {pc : Nat} (h : gb c pc = some 85) : decode c pc = .ok (.castore, 1) := op_of ((gb_1 h _).trans rfl)
theorem op_87 {c : ByteArray} {pc : Nat} (h : gb c pc = some 87) : decode c pc = .ok (.pop, 1) := op_of ((gb_1 h _).trans rfl)
theorem op_89 {c : ByteArray} {pc : Nat} (h : gb c pc = some 89) : decode c pc = .ok (.dup, 1) := op_of ((gb_1 h _).trans rfl)
theorem op_92 {c : ByteArray} {pc : Nat} (h : gb c pc = some 92) : decode c pc = .ok (.dup2, 1) := op_of ((gb_1 h _).trans rfl)
theorem op_96 {c : ByteArray} {pc : Nat} (h : gb c pc = some 96) : decode c pc = .ok (.iadd, 1) := op_of ((gb_1 h _).trans rfl)
theorem op_97 {c : ByteArray} {pc : Nat} (h : gb c pc = some 97) : decode c pc = .ok (.ladd, 1) := op_of ((gb_1 h _).trans rfl)
theorem op_100 {c : ByteArray} {pc : Nat} (h : gb c pc = some 100) : decode c pc = .ok (.isub, 1) := op_of ((gb_1 h _).trans rfl)
theorem op_101 {c : ByteArray} {pc : Nat} (h : gb c pc = some 101) : decode c pc = .ok (.lsub, 1) := op_of ((gb_1 h _).trans rfl)
theorem op_104 {c : ByteArray} {pc : Nat} (h : gb c pc = some 104) : decode c pc = .ok (.imul, 1) := op_of ((gb_1 h _).trans rfl)
theorem op_108 {c : ByteArray} {pc : Nat} (h : gb c pc = some 108) : decode c pc = .ok (.idiv, 1) := op_of ((gb_1 h _).trans rfl)
theorem op_112 {c : ByteArray} {pc : Nat} (h : gb c pc = some 112) : decode c pc = .ok (.irem, 1) := op_of ((gb_1 h _).trans rfl)
theorem op_116 {c : ByteArray} {pc : Nat} (h : gb c pc = some 116) : decode c pc = .ok (.ineg, 1) := op_of ((gb_1 h _).trans rfl)
theorem op_120 {c : ByteArray} {pc : Nat} (h : gb c pc = some 120) : decode c pc = .ok (.ishl, 1) := op_of ((gb_1 h _).trans rfl)
theorem op_121 {c : ByteArray} {pc : Nat} (h : gb c pc = some 121) : decode c pc = .ok (.lshl, 1) := op_of ((gb_1 h _).trans rfl)
theorem op_122 {c : ByteArray} {pc : Nat} (h : gb c pc = some 122) : decode c pc = .ok (.ishr, 1) := op_of ((gb_1 h _).trans rfl)
theorem op_123 {c : ByteArray} {pc : Nat} (h : gb c pc = some 123) : decode c pc = .ok (.lshr, 1) := op_of ((gb_1 h _).trans rfl)
theorem op_124 {c : ByteArray} {pc : Nat} (h : gb c pc = some 124) : decode c pc = .ok (.iushr, 1) := op_of ((gb_1 h _).trans rfl)
theorem op_126 {c : ByteArray} {pc : Nat} (h : gb c pc = some 126) : decode c pc = .ok (.iand, 1) := op_of ((gb_1 h _).trans rfl)
theorem op_127 {c : ByteArray} {pc : Nat} (h : gb c pc = some 127) : decode c pc = .ok (.land, 1) := op_of ((gb_1 h _).trans rfl)
theorem op_128 {c : ByteArray} {pc : Nat} (h : gb c pc = some 128) : decode c pc = .ok (.ior, 1) := op_of ((gb_1 h _).trans rfl)
theorem op_129 {c : ByteArray} {pc : Nat} (h : gb c pc = some 129) : decode c pc = .ok (.lor, 1) := op_of ((gb_1 h _).trans rfl)
theorem op_130 {c : ByteArray} {pc : Nat} (h : gb c pc = some 130) : decode c pc = .ok (.ixor, 1) := op_of ((gb_1 h _).trans rfl)
theorem op_132 {c : ByteArray} {pc b d : Nat} (h : (gb c pc, gb c (pc + 1), gb c (pc + 2)) = (some 132, some b, some d)) : decode c pc = .ok (.iinc b (Reader.signed 8 d), 3) := op_of ((gb_1 (op_b2 h).1 _).trans ((gb_1 (op_b2 h).2.1 _).trans ((gs_1 (op_b2 h).2.2 _).trans rfl)))
theorem op_133 {c : ByteArray} {pc : Nat} (h : gb c pc = some 133) : decode c pc = .ok (.i2l, 1) := op_of ((gb_1 h _).trans rfl)
theorem op_136 {c : ByteArray} {pc : Nat} (h : gb c pc = some 136) : decode c pc = .ok (.l2i, 1) := op_of ((gb_1 h _).trans rfl)
theorem op_145 {c : ByteArray} {pc : Nat} (h : gb c pc = some 145) : decode c pc = .ok (.i2b, 1) := op_of ((gb_1 h _).trans rfl)
theorem op_146 {c : ByteArray} {pc : Nat} (h : gb c pc = some 146) : decode c pc = .ok (.i2c, 1) := op_of ((gb_1 h _).trans rfl)
theorem op_148 {c : ByteArray} {pc : Nat} (h : gb c pc = some 148) : decode c pc = .ok (.lcmp, 1) := op_of ((gb_1 h _).trans rfl)
theorem op_153 {c : ByteArray} {pc b d : Nat} (h : (gb c pc, gb c (pc + 1), gb c (pc + 2)) = (some 153, some b, some d)) : decode c pc = .ok (.ifCond .eq (Reader.signed 16 (b * 256 + d)), 3) := op_of ((gb_1 (op_b2 h).1 _).trans ((gs_2 (op_b2 h).2.1 (op_b2 h).2.2 _).trans rfl))
theorem op_154 {c : ByteArray} {pc b d : Nat} (h : (gb c pc, gb c (pc + 1), gb c (pc + 2)) = (some 154, some b, some d)) : decode c pc = .ok (.ifCond .ne (Reader.signed 16 (b * 256 + d)), 3) := op_of ((gb_1 (op_b2 h).1 _).trans ((gs_2 (op_b2 h).2.1 (op_b2 h).2.2 _).trans rfl))
theorem op_155 {c : ByteArray} {pc b d : Nat} (h : (gb c pc, gb c (pc + 1), gb c (pc + 2)) = (some 155, some b, some d)) : decode c pc = .ok (.ifCond .lt (Reader.signed 16 (b * 256 + d)), 3) := op_of ((gb_1 (op_b2 h).1 _).trans ((gs_2 (op_b2 h).2.1 (op_b2 h).2.2 _).trans rfl))
theorem op_156 {c : ByteArray} {pc b d : Nat} (h : (gb c pc, gb c (pc + 1), gb c (pc + 2)) = (some 156, some b, some d)) : decode c pc = .ok (.ifCond .ge (Reader.signed 16 (b * 256 + d)), 3) := op_of ((gb_1 (op_b2 h).1 _).trans ((gs_2 (op_b2 h).2.1 (op_b2 h).2.2 _).trans rfl))
theorem op_157 {c : ByteArray} {pc b d : Nat} (h : (gb c pc, gb c (pc + 1), gb c (pc + 2)) = (some 157, some b, some d)) : decode c pc = .ok (.ifCond .gt (Reader.signed 16 (b * 256 + d)), 3) := op_of ((gb_1 (op_b2 h).1 _).trans ((gs_2 (op_b2 h).2.1 (op_b2 h).2.2 _).trans rfl))
theorem op_158 {c : ByteArray} {pc b d : Nat} (h : (gb c pc, gb c (pc + 1), gb c (pc + 2)) = (some 158, some b, some d)) : decode c pc = .ok (.ifCond .le (Reader.signed 16 (b * 256 + d)), 3) := op_of ((gb_1 (op_b2 h).1 _).trans ((gs_2 (op_b2 h).2.1 (op_b2 h).2.2 _).trans rfl))
theorem op_159 {c : ByteArray} {pc b d : Nat} (h : (gb c pc, gb c (pc + 1), gb c (pc + 2)) = (some 159, some b, some d)) : decode c pc = .ok (.if_icmp .eq (Reader.signed 16 (b * 256 + d)), 3) := op_of ((gb_1 (op_b2 h).1 _).trans ((gs_2 (op_b2 h).2.1 (op_b2 h).2.2 _).trans rfl))
theorem op_160 {c : ByteArray} {pc b d : Nat} (h : (gb c pc, gb c (pc + 1), gb c (pc + 2)) = (some 160, some b, some d)) : decode c pc = .ok (.if_icmp .ne (Reader.signed 16 (b * 256 + d)), 3) := op_of ((gb_1 (op_b2 h).1 _).trans ((gs_2 (op_b2 h).2.1 (op_b2 h).2.2 _).trans rfl))
theorem op_161 {c : ByteArray} {pc b d : Nat} (h : (gb c pc, gb c (pc + 1), gb c (pc + 2)) = (some 161, some b, some d)) : decode c pc = .ok (.if_icmp .lt (Reader.signed 16 (b * 256 + d)), 3) := op_of ((gb_1 (op_b2 h).1 _).trans ((gs_2 (op_b2 h).2.1 (op_b2 h).2.2 _).trans rfl))
theorem op_162 {c : ByteArray} {pc b d : Nat} (h : (gb c pc, gb c (pc + 1), gb c (pc + 2)) = (some 162, some b, some d)) : decode c pc = .ok (.if_icmp .ge (Reader.signed 16 (b * 256 + d)), 3) := op_of ((gb_1 (op_b2 h).1 _).trans ((gs_2 (op_b2 h).2.1 (op_b2 h).2.2 _).trans rfl))
theorem op_163 {c : ByteArray} {pc b d : Nat} (h : (gb c pc, gb c (pc + 1), gb c (pc + 2)) = (some 163, some b, some d)) : decode c pc = .ok (.if_icmp .gt (Reader.signed 16 (b * 256 + d)), 3) := op_of ((gb_1 (op_b2 h).1 _).trans ((gs_2 (op_b2 h).2.1 (op_b2 h).2.2 _).trans rfl))
theorem op_164 {c : ByteArray} {pc b d : Nat} (h : (gb c pc, gb c (pc + 1), gb c (pc + 2)) = (some 164, some b, some d)) : decode c pc = .ok (.if_icmp .le (Reader.signed 16 (b * 256 + d)), 3) := op_of ((gb_1 (op_b2 h).1 _).trans ((gs_2 (op_b2 h).2.1 (op_b2 h).2.2 _).trans rfl))
theorem op_167 {c : ByteArray} {pc b d : Nat} (h : (gb c pc, gb c (pc + 1), gb c (pc + 2)) = (some 167, some b, some d)) : decode c pc = .ok (.goto (Reader.signed 16 (b * 256 + d)), 3) := op_of ((gb_1 (op_b2 h).1 _).trans ((gs_2 (op_b2 h).2.1 (op_b2 h).2.2 _).trans rfl))
theorem op_172 {c : ByteArray} {pc : Nat} (h : gb c pc = some 172) : decode c pc = .ok (.ireturn, 1) := op_of ((gb_1 h _).trans rfl)
theorem op_173 {c : ByteArray} {pc : Nat} (h : gb c pc = some 173) : decode c pc = .ok (.lreturn, 1) := op_of ((gb_1 h _).trans rfl)
theorem op_177 {c : ByteArray} {pc : Nat} (h : gb c pc = some 177) : decode c pc = .ok (.return_, 1) := op_of ((gb_1 h _).trans rfl)
theorem op_180 {c : ByteArray} {pc b d : Nat} (h : (gb c pc, gb c (pc + 1), gb c (pc + 2)) = (some 180, some b, some d)) : decode c pc = .ok (.getfield (b * 256 + d), 3) := op_of ((gb_1 (op_b2 h).1 _).trans ((gb_2 (op_b2 h).2.1 (op_b2 h).2.2 _).trans rfl))
theorem op_181 {c : ByteArray} {pc b d : Nat} (h : (gb c pc, gb c (pc + 1), gb c (pc + 2)) = (some 181, some b, some d)) : decode c pc = .ok (.putfield (b * 256 + d), 3) := op_of ((gb_1 (op_b2 h).1 _).trans ((gb_2 (op_b2 h).2.1 (op_b2 h).2.2 _).trans rfl))
theorem op_182 {c : ByteArray} {pc b d : Nat} (h : (gb c pc, gb c (pc + 1), gb c (pc + 2)) = (some 182, some b, some d)) : decode c pc = .ok (.invokevirtual (b * 256 + d), 3) := op_of ((gb_1 (op_b2 h).1 _).trans ((gb_2 (op_b2 h).2.1 (op_b2 h).2.2 _).trans rfl))
theorem op_183 {c : ByteArray} {pc b d : Nat} (h : (gb c pc, gb c (pc + 1), gb c (pc + 2)) = (some 183, some b, some d)) : decode c pc = .ok (.invokespecial (b * 256 + d), 3) := op_of ((gb_1 (op_b2 h).1 _).trans ((gb_2 (op_b2 h).2.1 (op_b2 h).2.2 _).trans rfl))
theorem op_184 {c : ByteArray} {pc b d : Nat} (h : (gb c pc, gb c (pc + 1), gb c (pc + 2)) = (some 184, some b, some d)) : decode c pc = .ok (.invokestatic (b * 256 + d), 3) := op_of ((gb_1 (op_b2 h).1 _).trans ((gb_2 (op_b2 h).2.1 (op_b2 h).2.2 _).trans rfl))
theorem op_187 {c : ByteArray} {pc b d : Nat} (h : (gb c pc, gb c (pc + 1), gb c (pc + 2)) = (some 187, some b, some d)) : decode c pc = .ok (.new (b * 256 + d), 3) := op_of ((gb_1 (op_b2 h).1 _).trans ((gb_2 (op_b2 h).2.1 (op_b2 h).2.2 _).trans rfl))
theorem op_190 {c : ByteArray} {pc : Nat} (h : gb c pc = some 190) : decode c pc = .ok (.arraylength, 1) := op_of ((gb_1 h _).trans rfl)
theorem op_191 {c : ByteArray} {pc : Nat} (h : gb c pc = some 191) : decode c pc = .ok (.athrow, 1) := op_of ((gb_1 h _).trans rfl)
