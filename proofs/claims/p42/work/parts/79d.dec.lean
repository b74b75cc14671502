noncomputable section
/-! decoding along a list of bytes -/
abbrev dcR : Type := Jvm.ClassFile.Decoder Nat
def dc_r (cc : ByteArray) (p : Nat) : Except Jvm.ClassFile.DecodeError (Nat × Nat) := Jvm.ClassFile.Reader.runAt (Jvm.ClassFile.Reader.u1 : dcR) cc p
theorem dc_u1 {cc : ByteArray} {p : Nat} {b : UInt8} {r : List UInt8} (h : cc.data.toList.drop p = b :: r) : dc_r cc p = .ok (b.toNat, p + 1) := by
  have hl : p < cc.data.toList.length := by
    have h1 := congrArg List.length h
    rw [List.length_drop, List.length_cons] at h1
    omega
  have hg : cc.data.toList[p] = b := by
    rw [List.drop_eq_getElem_cons hl] at h
    injection h
  have hs : p < cc.size := hl
  have e : cc[p] = b := hg
  rw [← e]
  show (dite (p < cc.size) (fun h => _) (fun h => _) : dcR) cc p = _
  rw [dif_pos hs]
  rfl
/-- what comes behind the first byte -/
def dcK (pc : Nat) : { K : Nat → Jvm.ClassFile.Decoder Instr // Jvm.ClassFile.Decoder.instr pc = (Jvm.ClassFile.Reader.u1 : dcR) >>= K } := ⟨_, rfl⟩
abbrev dc_s : Nat → Nat → Int := Jvm.ClassFile.Reader.signed
def dc_u2 (cc : ByteArray) (p : Nat) : Except Jvm.ClassFile.DecodeError (Nat × Nat) := Except.bind (dc_r cc p) (fun u => Except.bind (dc_r cc u.2) (fun v => .ok (u.1 * 256 + v.1, v.2)))
theorem dc_u2k {cc : ByteArray} {pc x y : Nat} (h1 : dc_r cc (pc + 1) = .ok (x, pc + 2)) (h2 : dc_r cc (pc + 2) = .ok (y, pc + 3)) : dc_u2 cc (pc + 1) = .ok (x * 256 + y, pc + 3) := by
  unfold dc_u2
  rw [h1]
  show Except.bind (dc_r cc (pc + 2)) _ = _
  rw [h2]
  rfl
section
variable {cc : ByteArray} {pc b : Nat} {i : Instr}
theorem dc_0 {n : Nat} (hb : dc_r cc pc = .ok (b, pc + 1)) (hK : (dcK pc).1 b cc (pc + 1) = .ok (i, pc + 1 + n)) : decode cc pc = .ok (i, 1 + n) := by
  unfold decode
  rw [(dcK pc).2]
  show Except.bind (Except.bind (dc_r cc pc) (fun x => (dcK pc).1 x.1 cc x.2)) _ = _
  rw [hb]
  show Except.bind ((dcK pc).1 b cc (pc + 1)) _ = _
  rw [hK]
  show Except.ok (i, pc + 1 + n - pc) = _
  rw [show pc + 1 + n - pc = 1 + n by omega]
theorem dc_1 {x : Nat} {f : Nat → Instr} (hb : dc_r cc pc = .ok (b, pc + 1)) (h1 : dc_r cc (pc + 1) = .ok (x, pc + 2)) (hK : (dcK pc).1 b cc (pc + 1) = Except.bind (dc_r cc (pc + 1)) (fun y => .ok (f y.1, y.2))) : decode cc pc = .ok (f x, 2) := dc_0 (n := 1) hb (by
  rw [hK, h1]
  rfl)
theorem dc_2 {x y : Nat} {f : Nat → Instr} (hb : dc_r cc pc = .ok (b, pc + 1)) (h1 : dc_r cc (pc + 1) = .ok (x, pc + 2)) (h2 : dc_r cc (pc + 2) = .ok (y, pc + 3)) (hK : (dcK pc).1 b cc (pc + 1) = Except.bind (dc_u2 cc (pc + 1)) (fun z => .ok (f z.1, z.2))) : decode cc pc = .ok (f (x * 256 + y), 3) := dc_0 (n := 2) hb (by
  rw [hK, dc_u2k h1 h2]
  rfl)
theorem dc_2s {x y : Nat} {f : Int → Instr} (hb : dc_r cc pc = .ok (b, pc + 1)) (h1 : dc_r cc (pc + 1) = .ok (x, pc + 2)) (h2 : dc_r cc (pc + 2) = .ok (y, pc + 3)) (hK : (dcK pc).1 b cc (pc + 1) = Except.bind (Except.bind (dc_u2 cc (pc + 1)) (fun z => .ok (dc_s 16 z.1, z.2))) (fun z => .ok (f z.1, z.2))) : decode cc pc = .ok (f (dc_s 16 (x * 256 + y)), 3) := dc_0 (n := 2) hb (by
  rw [hK, dc_u2k h1 h2]
  rfl)
theorem dc_1s {x : Nat} {f : Int → Instr} (hb : dc_r cc pc = .ok (b, pc + 1)) (h1 : dc_r cc (pc + 1) = .ok (x, pc + 2)) (hK : (dcK pc).1 b cc (pc + 1) = Except.bind (Except.bind (dc_r cc (pc + 1)) (fun z => .ok (dc_s 8 z.1, z.2))) (fun z => .ok (f z.1, z.2))) : decode cc pc = .ok (f (dc_s 8 x), 2) := dc_0 (n := 1) hb (by
  rw [hK, h1]
  rfl)
theorem dc_11 {x y : Nat} {f : Nat → Int → Instr} (hb : dc_r cc pc = .ok (b, pc + 1)) (h1 : dc_r cc (pc + 1) = .ok (x, pc + 2)) (h2 : dc_r cc (pc + 2) = .ok (y, pc + 3)) (hK : (dcK pc).1 b cc (pc + 1) = Except.bind (dc_r cc (pc + 1)) (fun u => Except.bind (Except.bind (dc_r cc u.2) (fun z => .ok (dc_s 8 z.1, z.2))) (fun v => .ok (f u.1 v.1, v.2)))) : decode cc pc = .ok (f x (dc_s 8 y), 3) := dc_0 (n := 2) hb (by
  rw [hK, h1]
  show Except.bind (Except.bind (dc_r cc (pc + 2)) _) _ = _
  rw [h2]
  rfl)
end
/-- an instruction's class, its first byte and its operand: 0 none, 1 a byte, 2 two bytes, 3 two signed, 4 one signed, 5 a byte and a signed one, 9 none of these -/
def dc_c : Instr → Nat × Nat × Int × Int
  | .aaload => (0, 50, 0, 0)
  | .aastore => (0, 83, 0, 0)
  | .aconst_null => (0, 1, 0, 0)
  | .areturn => (0, 176, 0, 0)
  | .arraylength => (0, 190, 0, 0)
  | .baload => (0, 51, 0, 0)
  | .bastore => (0, 84, 0, 0)
  | .dup => (0, 89, 0, 0)
  | .dup2 => (0, 92, 0, 0)
  | .i2b => (0, 145, 0, 0)
  | .i2l => (0, 133, 0, 0)
  | .i2s => (0, 147, 0, 0)
  | .iadd => (0, 96, 0, 0)
  | .iaload => (0, 46, 0, 0)
  | .iand => (0, 126, 0, 0)
  | .iastore => (0, 79, 0, 0)
  | .idiv => (0, 108, 0, 0)
  | .imul => (0, 104, 0, 0)
  | .ineg => (0, 116, 0, 0)
  | .ior => (0, 128, 0, 0)
  | .irem => (0, 112, 0, 0)
  | .ireturn => (0, 172, 0, 0)
  | .ishl => (0, 120, 0, 0)
  | .ishr => (0, 122, 0, 0)
  | .isub => (0, 100, 0, 0)
  | .iushr => (0, 124, 0, 0)
  | .ixor => (0, 130, 0, 0)
  | .l2i => (0, 136, 0, 0)
  | .ladd => (0, 97, 0, 0)
  | .laload => (0, 47, 0, 0)
  | .land => (0, 127, 0, 0)
  | .lastore => (0, 80, 0, 0)
  | .lcmp => (0, 148, 0, 0)
  | .lor => (0, 129, 0, 0)
  | .lreturn => (0, 173, 0, 0)
  | .lshl => (0, 121, 0, 0)
  | .lsub => (0, 101, 0, 0)
  | .lushr => (0, 125, 0, 0)
  | .lxor => (0, 131, 0, 0)
  | .pop => (0, 87, 0, 0)
  | .pop2 => (0, 88, 0, 0)
  | .return_ => (0, 177, 0, 0)
  | .iload_n k => (0, 26 + k.val, 0, 0)
  | .lload_n k => (0, 30 + k.val, 0, 0)
  | .aload_n k => (0, 42 + k.val, 0, 0)
  | .istore_n k => (0, 59 + k.val, 0, 0)
  | .lstore_n k => (0, 63 + k.val, 0, 0)
  | .astore_n k => (0, 75 + k.val, 0, 0)
  | .iconst v => if v = -1 then (0, 2, 0, 0) else if v = 0 then (0, 3, 0, 0) else if v = 1 then (0, 4, 0, 0) else if v = 2 then (0, 5, 0, 0) else if v = 3 then (0, 6, 0, 0) else if v = 4 then (0, 7, 0, 0) else if v = 5 then (0, 8, 0, 0) else (9, 0, 0, 0)
  | .lconst k => (0, 9 + k.val, 0, 0)
  | .iload x => (1, 21, (x : Int), 0)
  | .lload x => (1, 22, (x : Int), 0)
  | .aload x => (1, 25, (x : Int), 0)
  | .istore x => (1, 54, (x : Int), 0)
  | .lstore x => (1, 55, (x : Int), 0)
  | .astore x => (1, 58, (x : Int), 0)
  | .ldc x => (1, 18, (x : Int), 0)
  | .ldc_w x => (2, 19, (x : Int), 0)
  | .ldc2_w x => (2, 20, (x : Int), 0)
  | .getstatic x => (2, 178, (x : Int), 0)
  | .getfield x => (2, 180, (x : Int), 0)
  | .putfield x => (2, 181, (x : Int), 0)
  | .invokevirtual x => (2, 182, (x : Int), 0)
  | .invokespecial x => (2, 183, (x : Int), 0)
  | .invokestatic x => (2, 184, (x : Int), 0)
  | .new x => (2, 187, (x : Int), 0)
  | .anewarray x => (2, 189, (x : Int), 0)
  | .checkcast x => (2, 192, (x : Int), 0)
  | .instanceof x => (2, 193, (x : Int), 0)
  | .sipush x => (3, 17, x, 0)
  | .goto x => (3, 167, x, 0)
  | .ifnull x => (3, 198, x, 0)
  | .ifnonnull x => (3, 199, x, 0)
  | .ifCond c x => (3, (match c with | .eq => 153 | .ne => 154 | .lt => 155 | .ge => 156 | .gt => 157 | .le => 158), x, 0)
  | .if_icmp c x => (3, (match c with | .eq => 159 | .ne => 160 | .lt => 161 | .ge => 162 | .gt => 163 | .le => 164), x, 0)
  | .bipush x => (4, 16, x, 0)
  | .iinc x y => (5, 132, (x : Int), y)
  | _ => (9, 0, 0, 0)
/-- the bytes are the instruction's -/
def dc_m (n : Nat) (b : UInt8) (r : List UInt8) : Nat × Nat × Int × Int → Bool
  | (0, o, _, _) => Nat.beq o b.toNat && Nat.beq n 1
  | (1, o, x, _) => Nat.beq o b.toNat && (Nat.beq n 2 && (match r with | y :: _ => decide ((y.toNat : Int) = x) | [] => false))
  | (2, o, x, _) => Nat.beq o b.toNat && (Nat.beq n 3 && (match r with | y :: z :: _ => decide (((y.toNat * 256 + z.toNat : Nat) : Int) = x) | _ => false))
  | (3, o, x, _) => Nat.beq o b.toNat && (Nat.beq n 3 && (match r with | y :: z :: _ => decide (dc_s 16 (y.toNat * 256 + z.toNat) = x) | _ => false))
  | (4, o, x, _) => Nat.beq o b.toNat && (Nat.beq n 2 && (match r with | y :: _ => decide (dc_s 8 y.toNat = x) | [] => false))
  | (5, o, x, w) => Nat.beq o b.toNat && (Nat.beq n 3 && (match r with | y :: z :: _ => decide ((y.toNat : Int) = x) && decide (dc_s 8 z.toNat = w) | _ => false))
  | _ => false
def dc_b (i : Instr) (n : Nat) : List UInt8 → Bool
  | [] => false
  | b :: r => dc_m n b r (dc_c i)
section
variable {cc : ByteArray} {pc : Nat}

theorem dc_k0 {i : Instr} {o : Nat} {x y : Int} (h : dc_c i = (0, o, x, y)) (hb : dc_r cc pc = .ok (o, pc + 1)) : decode cc pc = .ok (i, 1) := by
  cases i
  case aaload =>
    obtain ⟨-, e⟩ := Prod.mk.inj h
    obtain ⟨e, -⟩ := Prod.mk.inj e
    rw [← e] at hb
    exact dc_0 (n := 0) hb rfl
  case aastore =>
    obtain ⟨-, e⟩ := Prod.mk.inj h
    obtain ⟨e, -⟩ := Prod.mk.inj e
    rw [← e] at hb
    exact dc_0 (n := 0) hb rfl
  case aconst_null =>
    obtain ⟨-, e⟩ := Prod.mk.inj h
    obtain ⟨e, -⟩ := Prod.mk.inj e
    rw [← e] at hb
    exact dc_0 (n := 0) hb rfl
  case areturn =>
    obtain ⟨-, e⟩ := Prod.mk.inj h
    obtain ⟨e, -⟩ := Prod.mk.inj e
    rw [← e] at hb
    exact dc_0 (n := 0) hb rfl
  case arraylength =>
    obtain ⟨-, e⟩ := Prod.mk.inj h
    obtain ⟨e, -⟩ := Prod.mk.inj e
    rw [← e] at hb
    exact dc_0 (n := 0) hb rfl
  case baload =>
    obtain ⟨-, e⟩ := Prod.mk.inj h
    obtain ⟨e, -⟩ := Prod.mk.inj e
    rw [← e] at hb
    exact dc_0 (n := 0) hb rfl
  case bastore =>
    obtain ⟨-, e⟩ := Prod.mk.inj h
    obtain ⟨e, -⟩ := Prod.mk.inj e
    rw [← e] at hb
    exact dc_0 (n := 0) hb rfl
  case dup =>
    obtain ⟨-, e⟩ := Prod.mk.inj h
    obtain ⟨e, -⟩ := Prod.mk.inj e
    rw [← e] at hb
    exact dc_0 (n := 0) hb rfl
  case dup2 =>
    obtain ⟨-, e⟩ := Prod.mk.inj h
    obtain ⟨e, -⟩ := Prod.mk.inj e
    rw [← e] at hb
    exact dc_0 (n := 0) hb rfl
  case i2b =>
    obtain ⟨-, e⟩ := Prod.mk.inj h
    obtain ⟨e, -⟩ := Prod.mk.inj e
    rw [← e] at hb
    exact dc_0 (n := 0) hb rfl
  case i2l =>
    obtain ⟨-, e⟩ := Prod.mk.inj h
    obtain ⟨e, -⟩ := Prod.mk.inj e
    rw [← e] at hb
    exact dc_0 (n := 0) hb rfl
  case i2s =>
    obtain ⟨-, e⟩ := Prod.mk.inj h
    obtain ⟨e, -⟩ := Prod.mk.inj e
    rw [← e] at hb
    exact dc_0 (n := 0) hb rfl
  case iadd =>
    obtain ⟨-, e⟩ := Prod.mk.inj h
    obtain ⟨e, -⟩ := Prod.mk.inj e
    rw [← e] at hb
    exact dc_0 (n := 0) hb rfl
  case iaload =>
    obtain ⟨-, e⟩ := Prod.mk.inj h
    obtain ⟨e, -⟩ := Prod.mk.inj e
    rw [← e] at hb
    exact dc_0 (n := 0) hb rfl
  case iand =>
    obtain ⟨-, e⟩ := Prod.mk.inj h
    obtain ⟨e, -⟩ := Prod.mk.inj e
    rw [← e] at hb
    exact dc_0 (n := 0) hb rfl
  case iastore =>
    obtain ⟨-, e⟩ := Prod.mk.inj h
    obtain ⟨e, -⟩ := Prod.mk.inj e
    rw [← e] at hb
    exact dc_0 (n := 0) hb rfl
  case idiv =>
    obtain ⟨-, e⟩ := Prod.mk.inj h
    obtain ⟨e, -⟩ := Prod.mk.inj e
    rw [← e] at hb
    exact dc_0 (n := 0) hb rfl
  case imul =>
    obtain ⟨-, e⟩ := Prod.mk.inj h
    obtain ⟨e, -⟩ := Prod.mk.inj e
    rw [← e] at hb
    exact dc_0 (n := 0) hb rfl
  case ineg =>
    obtain ⟨-, e⟩ := Prod.mk.inj h
    obtain ⟨e, -⟩ := Prod.mk.inj e
    rw [← e] at hb
    exact dc_0 (n := 0) hb rfl
  case ior =>
    obtain ⟨-, e⟩ := Prod.mk.inj h
    obtain ⟨e, -⟩ := Prod.mk.inj e
    rw [← e] at hb
    exact dc_0 (n := 0) hb rfl
  case irem =>
    obtain ⟨-, e⟩ := Prod.mk.inj h
    obtain ⟨e, -⟩ := Prod.mk.inj e
    rw [← e] at hb
    exact dc_0 (n := 0) hb rfl
  case ireturn =>
    obtain ⟨-, e⟩ := Prod.mk.inj h
    obtain ⟨e, -⟩ := Prod.mk.inj e
    rw [← e] at hb
    exact dc_0 (n := 0) hb rfl
  case ishl =>
    obtain ⟨-, e⟩ := Prod.mk.inj h
    obtain ⟨e, -⟩ := Prod.mk.inj e
    rw [← e] at hb
    exact dc_0 (n := 0) hb rfl
  case ishr =>
    obtain ⟨-, e⟩ := Prod.mk.inj h
    obtain ⟨e, -⟩ := Prod.mk.inj e
    rw [← e] at hb
    exact dc_0 (n := 0) hb rfl
  case isub =>
    obtain ⟨-, e⟩ := Prod.mk.inj h
    obtain ⟨e, -⟩ := Prod.mk.inj e
    rw [← e] at hb
    exact dc_0 (n := 0) hb rfl
  case iushr =>
    obtain ⟨-, e⟩ := Prod.mk.inj h
    obtain ⟨e, -⟩ := Prod.mk.inj e
    rw [← e] at hb
    exact dc_0 (n := 0) hb rfl
  case ixor =>
    obtain ⟨-, e⟩ := Prod.mk.inj h
    obtain ⟨e, -⟩ := Prod.mk.inj e
    rw [← e] at hb
    exact dc_0 (n := 0) hb rfl
  case l2i =>
    obtain ⟨-, e⟩ := Prod.mk.inj h
    obtain ⟨e, -⟩ := Prod.mk.inj e
    rw [← e] at hb
    exact dc_0 (n := 0) hb rfl
  case ladd =>
    obtain ⟨-, e⟩ := Prod.mk.inj h
    obtain ⟨e, -⟩ := Prod.mk.inj e
    rw [← e] at hb
    exact dc_0 (n := 0) hb rfl
  case laload =>
    obtain ⟨-, e⟩ := Prod.mk.inj h
    obtain ⟨e, -⟩ := Prod.mk.inj e
    rw [← e] at hb
    exact dc_0 (n := 0) hb rfl
  case land =>
    obtain ⟨-, e⟩ := Prod.mk.inj h
    obtain ⟨e, -⟩ := Prod.mk.inj e
    rw [← e] at hb
    exact dc_0 (n := 0) hb rfl
  case lastore =>
    obtain ⟨-, e⟩ := Prod.mk.inj h
    obtain ⟨e, -⟩ := Prod.mk.inj e
    rw [← e] at hb
    exact dc_0 (n := 0) hb rfl
  case lcmp =>
    obtain ⟨-, e⟩ := Prod.mk.inj h
    obtain ⟨e, -⟩ := Prod.mk.inj e
    rw [← e] at hb
    exact dc_0 (n := 0) hb rfl
  case lor =>
    obtain ⟨-, e⟩ := Prod.mk.inj h
    obtain ⟨e, -⟩ := Prod.mk.inj e
    rw [← e] at hb
    exact dc_0 (n := 0) hb rfl
  case lreturn =>
    obtain ⟨-, e⟩ := Prod.mk.inj h
    obtain ⟨e, -⟩ := Prod.mk.inj e
    rw [← e] at hb
    exact dc_0 (n := 0) hb rfl
  case lshl =>
    obtain ⟨-, e⟩ := Prod.mk.inj h
    obtain ⟨e, -⟩ := Prod.mk.inj e
    rw [← e] at hb
    exact dc_0 (n := 0) hb rfl
  case lsub =>
    obtain ⟨-, e⟩ := Prod.mk.inj h
    obtain ⟨e, -⟩ := Prod.mk.inj e
    rw [← e] at hb
    exact dc_0 (n := 0) hb rfl
  case lushr =>
    obtain ⟨-, e⟩ := Prod.mk.inj h
    obtain ⟨e, -⟩ := Prod.mk.inj e
    rw [← e] at hb
    exact dc_0 (n := 0) hb rfl
  case lxor =>
    obtain ⟨-, e⟩ := Prod.mk.inj h
    obtain ⟨e, -⟩ := Prod.mk.inj e
    rw [← e] at hb
    exact dc_0 (n := 0) hb rfl
  case pop =>
    obtain ⟨-, e⟩ := Prod.mk.inj h
    obtain ⟨e, -⟩ := Prod.mk.inj e
    rw [← e] at hb
    exact dc_0 (n := 0) hb rfl
  case pop2 =>
    obtain ⟨-, e⟩ := Prod.mk.inj h
    obtain ⟨e, -⟩ := Prod.mk.inj e
    rw [← e] at hb
    exact dc_0 (n := 0) hb rfl
  case return_ =>
    obtain ⟨-, e⟩ := Prod.mk.inj h
    obtain ⟨e, -⟩ := Prod.mk.inj e
    rw [← e] at hb
    exact dc_0 (n := 0) hb rfl
  case iload_n k =>
    obtain ⟨-, e⟩ := Prod.mk.inj h
    obtain ⟨e, -⟩ := Prod.mk.inj e
    rw [← e] at hb
    match k, hb with
    | 0, hb => exact dc_0 (n := 0) hb rfl
    | 1, hb => exact dc_0 (n := 0) hb rfl
    | 2, hb => exact dc_0 (n := 0) hb rfl
    | 3, hb => exact dc_0 (n := 0) hb rfl
  case lload_n k =>
    obtain ⟨-, e⟩ := Prod.mk.inj h
    obtain ⟨e, -⟩ := Prod.mk.inj e
    rw [← e] at hb
    match k, hb with
    | 0, hb => exact dc_0 (n := 0) hb rfl
    | 1, hb => exact dc_0 (n := 0) hb rfl
    | 2, hb => exact dc_0 (n := 0) hb rfl
    | 3, hb => exact dc_0 (n := 0) hb rfl
  case aload_n k =>
    obtain ⟨-, e⟩ := Prod.mk.inj h
    obtain ⟨e, -⟩ := Prod.mk.inj e
    rw [← e] at hb
    match k, hb with
    | 0, hb => exact dc_0 (n := 0) hb rfl
    | 1, hb => exact dc_0 (n := 0) hb rfl
    | 2, hb => exact dc_0 (n := 0) hb rfl
    | 3, hb => exact dc_0 (n := 0) hb rfl
  case istore_n k =>
    obtain ⟨-, e⟩ := Prod.mk.inj h
    obtain ⟨e, -⟩ := Prod.mk.inj e
    rw [← e] at hb
    match k, hb with
    | 0, hb => exact dc_0 (n := 0) hb rfl
    | 1, hb => exact dc_0 (n := 0) hb rfl
    | 2, hb => exact dc_0 (n := 0) hb rfl
    | 3, hb => exact dc_0 (n := 0) hb rfl
  case lstore_n k =>
    obtain ⟨-, e⟩ := Prod.mk.inj h
    obtain ⟨e, -⟩ := Prod.mk.inj e
    rw [← e] at hb
    match k, hb with
    | 0, hb => exact dc_0 (n := 0) hb rfl
    | 1, hb => exact dc_0 (n := 0) hb rfl
    | 2, hb => exact dc_0 (n := 0) hb rfl
    | 3, hb => exact dc_0 (n := 0) hb rfl
  case astore_n k =>
    obtain ⟨-, e⟩ := Prod.mk.inj h
    obtain ⟨e, -⟩ := Prod.mk.inj e
    rw [← e] at hb
    match k, hb with
    | 0, hb => exact dc_0 (n := 0) hb rfl
    | 1, hb => exact dc_0 (n := 0) hb rfl
    | 2, hb => exact dc_0 (n := 0) hb rfl
    | 3, hb => exact dc_0 (n := 0) hb rfl
  case lconst k =>
    obtain ⟨-, e⟩ := Prod.mk.inj h
    obtain ⟨e, -⟩ := Prod.mk.inj e
    rw [← e] at hb
    match k, hb with
    | 0, hb => exact dc_0 (n := 0) hb rfl
    | 1, hb => exact dc_0 (n := 0) hb rfl
  case iconst v =>
    have h : (if v = -1 then (0, 2, 0, 0) else if v = 0 then (0, 3, 0, 0) else if v = 1 then (0, 4, 0, 0) else if v = 2 then (0, 5, 0, 0) else if v = 3 then (0, 6, 0, 0) else if v = 4 then (0, 7, 0, 0) else if v = 5 then (0, 8, 0, 0) else (9, 0, 0, 0) : Nat × Nat × Int × Int) = (0, o, x, y) := h
    by_cases c0 : v = -1
    · rw [if_pos c0] at h
      obtain ⟨-, e⟩ := Prod.mk.inj h
      obtain ⟨e, -⟩ := Prod.mk.inj e
      rw [← e] at hb
      rw [c0]
      exact dc_0 (n := 0) hb rfl
    rw [if_neg c0] at h
    by_cases c1 : v = 0
    · rw [if_pos c1] at h
      obtain ⟨-, e⟩ := Prod.mk.inj h
      obtain ⟨e, -⟩ := Prod.mk.inj e
      rw [← e] at hb
      rw [c1]
      exact dc_0 (n := 0) hb rfl
    rw [if_neg c1] at h
    by_cases c2 : v = 1
    · rw [if_pos c2] at h
      obtain ⟨-, e⟩ := Prod.mk.inj h
      obtain ⟨e, -⟩ := Prod.mk.inj e
      rw [← e] at hb
      rw [c2]
      exact dc_0 (n := 0) hb rfl
    rw [if_neg c2] at h
    by_cases c3 : v = 2
    · rw [if_pos c3] at h
      obtain ⟨-, e⟩ := Prod.mk.inj h
      obtain ⟨e, -⟩ := Prod.mk.inj e
      rw [← e] at hb
      rw [c3]
      exact dc_0 (n := 0) hb rfl
    rw [if_neg c3] at h
    by_cases c4 : v = 3
    · rw [if_pos c4] at h
      obtain ⟨-, e⟩ := Prod.mk.inj h
      obtain ⟨e, -⟩ := Prod.mk.inj e
      rw [← e] at hb
      rw [c4]
      exact dc_0 (n := 0) hb rfl
    rw [if_neg c4] at h
    by_cases c5 : v = 4
    · rw [if_pos c5] at h
      obtain ⟨-, e⟩ := Prod.mk.inj h
      obtain ⟨e, -⟩ := Prod.mk.inj e
      rw [← e] at hb
      rw [c5]
      exact dc_0 (n := 0) hb rfl
    rw [if_neg c5] at h
    by_cases c6 : v = 5
    · rw [if_pos c6] at h
      obtain ⟨-, e⟩ := Prod.mk.inj h
      obtain ⟨e, -⟩ := Prod.mk.inj e
      rw [← e] at hb
      rw [c6]
      exact dc_0 (n := 0) hb rfl
    rw [if_neg c6] at h
    obtain ⟨e, -⟩ := Prod.mk.inj h
    exact absurd e (by decide)
  all_goals exact absurd (Prod.mk.inj h).1 (by decide)
theorem dc_ic {v : Int} {c o : Nat} {x y : Int} (h : dc_c (.iconst v) = (c, o, x, y)) : c = 0 ∨ c = 9 := by
  have h : (if v = -1 then (0, 2, 0, 0) else if v = 0 then (0, 3, 0, 0) else if v = 1 then (0, 4, 0, 0) else if v = 2 then (0, 5, 0, 0) else if v = 3 then (0, 6, 0, 0) else if v = 4 then (0, 7, 0, 0) else if v = 5 then (0, 8, 0, 0) else (9, 0, 0, 0) : Nat × Nat × Int × Int) = (c, o, x, y) := h
  by_cases c0 : v = -1
  · rw [if_pos c0] at h
    exact Or.inl (Prod.mk.inj h).1.symm
  rw [if_neg c0] at h
  by_cases c1 : v = 0
  · rw [if_pos c1] at h
    exact Or.inl (Prod.mk.inj h).1.symm
  rw [if_neg c1] at h
  by_cases c2 : v = 1
  · rw [if_pos c2] at h
    exact Or.inl (Prod.mk.inj h).1.symm
  rw [if_neg c2] at h
  by_cases c3 : v = 2
  · rw [if_pos c3] at h
    exact Or.inl (Prod.mk.inj h).1.symm
  rw [if_neg c3] at h
  by_cases c4 : v = 3
  · rw [if_pos c4] at h
    exact Or.inl (Prod.mk.inj h).1.symm
  rw [if_neg c4] at h
  by_cases c5 : v = 4
  · rw [if_pos c5] at h
    exact Or.inl (Prod.mk.inj h).1.symm
  rw [if_neg c5] at h
  by_cases c6 : v = 5
  · rw [if_pos c6] at h
    exact Or.inl (Prod.mk.inj h).1.symm
  rw [if_neg c6] at h
  exact Or.inr (Prod.mk.inj h).1.symm
theorem dc_k1 {i : Instr} {o a : Nat} {x y : Int} (h : dc_c i = (1, o, x, y)) (hb : dc_r cc pc = .ok (o, pc + 1)) (h1 : dc_r cc (pc + 1) = .ok (a, pc + 2)) (hx : (a : Int) = x) : decode cc pc = .ok (i, 2) := by
  cases i
  case iload k =>
    obtain ⟨-, e⟩ := Prod.mk.inj h
    obtain ⟨e, e2⟩ := Prod.mk.inj e
    obtain ⟨e2, -⟩ := Prod.mk.inj e2
    rw [← e] at hb
    have ek : a = k := Int.ofNat.inj (hx.trans e2.symm)
    rw [← ek]
    exact dc_1 (f := .iload) hb h1 rfl
  case lload k =>
    obtain ⟨-, e⟩ := Prod.mk.inj h
    obtain ⟨e, e2⟩ := Prod.mk.inj e
    obtain ⟨e2, -⟩ := Prod.mk.inj e2
    rw [← e] at hb
    have ek : a = k := Int.ofNat.inj (hx.trans e2.symm)
    rw [← ek]
    exact dc_1 (f := .lload) hb h1 rfl
  case aload k =>
    obtain ⟨-, e⟩ := Prod.mk.inj h
    obtain ⟨e, e2⟩ := Prod.mk.inj e
    obtain ⟨e2, -⟩ := Prod.mk.inj e2
    rw [← e] at hb
    have ek : a = k := Int.ofNat.inj (hx.trans e2.symm)
    rw [← ek]
    exact dc_1 (f := .aload) hb h1 rfl
  case istore k =>
    obtain ⟨-, e⟩ := Prod.mk.inj h
    obtain ⟨e, e2⟩ := Prod.mk.inj e
    obtain ⟨e2, -⟩ := Prod.mk.inj e2
    rw [← e] at hb
    have ek : a = k := Int.ofNat.inj (hx.trans e2.symm)
    rw [← ek]
    exact dc_1 (f := .istore) hb h1 rfl
  case lstore k =>
    obtain ⟨-, e⟩ := Prod.mk.inj h
    obtain ⟨e, e2⟩ := Prod.mk.inj e
    obtain ⟨e2, -⟩ := Prod.mk.inj e2
    rw [← e] at hb
    have ek : a = k := Int.ofNat.inj (hx.trans e2.symm)
    rw [← ek]
    exact dc_1 (f := .lstore) hb h1 rfl
  case astore k =>
    obtain ⟨-, e⟩ := Prod.mk.inj h
    obtain ⟨e, e2⟩ := Prod.mk.inj e
    obtain ⟨e2, -⟩ := Prod.mk.inj e2
    rw [← e] at hb
    have ek : a = k := Int.ofNat.inj (hx.trans e2.symm)
    rw [← ek]
    exact dc_1 (f := .astore) hb h1 rfl
  case ldc k =>
    obtain ⟨-, e⟩ := Prod.mk.inj h
    obtain ⟨e, e2⟩ := Prod.mk.inj e
    obtain ⟨e2, -⟩ := Prod.mk.inj e2
    rw [← e] at hb
    have ek : a = k := Int.ofNat.inj (hx.trans e2.symm)
    rw [← ek]
    exact dc_1 (f := .ldc) hb h1 rfl
  case iconst v =>
    exact absurd (dc_ic h) (by decide)
  all_goals exact absurd (Prod.mk.inj h).1 (by decide)
theorem dc_k2 {i : Instr} {o a b : Nat} {x y : Int} (h : dc_c i = (2, o, x, y)) (hb : dc_r cc pc = .ok (o, pc + 1)) (h1 : dc_r cc (pc + 1) = .ok (a, pc + 2)) (h2 : dc_r cc (pc + 2) = .ok (b, pc + 3)) (hx : ((a * 256 + b : Nat) : Int) = x) : decode cc pc = .ok (i, 3) := by
  cases i
  case ldc_w k =>
    obtain ⟨-, e⟩ := Prod.mk.inj h
    obtain ⟨e, e2⟩ := Prod.mk.inj e
    obtain ⟨e2, -⟩ := Prod.mk.inj e2
    rw [← e] at hb
    have ek : a * 256 + b = k := Int.ofNat.inj (hx.trans e2.symm)
    rw [← ek]
    exact dc_2 (f := .ldc_w) hb h1 h2 rfl
  case ldc2_w k =>
    obtain ⟨-, e⟩ := Prod.mk.inj h
    obtain ⟨e, e2⟩ := Prod.mk.inj e
    obtain ⟨e2, -⟩ := Prod.mk.inj e2
    rw [← e] at hb
    have ek : a * 256 + b = k := Int.ofNat.inj (hx.trans e2.symm)
    rw [← ek]
    exact dc_2 (f := .ldc2_w) hb h1 h2 rfl
  case getstatic k =>
    obtain ⟨-, e⟩ := Prod.mk.inj h
    obtain ⟨e, e2⟩ := Prod.mk.inj e
    obtain ⟨e2, -⟩ := Prod.mk.inj e2
    rw [← e] at hb
    have ek : a * 256 + b = k := Int.ofNat.inj (hx.trans e2.symm)
    rw [← ek]
    exact dc_2 (f := .getstatic) hb h1 h2 rfl
  case getfield k =>
    obtain ⟨-, e⟩ := Prod.mk.inj h
    obtain ⟨e, e2⟩ := Prod.mk.inj e
    obtain ⟨e2, -⟩ := Prod.mk.inj e2
    rw [← e] at hb
    have ek : a * 256 + b = k := Int.ofNat.inj (hx.trans e2.symm)
    rw [← ek]
    exact dc_2 (f := .getfield) hb h1 h2 rfl
  case putfield k =>
    obtain ⟨-, e⟩ := Prod.mk.inj h
    obtain ⟨e, e2⟩ := Prod.mk.inj e
    obtain ⟨e2, -⟩ := Prod.mk.inj e2
    rw [← e] at hb
    have ek : a * 256 + b = k := Int.ofNat.inj (hx.trans e2.symm)
    rw [← ek]
    exact dc_2 (f := .putfield) hb h1 h2 rfl
  case invokevirtual k =>
    obtain ⟨-, e⟩ := Prod.mk.inj h
    obtain ⟨e, e2⟩ := Prod.mk.inj e
    obtain ⟨e2, -⟩ := Prod.mk.inj e2
    rw [← e] at hb
    have ek : a * 256 + b = k := Int.ofNat.inj (hx.trans e2.symm)
    rw [← ek]
    exact dc_2 (f := .invokevirtual) hb h1 h2 rfl
  case invokespecial k =>
    obtain ⟨-, e⟩ := Prod.mk.inj h
    obtain ⟨e, e2⟩ := Prod.mk.inj e
    obtain ⟨e2, -⟩ := Prod.mk.inj e2
    rw [← e] at hb
    have ek : a * 256 + b = k := Int.ofNat.inj (hx.trans e2.symm)
    rw [← ek]
    exact dc_2 (f := .invokespecial) hb h1 h2 rfl
  case invokestatic k =>
    obtain ⟨-, e⟩ := Prod.mk.inj h
    obtain ⟨e, e2⟩ := Prod.mk.inj e
    obtain ⟨e2, -⟩ := Prod.mk.inj e2
    rw [← e] at hb
    have ek : a * 256 + b = k := Int.ofNat.inj (hx.trans e2.symm)
    rw [← ek]
    exact dc_2 (f := .invokestatic) hb h1 h2 rfl
  case new k =>
    obtain ⟨-, e⟩ := Prod.mk.inj h
    obtain ⟨e, e2⟩ := Prod.mk.inj e
    obtain ⟨e2, -⟩ := Prod.mk.inj e2
    rw [← e] at hb
    have ek : a * 256 + b = k := Int.ofNat.inj (hx.trans e2.symm)
    rw [← ek]
    exact dc_2 (f := .new) hb h1 h2 rfl
  case anewarray k =>
    obtain ⟨-, e⟩ := Prod.mk.inj h
    obtain ⟨e, e2⟩ := Prod.mk.inj e
    obtain ⟨e2, -⟩ := Prod.mk.inj e2
    rw [← e] at hb
    have ek : a * 256 + b = k := Int.ofNat.inj (hx.trans e2.symm)
    rw [← ek]
    exact dc_2 (f := .anewarray) hb h1 h2 rfl
  case checkcast k =>
    obtain ⟨-, e⟩ := Prod.mk.inj h
    obtain ⟨e, e2⟩ := Prod.mk.inj e
    obtain ⟨e2, -⟩ := Prod.mk.inj e2
    rw [← e] at hb
    have ek : a * 256 + b = k := Int.ofNat.inj (hx.trans e2.symm)
    rw [← ek]
    exact dc_2 (f := .checkcast) hb h1 h2 rfl
  case instanceof k =>
    obtain ⟨-, e⟩ := Prod.mk.inj h
    obtain ⟨e, e2⟩ := Prod.mk.inj e
    obtain ⟨e2, -⟩ := Prod.mk.inj e2
    rw [← e] at hb
    have ek : a * 256 + b = k := Int.ofNat.inj (hx.trans e2.symm)
    rw [← ek]
    exact dc_2 (f := .instanceof) hb h1 h2 rfl
  case iconst v =>
    exact absurd (dc_ic h) (by decide)
  all_goals exact absurd (Prod.mk.inj h).1 (by decide)
theorem dc_k3 {i : Instr} {o a b : Nat} {x y : Int} (h : dc_c i = (3, o, x, y)) (hb : dc_r cc pc = .ok (o, pc + 1)) (h1 : dc_r cc (pc + 1) = .ok (a, pc + 2)) (h2 : dc_r cc (pc + 2) = .ok (b, pc + 3)) (hx : dc_s 16 (a * 256 + b) = x) : decode cc pc = .ok (i, 3) := by
  cases i
  case sipush k =>
    obtain ⟨-, e⟩ := Prod.mk.inj h
    obtain ⟨e, e2⟩ := Prod.mk.inj e
    obtain ⟨e2, -⟩ := Prod.mk.inj e2
    rw [← e] at hb
    rw [show k = dc_s 16 (a * 256 + b) from (hx.trans e2.symm).symm]
    exact dc_2s (f := .sipush) hb h1 h2 rfl
  case goto k =>
    obtain ⟨-, e⟩ := Prod.mk.inj h
    obtain ⟨e, e2⟩ := Prod.mk.inj e
    obtain ⟨e2, -⟩ := Prod.mk.inj e2
    rw [← e] at hb
    rw [show k = dc_s 16 (a * 256 + b) from (hx.trans e2.symm).symm]
    exact dc_2s (f := .goto) hb h1 h2 rfl
  case ifnull k =>
    obtain ⟨-, e⟩ := Prod.mk.inj h
    obtain ⟨e, e2⟩ := Prod.mk.inj e
    obtain ⟨e2, -⟩ := Prod.mk.inj e2
    rw [← e] at hb
    rw [show k = dc_s 16 (a * 256 + b) from (hx.trans e2.symm).symm]
    exact dc_2s (f := .ifnull) hb h1 h2 rfl
  case ifnonnull k =>
    obtain ⟨-, e⟩ := Prod.mk.inj h
    obtain ⟨e, e2⟩ := Prod.mk.inj e
    obtain ⟨e2, -⟩ := Prod.mk.inj e2
    rw [← e] at hb
    rw [show k = dc_s 16 (a * 256 + b) from (hx.trans e2.symm).symm]
    exact dc_2s (f := .ifnonnull) hb h1 h2 rfl
  case ifCond c k =>
    obtain ⟨-, e⟩ := Prod.mk.inj h
    obtain ⟨e, e2⟩ := Prod.mk.inj e
    obtain ⟨e2, -⟩ := Prod.mk.inj e2
    rw [← e] at hb
    rw [show k = dc_s 16 (a * 256 + b) from (hx.trans e2.symm).symm]
    cases c
    all_goals exact dc_2s (f := fun z => .ifCond _ z) hb h1 h2 rfl
  case if_icmp c k =>
    obtain ⟨-, e⟩ := Prod.mk.inj h
    obtain ⟨e, e2⟩ := Prod.mk.inj e
    obtain ⟨e2, -⟩ := Prod.mk.inj e2
    rw [← e] at hb
    rw [show k = dc_s 16 (a * 256 + b) from (hx.trans e2.symm).symm]
    cases c
    all_goals exact dc_2s (f := fun z => .if_icmp _ z) hb h1 h2 rfl
  case iconst v =>
    exact absurd (dc_ic h) (by decide)
  all_goals exact absurd (Prod.mk.inj h).1 (by decide)
theorem dc_k4 {i : Instr} {o a : Nat} {x y : Int} (h : dc_c i = (4, o, x, y)) (hb : dc_r cc pc = .ok (o, pc + 1)) (h1 : dc_r cc (pc + 1) = .ok (a, pc + 2)) (hx : dc_s 8 a = x) : decode cc pc = .ok (i, 2) := by
  cases i
  case bipush k =>
    obtain ⟨-, e⟩ := Prod.mk.inj h
    obtain ⟨e, e2⟩ := Prod.mk.inj e
    obtain ⟨e2, -⟩ := Prod.mk.inj e2
    rw [← e] at hb
    rw [show k = dc_s 8 a from (hx.trans e2.symm).symm]
    exact dc_1s (f := .bipush) hb h1 rfl
  case iconst v =>
    exact absurd (dc_ic h) (by decide)
  all_goals exact absurd (Prod.mk.inj h).1 (by decide)
theorem dc_k5 {i : Instr} {o a b : Nat} {x y : Int} (h : dc_c i = (5, o, x, y)) (hb : dc_r cc pc = .ok (o, pc + 1)) (h1 : dc_r cc (pc + 1) = .ok (a, pc + 2)) (h2 : dc_r cc (pc + 2) = .ok (b, pc + 3)) (hx : (a : Int) = x) (hy : dc_s 8 b = y) : decode cc pc = .ok (i, 3) := by
  cases i
  case iinc k v =>
    obtain ⟨-, e⟩ := Prod.mk.inj h
    obtain ⟨e, e2⟩ := Prod.mk.inj e
    obtain ⟨e2, e3⟩ := Prod.mk.inj e2
    rw [← e] at hb
    have ek : a = k := Int.ofNat.inj (hx.trans e2.symm)
    rw [← ek, show v = dc_s 8 b from (hy.trans e3.symm).symm]
    exact dc_11 (f := .iinc) hb h1 h2 rfl
  case iconst v =>
    exact absurd (dc_ic h) (by decide)
  all_goals exact absurd (Prod.mk.inj h).1 (by decide)
theorem dc_nx {p : Nat} {b : UInt8} {r : List UInt8} (h : cc.data.toList.drop p = b :: r) : cc.data.toList.drop (p + 1) = r := by
  rw [← List.drop_drop, h]
  rfl
theorem dc_bok {i : Instr} {n : Nat} {bs : List UInt8} (hd : cc.data.toList.drop pc = bs) (h : dc_b i n bs = true) : decode cc pc = .ok (i, n) := by
  cases bs with
  | nil => exact absurd h Bool.false_ne_true
  | cons b r =>
    have hb := dc_u1 hd
    have hr := dc_nx hd
    have h : dc_m n b r (dc_c i) = true := h
    obtain ⟨⟨c, o, x, w⟩, e⟩ : ∃ t, dc_c i = t := ⟨_, rfl⟩
    rw [e] at h
    match c, e, h with
    | 0, e, h =>
      have h : (Nat.beq o b.toNat && Nat.beq n 1) = true := h
      rw [Bool.and_eq_true] at h
      rw [← Nat.eq_of_beq_eq_true h.1] at hb
      rw [Nat.eq_of_beq_eq_true h.2]
      exact dc_k0 e hb
    | 1, e, h =>
      have h : (Nat.beq o b.toNat && (Nat.beq n 2 && _)) = true := h
      rw [Bool.and_eq_true, Bool.and_eq_true] at h
      rw [← Nat.eq_of_beq_eq_true h.1] at hb
      rw [Nat.eq_of_beq_eq_true h.2.1]
      have h2 := h.2.2
      cases r with
      | nil => exact absurd h2 Bool.false_ne_true
      | cons y r => exact dc_k1 e hb (dc_u1 hr) (of_decide_eq_true h2)
    | 2, e, h =>
      have h : (Nat.beq o b.toNat && (Nat.beq n 3 && _)) = true := h
      rw [Bool.and_eq_true, Bool.and_eq_true] at h
      rw [← Nat.eq_of_beq_eq_true h.1] at hb
      rw [Nat.eq_of_beq_eq_true h.2.1]
      have h2 := h.2.2
      cases r with
      | nil => exact absurd h2 Bool.false_ne_true
      | cons y r =>
        have hz := dc_nx hr
        cases r with
        | nil => exact absurd h2 Bool.false_ne_true
        | cons z r => exact dc_k2 e hb (dc_u1 hr) (dc_u1 hz) (of_decide_eq_true h2)
    | 3, e, h =>
      have h : (Nat.beq o b.toNat && (Nat.beq n 3 && _)) = true := h
      rw [Bool.and_eq_true, Bool.and_eq_true] at h
      rw [← Nat.eq_of_beq_eq_true h.1] at hb
      rw [Nat.eq_of_beq_eq_true h.2.1]
      have h2 := h.2.2
      cases r with
      | nil => exact absurd h2 Bool.false_ne_true
      | cons y r =>
        have hz := dc_nx hr
        cases r with
        | nil => exact absurd h2 Bool.false_ne_true
        | cons z r => exact dc_k3 e hb (dc_u1 hr) (dc_u1 hz) (of_decide_eq_true h2)
    | 4, e, h =>
      have h : (Nat.beq o b.toNat && (Nat.beq n 2 && _)) = true := h
      rw [Bool.and_eq_true, Bool.and_eq_true] at h
      rw [← Nat.eq_of_beq_eq_true h.1] at hb
      rw [Nat.eq_of_beq_eq_true h.2.1]
      have h2 := h.2.2
      cases r with
      | nil => exact absurd h2 Bool.false_ne_true
      | cons y r => exact dc_k4 e hb (dc_u1 hr) (of_decide_eq_true h2)
    | 5, e, h =>
      have h : (Nat.beq o b.toNat && (Nat.beq n 3 && _)) = true := h
      rw [Bool.and_eq_true, Bool.and_eq_true] at h
      rw [← Nat.eq_of_beq_eq_true h.1] at hb
      rw [Nat.eq_of_beq_eq_true h.2.1]
      have h2 := h.2.2
      cases r with
      | nil => exact absurd h2 Bool.false_ne_true
      | cons y r =>
        have hz := dc_nx hr
        cases r with
        | nil => exact absurd h2 Bool.false_ne_true
        | cons z r =>
          have h2 : (decide ((y.toNat : Int) = x) && decide (dc_s 8 z.toNat = w)) = true := h2
          rw [Bool.and_eq_true] at h2
          exact dc_k5 e hb (dc_u1 hr) (dc_u1 hz) (of_decide_eq_true h2.1) (of_decide_eq_true h2.2)
    | c + 6, e, h => exact absurd h Bool.false_ne_true
end
/-- the instructions that are read in one walk; the others -/
def dc_w : List UInt8 → Nat → List (Nat × Instr × Nat) → Bool
  | _, _, [] => true
  | bs, p, (pc, i, n) :: r => Nat.ble p pc && (dc_b i n (bs.drop (pc - p)) && dc_w (bs.drop (pc - p)) pc r)
theorem dc_wok {cc : ByteArray} : ∀ {K : List (Nat × Instr × Nat)} {bs : List UInt8} {p : Nat}, cc.data.toList.drop p = bs → dc_w bs p K = true → ∀ x ∈ K, decode cc x.1 = .ok (x.2.1, x.2.2)
  | [], _, _, _, _ => fun _ h => absurd h List.not_mem_nil
  | (pc, i, n) :: r, bs, p, hd, h => by
    have h : (Nat.ble p pc && (dc_b i n (bs.drop (pc - p)) && dc_w (bs.drop (pc - p)) pc r)) = true := h
    rw [Bool.and_eq_true, Bool.and_eq_true] at h
    have hp : p ≤ pc := Nat.le_of_ble_eq_true h.1
    have hd2 : cc.data.toList.drop pc = bs.drop (pc - p) := by
      rw [← hd, List.drop_drop, show p + (pc - p) = pc by omega]
    exact List.forall_mem_cons.mpr ⟨dc_bok hd2 h.2.1, dc_wok hd2 h.2.2⟩
def dc_sw (x : Nat × Instr × Nat) : Bool := Nat.beq (dc_c x.2.1).1 9
/-- a method's instructions: the switches and the like by themselves -/
theorem dc_ok {cc : ByteArray} {K : List (Nat × Instr × Nat)} (h : dc_w cc.data.toList 0 (K.filter (fun x => !dc_sw x)) = true) (h2 : ∀ x ∈ K.filter dc_sw, decode cc x.1 = .ok (x.2.1, x.2.2)) : ∀ x ∈ K, decode cc x.1 = .ok (x.2.1, x.2.2) := fun x hx => by
  cases hs : dc_sw x with
  | true => exact h2 x (List.mem_filter.mpr ⟨hx, hs⟩)
  | false => exact dc_wok (p := 0) rfl h x (List.mem_filter.mpr ⟨hx, by rw [hs]; rfl⟩)
end
