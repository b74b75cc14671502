noncomputable section
/-! traces: what a method's instructions do, one behind the other, over a world -/
/-- what a call does: arguments, world, answer, world -/
abbrev fR : Type := List Value → va_W → List Nat → Option Value → va_W → List Nat → Prop
/-- a place: instruction, locals, stack, world, types -/
abbrev fS : Type := Nat × List (Nat × Value) × List Value × va_W × List Nat
/-- fields read, fields written, objects made, constants, instanceof, calls, script -/
abbrev fT : Type := List (Nat × Nat × Nat) × List (Nat × Nat × Nat × Nat) × List (Nat × Nat × Nat × Nat) × List (Nat × Nat × Int) × List (Nat × Nat × Nat) × (Nat → Nat × fR) × Option (Nat × Nat × (Nat → Int32))
def tM (M : ck_Me) (Fc : Nat → Nat × fR) (sb : Option (Nat × Nat × (Nat → Int32))) : fT := (mfl M, mpl M, mnw M, mkl M, mil M, Fc, sb)
def fw_v : Nat → Int64
  | 0 => -6148914691236517206
  | 1 => -3689348814741910324
  | 2 => -1085102592571150096
  | 3 => -71777214294589696
  | 4 => -281470681808896
  | _ => -4294967296
def f_dj (ws : va_W) : Prop := ∀ (i j : Nat) (p q : Nat × va_E), ws[i]? = some p → ws[j]? = some q → p.1 = q.1 → i = j
def f_out (ws : va_W) (a : Nat) : Prop := ∀ (q : Nat) (e : va_E), ws[q]? ≠ some (a, e)
def f_nsc (T : fT) (a : Nat) : Prop := ∀ (L : Nat) (xs : Nat → Int32), T.2.2.2.2.2.2 ≠ some (a, L, xs)
def f_st1 (lg : List (Nat × Value)) (i : Nat) (v : Value) : List (Nat × Value) := (i, v) :: lg.filter (fun q => !(q.1 == i) && !(q.1 + 1 == i && q.2.category == 2))
def f_st2 (lg : List (Nat × Value)) (i : Nat) (v : Value) : List (Nat × Value) := (i, v) :: lg.filter (fun q => !(q.1 == i) && (!(q.1 == i + 1) && !(q.1 + 1 == i && q.2.category == 2)))
/-- a push -/
def f_ps (a : fS) (len : Nat) (st : List Value) : fS := (a.1 + len, a.2.1, st, a.2.2.2)
def f_ld (i : Nat) (len : Nat) (a b : fS) : Prop := ∃ v, (∀ w, (i, w) ∈ a.2.1 → w = v) ∧ b = f_ps a len (v :: a.2.2.1)
def f_b32 (op : Int32 → Int32 → Int32) (a b : fS) : Prop := ∃ (x y : Int32) (r : List Value), a.2.2.1 = .int y :: .int x :: r ∧ b = f_ps a 1 (.int (op x y) :: r)
def f_b64 (op : Int64 → Int64 → Int64) (a b : fS) : Prop := ∃ (x y : Int64) (r : List Value), a.2.2.1 = .long y :: .long x :: r ∧ b = f_ps a 1 (.long (op x y) :: r)
def f_call (T : fT) (key : Nat) (a b : fS) : Prop := ∃ (As rest : List Value) (rv : Option Value) (ws' : va_W) (sh' : List Nat), a.2.2.1 = As.reverse ++ rest ∧ As.length = (T.2.2.2.2.2.1 key).1 ∧ (T.2.2.2.2.2.1 key).2 As a.2.2.2.1 a.2.2.2.2 rv ws' sh' ∧ b = (a.1 + 3, a.2.1, rv.toList ++ rest, ws', sh')
/-- a branch -/
def f_br (p : Prop) (off : Int) (a : fS) (r : List Value) (b : fS) : Prop := (p ∧ ∃ t : Nat, (a.1 : Int) + off = (t : Int) ∧ b = (t, a.2.1, r, a.2.2.2)) ∨ (¬ p ∧ b = f_ps a 3 r)
def fxi (T : fT) (ins : Instr) (len : Nat) (a b : fS) : Prop := match ins with
  | .iconst v => b = f_ps a len (.int (Int32.ofInt v) :: a.2.2.1)
  | .bipush v => b = f_ps a len (.int (Int8.ofInt v).toInt32 :: a.2.2.1)
  | .sipush v => b = f_ps a len (.int (Int16.ofInt v).toInt32 :: a.2.2.1)
  | .lconst v => b = f_ps a len (.long (Int64.ofNat (v : Nat)) :: a.2.2.1)
  | .ldc i => ∃ (v : Int32), (i, 0, v.toInt) ∈ T.2.2.2.1 ∧ b = f_ps a len (.int v :: a.2.2.1)
  | .ldc_w i => ∃ (v : Int32), (i, 0, v.toInt) ∈ T.2.2.2.1 ∧ b = f_ps a len (.int v :: a.2.2.1)
  | .ldc2_w i => ∃ (v : Int64), (i, 1, v.toInt) ∈ T.2.2.2.1 ∧ b = f_ps a len (.long v :: a.2.2.1)
  | .iload_n k => f_ld k len a b
  | .iload i => f_ld i len a b
  | .lload_n k => f_ld k len a b
  | .lload i => f_ld i len a b
  | .aload_n k => f_ld k len a b
  | .aload i => f_ld i len a b
  | .istore_n k => ∃ (v : Value) (r : List Value), a.2.2.1 = v :: r ∧ v.category = 1 ∧ b = (a.1 + len, f_st1 a.2.1 k v, r, a.2.2.2)
  | .istore i => ∃ (v : Value) (r : List Value), a.2.2.1 = v :: r ∧ v.category = 1 ∧ b = (a.1 + len, f_st1 a.2.1 i v, r, a.2.2.2)
  | .astore_n k => ∃ (v : Value) (r : List Value), a.2.2.1 = v :: r ∧ v.category = 1 ∧ b = (a.1 + len, f_st1 a.2.1 k v, r, a.2.2.2)
  | .astore i => ∃ (v : Value) (r : List Value), a.2.2.1 = v :: r ∧ v.category = 1 ∧ b = (a.1 + len, f_st1 a.2.1 i v, r, a.2.2.2)
  | .lstore_n k => ∃ (v : Value) (r : List Value), a.2.2.1 = v :: r ∧ v.category = 2 ∧ b = (a.1 + len, f_st2 a.2.1 k v, r, a.2.2.2)
  | .lstore i => ∃ (v : Value) (r : List Value), a.2.2.1 = v :: r ∧ v.category = 2 ∧ b = (a.1 + len, f_st2 a.2.1 i v, r, a.2.2.2)
  | .iinc i c => ∃ x : Int32, (∀ w, (i, w) ∈ a.2.1 → w = .int x) ∧ b = (a.1 + len, f_st1 a.2.1 i (.int (x + Int32.ofInt c)), a.2.2)
  | .iadd => f_b32 (· + ·) a b
  | .isub => f_b32 (· - ·) a b
  | .imul => f_b32 (· * ·) a b
  | .iand => f_b32 (· &&& ·) a b
  | .ior => f_b32 (· ||| ·) a b
  | .ixor => f_b32 (· ^^^ ·) a b
  | .ishl => f_b32 (fun x y => x <<< (y &&& 31)) a b
  | .ishr => f_b32 (fun x y => x >>> (y &&& 31)) a b
  | .iushr => f_b32 (fun x y => (x.toUInt32 >>> (y.toUInt32 &&& Int32.toUInt32 31)).toInt32) a b
  | .idiv => f_b32 (· / ·) a b
  | .irem => f_b32 (· % ·) a b
  | .ladd => f_b64 (· + ·) a b
  | .lsub => f_b64 (· - ·) a b
  | .lmul => f_b64 (· * ·) a b
  | .land => f_b64 (· &&& ·) a b
  | .lor => f_b64 (· ||| ·) a b
  | .lxor => f_b64 (· ^^^ ·) a b
  | .lushr => ∃ (x : Int64) (y : Int32) (r : List Value), a.2.2.1 = .int y :: .long x :: r ∧ b = f_ps a 1 (.long (x.toUInt64 >>> (y.toInt64.toUInt64 &&& Int64.toUInt64 63)).toInt64 :: r)
  | .lshr => ∃ (x : Int64) (y : Int32) (r : List Value), a.2.2.1 = .int y :: .long x :: r ∧ b = f_ps a 1 (.long (x >>> (y.toInt64 &&& 63)) :: r)
  | .lshl => ∃ (x : Int64) (y : Int32) (r : List Value), a.2.2.1 = .int y :: .long x :: r ∧ b = f_ps a 1 (.long (x <<< (y.toInt64 &&& 63)) :: r)
  | .ineg => ∃ (x : Int32) (r : List Value), a.2.2.1 = .int x :: r ∧ b = f_ps a 1 (.int (-x) :: r)
  | .i2l => ∃ (x : Int32) (r : List Value), a.2.2.1 = .int x :: r ∧ b = f_ps a 1 (.long x.toInt64 :: r)
  | .l2i => ∃ (x : Int64) (r : List Value), a.2.2.1 = .long x :: r ∧ b = f_ps a 1 (.int x.toInt32 :: r)
  | .i2b => ∃ (x : Int32) (r : List Value), a.2.2.1 = .int x :: r ∧ b = f_ps a 1 (.int x.toInt8.toInt32 :: r)
  | .i2s => ∃ (x : Int32) (r : List Value), a.2.2.1 = .int x :: r ∧ b = f_ps a 1 (.int x.toInt16.toInt32 :: r)
  | .lcmp => ∃ (x y : Int64) (r : List Value), a.2.2.1 = .long y :: .long x :: r ∧ b = f_ps a 1 (.int (lg_cmp x y) :: r)
  | .aconst_null => b = f_ps a 1 (.null :: a.2.2.1)
  | .dup => ∃ (v : Value) (r : List Value), a.2.2.1 = v :: r ∧ b = f_ps a 1 (v :: v :: r)
  | .pop => ∃ (v : Value) (r : List Value), a.2.2.1 = v :: r ∧ b = f_ps a 1 r
  | .pop2 => ∃ (x : Int64) (r : List Value), a.2.2.1 = .long x :: r ∧ b = f_ps a 1 r
  | .dup2 => ∃ (v w : Value) (r : List Value), a.2.2.1 = v :: w :: r ∧ b = f_ps a 1 (v :: w :: v :: w :: r)
  | .goto off => ∃ t : Nat, (a.1 : Int) + off = (t : Int) ∧ b = (t, a.2)
  | .ifCond cd off => ∃ (x : Int32) (r : List Value), a.2.2.1 = .int x :: r ∧ f_br (ck_cm cd x.toInt 0) off a r b
  | .if_icmp cd off => ∃ (x y : Int32) (r : List Value), a.2.2.1 = .int y :: .int x :: r ∧ f_br (ck_cm cd x.toInt y.toInt) off a r b
  | .ifnull off => ∃ (v : Value) (r : List Value), a.2.2.1 = v :: r ∧ f_br (v = .null) off a r b
  | .ifnonnull off => ∃ (v : Value) (r : List Value), a.2.2.1 = v :: r ∧ f_br (¬ v = .null) off a r b
  | .tableswitch d lo hi os => ∃ (x : Int32) (r : List Value), a.2.2.1 = .int x :: r ∧ ∃ (off : Int) (t : Nat), ((x.toInt < lo ∨ hi < x.toInt) ∧ off = d ∨ (¬ x.toInt < lo ∧ ¬ hi < x.toInt ∧ os[(x.toInt - lo).toNat]? = some off)) ∧ (a.1 : Int) + off = (t : Int) ∧ b = (t, a.2.1, r, a.2.2.2)
  | .getfield i => ∃ (p : Nat) (r : List Value) (q ci k : Nat) (fs : List Value) (v : Value), a.2.2.1 = .ref p :: r ∧ a.2.2.2.1[q]? = some (p, .inr (ci, fs)) ∧ (i, ci, k) ∈ T.1 ∧ fs[k]? = some v ∧ b = f_ps a 3 (v :: r)
  | .putfield i => ∃ (u : Value) (p : Nat) (r : List Value) (q ci k d : Nat) (fs : List Value), a.2.2.1 = u :: .ref p :: r ∧ a.2.2.2.1[q]? = some (p, .inr (ci, fs)) ∧ (i, ci, k, d) ∈ T.2.1 ∧ k < fs.length ∧ b = (a.1 + 3, a.2.1, r, a.2.2.2.1.set q (p, .inr (ci, fs.set k u)), a.2.2.2.2)
  | .getstatic _ => ∃ w, f_out a.2.2.2.1 w ∧ f_nsc T w ∧ b = f_ps a 3 (.ref w :: a.2.2.1)
  | .iaload => ∃ (x : Int32) (p : Nat) (r : List Value), a.2.2.1 = .int x :: .ref p :: r ∧ ((f_nsc T p ∧ ∃ (q len : Nat) (cA : ClassId) (f : Nat → Int32), a.2.2.2.1[q]? = some (p, .inl (cA, len, .inl f)) ∧ x.toNatClampNeg < len ∧ b = f_ps a 1 (.int (f x.toNatClampNeg) :: r)) ∨ ∃ (L : Nat) (xs : Nat → Int32), T.2.2.2.2.2.2 = some (p, L, xs) ∧ b = f_ps a 1 (.int (xs x.toNatClampNeg) :: r))
  | .laload => ∃ (x : Int32) (p : Nat) (r : List Value), a.2.2.1 = .int x :: .ref p :: r ∧ ((∃ (q len : Nat) (cA : ClassId) (f : Nat → Int64), a.2.2.2.1[q]? = some (p, .inl (cA, len, .inr (.inl f))) ∧ x.toNatClampNeg < len ∧ b = f_ps a 1 (.long (f x.toNatClampNeg) :: r)) ∨ (f_out a.2.2.2.1 p ∧ b = f_ps a 1 (.long (fw_v x.toNatClampNeg) :: r)))
  | .baload => ∃ (x : Int32) (p : Nat) (r : List Value), a.2.2.1 = .int x :: .ref p :: r ∧ ∃ (q len : Nat) (cA : ClassId) (f : Nat → Int32), a.2.2.2.1[q]? = some (p, .inl (cA, len, .inl f)) ∧ x.toNatClampNeg < len ∧ b = f_ps a 1 (.int (f x.toNatClampNeg) :: r)
  | .aaload => ∃ (x : Int32) (p : Nat) (r : List Value), a.2.2.1 = .int x :: .ref p :: r ∧ ∃ (q len : Nat) (cA : ClassId) (f : Nat → Option Nat), a.2.2.2.1[q]? = some (p, .inl (cA, len, .inr (.inr (.inr (.inr f))))) ∧ x.toNatClampNeg < len ∧ b = f_ps a 1 (va_rf (f x.toNatClampNeg) :: r)
  | .iastore => ∃ (v x : Int32) (p : Nat) (r : List Value), a.2.2.1 = .int v :: .int x :: .ref p :: r ∧ ∃ (q len : Nat) (cA : ClassId) (f : Nat → Int32), a.2.2.2.1[q]? = some (p, .inl (cA, len, .inl f)) ∧ x.toNatClampNeg < len ∧ b = (a.1 + 1, a.2.1, r, a.2.2.2.1.set q (p, .inl (cA, len, .inl (upd f x.toNatClampNeg v))), a.2.2.2.2)
  | .lastore => ∃ (v : Int64) (x : Int32) (p : Nat) (r : List Value), a.2.2.1 = .long v :: .int x :: .ref p :: r ∧ ∃ (q len : Nat) (cA : ClassId) (f : Nat → Int64), a.2.2.2.1[q]? = some (p, .inl (cA, len, .inr (.inl f))) ∧ x.toNatClampNeg < len ∧ b = (a.1 + 1, a.2.1, r, a.2.2.2.1.set q (p, .inl (cA, len, .inr (.inl (vp_updL f x.toNatClampNeg v)))), a.2.2.2.2)
  | .bastore => ∃ (v x : Int32) (p : Nat) (r : List Value), a.2.2.1 = .int v :: .int x :: .ref p :: r ∧ ∃ (q len : Nat) (cA : ClassId) (f : Nat → Int32), a.2.2.2.1[q]? = some (p, .inl (cA, len, .inl f)) ∧ x.toNatClampNeg < len ∧ b = (a.1 + 1, a.2.1, r, a.2.2.2.1.set q (p, .inl (cA, len, .inl (upd f x.toNatClampNeg (vp_nar .boolean v)))), a.2.2.2.2)
  | .aastore => ∃ (w : Option Nat) (x : Int32) (p : Nat) (r : List Value), a.2.2.1 = va_rf w :: .int x :: .ref p :: r ∧ ∃ (q len : Nat) (cA : ClassId) (f : Nat → Option Nat), a.2.2.2.1[q]? = some (p, .inl (cA, len, .inr (.inr (.inr (.inr f))))) ∧ x.toNatClampNeg < len ∧ b = (a.1 + 1, a.2.1, r, a.2.2.2.1.set q (p, .inl (cA, len, .inr (.inr (.inr (.inr (va_up f x.toNatClampNeg w)))))), a.2.2.2.2)
  | .arraylength => ∃ (p : Nat) (r : List Value), a.2.2.1 = .ref p :: r ∧ ((f_nsc T p ∧ ∃ (q : Nat) (cA : ClassId) (y : vp_A), a.2.2.2.1[q]? = some (p, .inl (cA, y)) ∧ b = f_ps a 1 (.int (Int32.ofNat y.1) :: r)) ∨ (∃ (L : Nat) (xs : Nat → Int32), T.2.2.2.2.2.2 = some (p, L, xs) ∧ b = f_ps a 1 (.int (Int32.ofNat L) :: r)) ∨ (f_nsc T p ∧ f_out a.2.2.2.1 p ∧ b = f_ps a 1 (.int 6 :: r)))
  | .new i => ∃ (q ci t n : Nat) (ty : Nat → FieldType), (i, ci, t, n) ∈ T.2.2.1 ∧ f_dj (a.2.2.2.1 ++ [(q, .inr (ci, (List.range n).map fun j => defaultValue (ty j)))]) ∧ b = (a.1 + 3, a.2.1, .ref q :: a.2.2.1, a.2.2.2.1 ++ [(q, .inr (ci, (List.range n).map fun j => defaultValue (ty j)))], a.2.2.2.2 ++ [t])
  | .instanceof i => ∃ (p : Nat) (r : List Value) (q ci d : Nat) (fs : List Value), a.2.2.1 = .ref p :: r ∧ a.2.2.2.1[q]? = some (p, .inr (ci, fs)) ∧ (i, ci, d) ∈ T.2.2.2.2.1 ∧ b = f_ps a 3 (.int (Int32.ofNat d) :: r)
  | .checkcast _ => ∃ (v : Value) (r : List Value), a.2.2.1 = v :: r ∧ b = f_ps a 3 (v :: r)
  | .invokevirtual i => f_call T (3 * i) a b
  | .invokestatic i => f_call T (3 * i + 1) a b
  | .invokespecial i => f_call T (3 * i + 2) a b
  | _ => False
def fx (T : fT) (cc : ByteArray) (a b : fS) : Prop := ∃ (ins : Instr) (len : Nat), decode cc a.1 = .ok (ins, len) ∧ fxi T ins len a b
def gr (T : fT) (cc : ByteArray) (s0 a : fS) : Prop := ∀ P : fS → Prop, P s0 → (∀ a b, P a → fx T cc a b → P b) → P a
theorem gr.rf {T : fT} {cc : ByteArray} {s0 : fS} : gr T cc s0 s0 := fun _ h _ => h
theorem gr.nx {T : fT} {cc cd : ByteArray} {s0 a b : fS} (h : gr T cd s0 a) (hb : cd = cc) {ins : Instr} {len : Nat} (hdg : decode cc a.1 = .ok (ins, len)) (hx : fxi T ins len a b) : gr T cd s0 b :=
  fun P h0 hs => hs a b (h P h0 hs) ⟨ins, len, by rw [hb]; exact hdg, hx⟩
/-- the goal at a place, with the trace that came to it -/
def WG (T : fT) (s0 : fS) (p : Program) (l : Launch) (e : Env) (R : Room) (s : State) (m : MethodId) (args : Array Value) (below : List Frame) (meth : Method) (c : Code) (ws : va_W) (sh : List Nat) (H : Heap) (locs : List Loc) (cells slots : Nat) (Q : State → Prop) (g : Nat × Array Slot × List Value) : Prop :=
  ∀ lg : List (Nat × Value), lv_has g.2.1 c.maxLocals lg → gr T c.code s0 (g.1, lg, g.2.2, ws, sh) → W p l e R s m args below meth c H locs cells slots Q (F0 m g.1 g.2.1 g.2.2)
section
variable {T : fT} {s0 : fS} {p : Program} {l : Launch} {e : Env} {R : Room} {s : State} {m : MethodId} {args : Array Value} {below : List Frame} {meth : Method} {c : Code} {ws ws' : va_W} {sh sh' : List Nat} {H H' : Heap} {locs locs' : List Loc} {cells slots cells' slots' : Nat} {Q : State → Prop} {pc pc' : Nat} {ls : Array Slot} {vs vs' : List Value} {cc : ByteArray}
/-- a row that leaves the locals alone -/
theorem WG.up {ins : Instr} {len : Nat} (row : W p l e R s m args below meth c H' locs' cells' slots' Q (F0 m pc' ls vs') → W p l e R s m args below meth c H locs cells slots Q (F0 m pc ls vs)) (hb : c.code = cc) (hdg : decode cc pc = .ok (ins, len))
    (hx : ∀ lg, fxi T ins len (pc, lg, vs, ws, sh) (pc', lg, vs', ws', sh')) (k : WG T s0 p l e R s m args below meth c ws' sh' H' locs' cells' slots' Q (pc', ls, vs')) : WG T s0 p l e R s m args below meth c ws sh H locs cells slots Q (pc, ls, vs) :=
  fun lg hl hg => row (k lg hl (hg.nx hb hdg (hx lg)))
theorem WG.widen {k n : Nat} {g : Nat × Array Slot × List Value} (h1 : cells ≤ k) (h2 : slots ≤ n) (kk : WG T s0 p l e R s m args below meth c ws sh H locs k n Q g) : WG T s0 p l e R s m args below meth c ws sh H locs cells slots Q g :=
  fun lg hl hg => W.widen h1 h2 (kk lg hl hg)
/-- a load -/
theorem f_ldx {lg : List (Nat × Value)} {nL i len : Nat} {v : Value} (hl : lv_has ls nL lg) (hv : ls[i]? = some (.val v)) : f_ld i len (pc, lg, vs, ws, sh) (pc + len, lg, v :: vs, ws, sh) :=
  ⟨v, fun w hw => by
    have h1 := hl.2.2 (i, w) hw
    rw [hv] at h1
    cases h1
    rfl, rfl⟩
theorem WG.ld {ins : Instr} {i len : Nat} {v : Value} (row : W p l e R s m args below meth c H locs cells slots Q (F0 m (pc + len) ls (v :: vs)) → W p l e R s m args below meth c H locs cells slots Q (F0 m pc ls vs)) (hv : ls[i]? = some (.val v)) (hb : c.code = cc) (hdg : decode cc pc = .ok (ins, len)) (hT : ∀ a b, f_ld i len a b → fxi T ins len a b)
    (k : WG T s0 p l e R s m args below meth c ws sh H locs cells slots Q (pc + len, ls, v :: vs)) : WG T s0 p l e R s m args below meth c ws sh H locs cells slots Q (pc, ls, vs) :=
  fun lg hl hg => row (k lg hl (hg.nx hb hdg (hT _ _ (f_ldx hl hv))))
/-- stores: of the locals that are listed here, and of those that the trace lists -/
theorem lv_both {nL nL' : Nat} {lv lg : List (Nat × Value)} (h : lv_has ls nL lv) (h2 : lv_has ls nL' lg) : lv_has ls nL (lv ++ lg) :=
  ⟨h.1, h.2.1, fun q hq => by
    rcases List.mem_append.mp hq with hq | hq
    · exact h.2.2 q hq
    · exact h2.2.2 q hq⟩
theorem lv_mem {nL nL' : Nat} {lv lg : List (Nat × Value)} (h : lv_has ls nL lv) (hn : nL = nL') (hs : ∀ q ∈ lg, q ∈ lv) : lv_has ls nL' lg := ⟨h.1.trans hn, h.2.1, fun q hq => h.2.2 q (hs q hq)⟩
theorem WG.st {ins : Instr} {i len nL : Nat} {w : Value} {lv : List (Nat × Value)} {f : Nat × Value → Bool} {vs0 : List Value} (h : lv_has ls nL lv)
    (row : ∀ lv0, lv_has ls nL lv0 → (∀ q ∈ lv, q ∈ lv0) → (∀ ls' : Array Slot, lv_has ls' nL ((i, w) :: lv0.filter f) → W p l e R s m args below meth c H locs cells slots Q (F0 m (pc + len) ls' vs)) → W p l e R s m args below meth c H locs cells slots Q (F0 m pc ls vs0)) (hb : c.code = cc) (hdg : decode cc pc = .ok (ins, len))
    (hT : ∀ lg, lv_has ls c.maxLocals lg → fxi T ins len (pc, lg, vs0, ws, sh) (pc + len, (i, w) :: lg.filter f, vs, ws, sh))
    (k : ∀ ls' : Array Slot, lv_has ls' nL ((i, w) :: lv.filter f) → WG T s0 p l e R s m args below meth c ws sh H locs cells slots Q (pc + len, ls', vs)) : WG T s0 p l e R s m args below meth c ws sh H locs cells slots Q (pc, ls, vs0) := by
  intro lg hl hg
  have hn : nL = c.maxLocals := h.1.symm.trans hl.1
  refine row (lv ++ lg) (lv_both h hl) (fun q hq => List.mem_append_left _ hq) (fun ls' hls' => ?_)
  refine k ls' (lv_mem hls' rfl fun q hq => ?_) ((i, w) :: lg.filter f) (lv_mem hls' hn fun q hq => ?_) (hg.nx hb hdg (hT lg hl))
  · rcases List.mem_cons.mp hq with rfl | hq
    · exact List.mem_cons_self
    · obtain ⟨h1, h2⟩ := List.mem_filter.mp hq
      exact List.mem_cons_of_mem _ (List.mem_filter.mpr ⟨List.mem_append_left _ h1, h2⟩)
  · rcases List.mem_cons.mp hq with rfl | hq
    · exact List.mem_cons_self
    · obtain ⟨h1, h2⟩ := List.mem_filter.mp hq
      exact List.mem_cons_of_mem _ (List.mem_filter.mpr ⟨List.mem_append_right _ h1, h2⟩)
end
end
