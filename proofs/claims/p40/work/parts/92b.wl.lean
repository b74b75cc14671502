noncomputable section
/-! what a trace comes to: a method's instructions over what a world holds by address -/
abbrev fH : Type := Nat → Option va_E
def hof (ws : va_W) : fH := fun a => (ws.find? (fun x => x.1 == a)).map Prod.snd
def hset (h : fH) (p : Nat) (e : va_E) : fH := fun a => if a = p then some e else h a
def iv : Value → Int32
  | .int x => x
  | _ => 0
def jv : Value → Int64
  | .long x => x
  | _ => 0
def rv_ : Value → Nat
  | .ref a => a
  | _ => 0
def eI : Option va_E → Nat → Int32
  | some (.inl (_, _, .inl f)), i => f i
  | _, _ => 0
def eJ : Option va_E → Nat → Int64
  | some (.inl (_, _, .inr (.inl f))), i => f i
  | none, i => fw_v i
  | _, _ => 0
def eR : Option va_E → Nat → Value
  | some (.inl (_, _, .inr (.inr (.inr (.inr f))))), i => va_rf (f i)
  | _, _ => .null
def eL : Option va_E → Nat
  | some (.inl (_, y)) => y.1
  | _ => 6
def kfd (fl : List (Nat × Nat × Nat)) (i ci : Nat) : Nat := match fl.find? (fun x => x.1 == i && x.2.1 == ci) with
  | some x => x.2.2
  | none => 1000
def eG (fl : List (Nat × Nat × Nat)) (i : Nat) : Option va_E → Value
  | some (.inr (ci, fs)) => fs.getD (kfd fl i ci) .null
  | _ => .null
def kpd (pl : List (Nat × Nat × Nat × Nat)) (i ci : Nat) : Nat := match pl.find? (fun x => x.1 == i && x.2.1 == ci) with
  | some x => x.2.2.1
  | none => 1000
def sG (pl : List (Nat × Nat × Nat × Nat)) (i : Nat) (u : Value) : Option va_E → va_E
  | some (.inr (ci, fs)) => .inr (ci, fs.set (kpd pl i ci) u)
  | some e => e
  | none => .inr (0, [])
def sI (i : Nat) (v : Int32) : Option va_E → va_E
  | some (.inl (c, n, .inl f)) => .inl (c, n, .inl (upd f i v))
  | some e => e
  | none => .inr (0, [])
def sJ (i : Nat) (v : Int64) : Option va_E → va_E
  | some (.inl (c, n, .inr (.inl f))) => .inl (c, n, .inr (.inl (vp_updL f i v)))
  | some e => e
  | none => .inr (0, [])
def sR (i : Nat) (v : Value) : Option va_E → va_E
  | some (.inl (c, n, .inr (.inr (.inr (.inr f))))) => .inl (c, n, .inr (.inr (.inr (.inr (va_up f i (match v with
    | .ref a => some a
    | _ => none))))))
  | some e => e
  | none => .inr (0, [])
def kci (il : List (Nat × Nat × Nat)) (i ci : Nat) : Nat := match il.find? (fun x => x.1 == i && x.2.1 == ci) with
  | some x => x.2.2
  | none => 0
def eT (il : List (Nat × Nat × Nat)) (i : Nat) : Option va_E → Int32
  | some (.inr (ci, _)) => Int32.ofNat (kci il i ci)
  | _ => 0
/-- locals: place, whether a long, value -/
abbrev fL_ : Type := List (Nat × Bool × Value)
def lk : fL_ → Nat → Option Value
  | [], _ => none
  | x :: l, i => bif x.1 == i then some x.2.2 else lk l i
def lkb : fL_ → Nat → Option (Bool × Value)
  | [], _ => none
  | x :: l, i => bif x.1 == i then some x.2 else lkb l i
def ls1 (l : fL_) (i : Nat) (v : Value) : fL_ := (i, false, v) :: l.filter (fun q => !(q.1 == i) && !(q.1 + 1 == i && q.2.1))
def ls2 (l : fL_) (i : Nat) (v : Value) : fL_ := (i, true, v) :: l.filter (fun q => !(q.1 == i) && (!(q.1 == i + 1) && !(q.1 + 1 == i && q.2.1)))
/-- the calls: key, arity, what they do -/
abbrev fP (W : Type) : Type := List (Nat × Nat × (List Value → W → Option Value → W → Prop))
/-- a world: what it holds; how it is written; how an object comes to it -/
abbrev fO (W : Type) : Type := (W → fH) × (W → Nat → va_E → (W → Prop) → Prop) × (W → Nat → va_E → Nat → (W → Prop) → Prop)
def f_tg (pc : Nat) (off : Int) : Nat := ((pc : Int) + off).toNat
def wT {W : Type} (k : Nat → fL_ → List Value → W → Prop) (pc : Nat) (lg : fL_) (r : List Value) (w : W) (x : Int32) : Int → List Int → Prop
  | _, [] => True
  | lo, o :: os => (x.toInt = lo → k (f_tg pc o) lg r w) ∧ wT k pc lg r w x (lo + 1) os
def wcall {W : Type} (_ : fO W) (Sp : fP W) (k : Nat → fL_ → List Value → W → Prop) (key pc : Nat) (lg : fL_) (vs : List Value) (w : W) : Prop := match Sp.find? (fun x => x.1 == key) with
  | some x => ∀ (rv : Option Value) (w' : W), x.2.2 (vs.take x.2.1).reverse w rv w' → k (pc + 3) lg (rv.toList ++ vs.drop x.2.1) w'
  | none => False
def wstep {W : Type} (O : fO W) (T : fT) (Sp : fP W) (Post : Option Value → W → Prop) (k : Nat → fL_ → List Value → W → Prop) (ins : Instr) (len pc : Nat) (lg : fL_) (vs : List Value) (w : W) : Prop := match ins, vs with
  | .iconst v, _ => k (pc + len) lg (.int (Int32.ofInt v) :: vs) w
  | .bipush v, _ => match decide (-128 ≤ v ∧ v < 128) with
    | true => k (pc + len) lg (.int (Int32.ofInt v) :: vs) w
    | false => False
  | .sipush v, _ => match decide (-32768 ≤ v ∧ v < 32768) with
    | true => k (pc + len) lg (.int (Int32.ofInt v) :: vs) w
    | false => False
  | .lconst v, _ => k (pc + len) lg (.long (Int64.ofNat (v : Nat)) :: vs) w
  | .ldc i, _ => match T.2.2.2.1.find? (fun x => x.1 == i && x.2.1 == 0) with
    | some x => k (pc + len) lg (.int (Int32.ofInt x.2.2) :: vs) w
    | none => False
  | .ldc_w i, _ => match T.2.2.2.1.find? (fun x => x.1 == i && x.2.1 == 0) with
    | some x => k (pc + len) lg (.int (Int32.ofInt x.2.2) :: vs) w
    | none => False
  | .ldc2_w i, _ => match T.2.2.2.1.find? (fun x => x.1 == i && x.2.1 == 1) with
    | some x => k (pc + len) lg (.long (Int64.ofInt x.2.2) :: vs) w
    | none => False
  | .iload_n i, _ => match lk lg i with
    | some v => k (pc + len) lg (v :: vs) w
    | none => False
  | .iload i, _ => match lk lg i with
    | some v => k (pc + len) lg (v :: vs) w
    | none => False
  | .lload_n i, _ => match lk lg i with
    | some v => k (pc + len) lg (v :: vs) w
    | none => False
  | .lload i, _ => match lk lg i with
    | some v => k (pc + len) lg (v :: vs) w
    | none => False
  | .aload_n i, _ => match lk lg i with
    | some v => k (pc + len) lg (v :: vs) w
    | none => False
  | .aload i, _ => match lk lg i with
    | some v => k (pc + len) lg (v :: vs) w
    | none => False
  | .istore_n i, v :: r => k (pc + len) (ls1 lg i v) r w
  | .istore i, v :: r => k (pc + len) (ls1 lg i v) r w
  | .astore_n i, v :: r => k (pc + len) (ls1 lg i v) r w
  | .astore i, v :: r => k (pc + len) (ls1 lg i v) r w
  | .lstore_n i, v :: r => k (pc + len) (ls2 lg i v) r w
  | .lstore i, v :: r => k (pc + len) (ls2 lg i v) r w
  | .iinc i c, _ => match lk lg i with
    | some v => k (pc + len) (ls1 lg i (.int (iv v + Int32.ofInt c))) vs w
    | none => False
  | .iadd, y :: x :: r => k (pc + 1) lg (.int (iv x + iv y) :: r) w
  | .isub, y :: x :: r => k (pc + 1) lg (.int (iv x - iv y) :: r) w
  | .imul, y :: x :: r => k (pc + 1) lg (.int (iv x * iv y) :: r) w
  | .iand, y :: x :: r => k (pc + 1) lg (.int (iv x &&& iv y) :: r) w
  | .ior, y :: x :: r => k (pc + 1) lg (.int (iv x ||| iv y) :: r) w
  | .ixor, y :: x :: r => k (pc + 1) lg (.int (iv x ^^^ iv y) :: r) w
  | .ishl, y :: x :: r => k (pc + 1) lg (.int (iv x <<< (iv y &&& 31)) :: r) w
  | .ishr, y :: x :: r => k (pc + 1) lg (.int (iv x >>> (iv y &&& 31)) :: r) w
  | .iushr, y :: x :: r => k (pc + 1) lg (.int ((iv x).toUInt32 >>> ((iv y).toUInt32 &&& Int32.toUInt32 31)).toInt32 :: r) w
  | .idiv, y :: x :: r => k (pc + 1) lg (.int (iv x / iv y) :: r) w
  | .irem, y :: x :: r => k (pc + 1) lg (.int (iv x % iv y) :: r) w
  | .ladd, y :: x :: r => k (pc + 1) lg (.long (jv x + jv y) :: r) w
  | .lsub, y :: x :: r => k (pc + 1) lg (.long (jv x - jv y) :: r) w
  | .lmul, y :: x :: r => k (pc + 1) lg (.long (jv x * jv y) :: r) w
  | .land, y :: x :: r => k (pc + 1) lg (.long (jv x &&& jv y) :: r) w
  | .lor, y :: x :: r => k (pc + 1) lg (.long (jv x ||| jv y) :: r) w
  | .lxor, y :: x :: r => k (pc + 1) lg (.long (jv x ^^^ jv y) :: r) w
  | .lushr, y :: x :: r => k (pc + 1) lg (.long ((jv x).toUInt64 >>> ((iv y).toInt64.toUInt64 &&& Int64.toUInt64 63)).toInt64 :: r) w
  | .lshr, y :: x :: r => k (pc + 1) lg (.long (jv x >>> ((iv y).toInt64 &&& 63)) :: r) w
  | .lshl, y :: x :: r => k (pc + 1) lg (.long (jv x <<< ((iv y).toInt64 &&& 63)) :: r) w
  | .ineg, x :: r => k (pc + 1) lg (.int (-(iv x)) :: r) w
  | .i2l, x :: r => k (pc + 1) lg (.long (iv x).toInt64 :: r) w
  | .l2i, x :: r => k (pc + 1) lg (.int (jv x).toInt32 :: r) w
  | .i2b, x :: r => k (pc + 1) lg (.int (iv x).toInt8.toInt32 :: r) w
  | .i2s, x :: r => k (pc + 1) lg (.int (iv x).toInt16.toInt32 :: r) w
  | .lcmp, y :: x :: r => k (pc + 1) lg (.int (lg_cmp (jv x) (jv y)) :: r) w
  | .aconst_null, _ => k (pc + 1) lg (.null :: vs) w
  | .dup, v :: r => k (pc + 1) lg (v :: v :: r) w
  | .pop, _ :: r => k (pc + 1) lg r w
  | .pop2, _ :: r => k (pc + 1) lg r w
  | .dup2, v :: u :: r => k (pc + 1) lg (v :: u :: v :: u :: r) w
  | .goto off, _ => k (f_tg pc off) lg vs w
  | .ifCond cd off, x :: r => (ck_cm cd (iv x).toInt 0 → k (f_tg pc off) lg r w) ∧ (¬ ck_cm cd (iv x).toInt 0 → k (pc + 3) lg r w)
  | .if_icmp cd off, y :: x :: r => (ck_cm cd (iv x).toInt (iv y).toInt → k (f_tg pc off) lg r w) ∧ (¬ ck_cm cd (iv x).toInt (iv y).toInt → k (pc + 3) lg r w)
  | .ifnull off, v :: r => (v = .null → k (f_tg pc off) lg r w) ∧ (¬ v = .null → k (pc + 3) lg r w)
  | .ifnonnull off, v :: r => (¬ v = .null → k (f_tg pc off) lg r w) ∧ (v = .null → k (pc + 3) lg r w)
  | .tableswitch d lo hi os, x :: r => ((iv x).toInt < lo ∨ hi < (iv x).toInt → k (f_tg pc d) lg r w) ∧ (lo ≤ (iv x).toInt → (iv x).toInt ≤ hi → wT k pc lg r w (iv x) lo os.toList)
  | .getfield i, p :: r => k (pc + 3) lg (eG T.1 i (O.1 w (rv_ p)) :: r) w
  | .putfield i, u :: p :: r => O.2.1 w (rv_ p) (sG T.2.1 i u (O.1 w (rv_ p))) (k (pc + 3) lg r)
  | .getstatic _, _ => ∀ p, O.1 w p = none → k (pc + 3) lg (.ref p :: vs) w
  | .iaload, x :: p :: r => match T.2.2.2.2.2.2 with
    | none => k (pc + 1) lg (.int (eI (O.1 w (rv_ p)) (iv x).toNatClampNeg) :: r) w
    | some sb => rv_ p = sb.1 ∧ k (pc + 1) lg (.int (sb.2.2 (iv x).toNatClampNeg) :: r) w
  | .laload, x :: p :: r => k (pc + 1) lg (.long (eJ (O.1 w (rv_ p)) (iv x).toNatClampNeg) :: r) w
  | .baload, x :: p :: r => k (pc + 1) lg (.int (eI (O.1 w (rv_ p)) (iv x).toNatClampNeg) :: r) w
  | .aaload, x :: p :: r => k (pc + 1) lg (eR (O.1 w (rv_ p)) (iv x).toNatClampNeg :: r) w
  | .iastore, v :: x :: p :: r => O.2.1 w (rv_ p) (sI (iv x).toNatClampNeg (iv v) (O.1 w (rv_ p))) (k (pc + 1) lg r)
  | .lastore, v :: x :: p :: r => O.2.1 w (rv_ p) (sJ (iv x).toNatClampNeg (jv v) (O.1 w (rv_ p))) (k (pc + 1) lg r)
  | .bastore, v :: x :: p :: r => O.2.1 w (rv_ p) (sI (iv x).toNatClampNeg (vp_nar .boolean (iv v)) (O.1 w (rv_ p))) (k (pc + 1) lg r)
  | .aastore, v :: x :: p :: r => O.2.1 w (rv_ p) (sR (iv x).toNatClampNeg v (O.1 w (rv_ p))) (k (pc + 1) lg r)
  | .arraylength, p :: r => match T.2.2.2.2.2.2 with
    | none => k (pc + 1) lg (.int (Int32.ofNat (eL (O.1 w (rv_ p)))) :: r) w
    | some sb => rv_ p = sb.1 ∧ k (pc + 1) lg (.int (Int32.ofNat sb.2.1) :: r) w
  | .new i, _ => ∀ (q : Nat) (ty : Nat → FieldType), O.1 w q = none → match T.2.2.1.find? (fun x => x.1 == i) with
    | some x => O.2.2 w q (.inr (x.2.1, (List.range x.2.2.2).map fun j => defaultValue (ty j))) x.2.2.1 (k (pc + 3) lg (.ref q :: vs))
    | none => False
  | .instanceof i, p :: r => k (pc + 3) lg (.int (eT T.2.2.2.2.1 i (O.1 w (rv_ p))) :: r) w
  | .checkcast _, _ => k (pc + 3) lg vs w
  | .invokevirtual i, _ => wcall O Sp k (3 * i) pc lg vs w
  | .invokestatic i, _ => wcall O Sp k (3 * i + 1) pc lg vs w
  | .invokespecial i, _ => wcall O Sp k (3 * i + 2) pc lg vs w
  | .return_, [] => Post none w
  | .ireturn, [v] => Post (some v) w
  | .lreturn, [v] => Post (some v) w
  | .areturn, [v] => Post (some v) w
  | _, _ => False
/-- loops' heads -/
abbrev fI (W : Type) : Type := List (Nat × (fL_ → List Value → W → Prop))
def wl {W : Type} (O : fO W) (T : fT) (Sp : fP W) (Post : Option Value → W → Prop) (code : ck_cd) (hd : fI W) : Nat → ck_cd → Nat → fL_ → List Value → W → Prop
  | 0, _, _, _, _, _ => False
  | f + 1, suf, pc, lg, vs, w => match hd.find? (fun x => x.1 == pc) with
    | some x => x.2 lg vs w
    | none => match ck_sfx code suf pc with
      | some y => wstep O T Sp Post (wl O T Sp Post code hd f y.2.2) y.1 y.2.1 pc lg vs w
      | none => False
/-- from a head on -/
def wh {W : Type} (O : fO W) (T : fT) (Sp : fP W) (Post : Option Value → W → Prop) (code : ck_cd) (hd : fI W) (f pc : Nat) (lg : fL_) (vs : List Value) (w : W) : Prop := match ck_fnd code pc with
  | some y => wstep O T Sp Post (wl O T Sp Post code hd f y.2.2) y.1 y.2.1 pc lg vs w
  | none => False
def f_sub : fL_ → fL_ → Prop
  | [], _ => True
  | x :: l, lg => lkb lg x.1 = some x.2 ∧ f_sub l lg
end
