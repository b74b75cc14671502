noncomputable section
/-! what a trace comes to: a method's instructions over what a world holds by address -/
abbrev fH : Type := Nat → Option va_E
def hof (ws : va_W) : fH := fun a => (ws.find? (fun x => x.1 == a)).map Prod.snd
def hset (h : fH) (p : Nat) (e : va_E) : fH := fun a => if a = p then some e else h a
def iv : Value → Int32
  | .int x => x
  | _ => 0
def jv : Value → Int64
  | .long x => x
  | _ => 0
def rv_ : Value → Nat
  | .ref a => a
  | _ => 0
def eI : Option va_E → Nat → Int32
  | some (.inl (_, _, .inl f)), i => f i
  | _, _ => 0
def eJ : Option va_E → Nat → Int64
  | some (.inl (_, _, .inr (.inl f))), i => f i
  | none, i => fw_v i
  | _, _ => 0
def eR : Option va_E → Nat → Value
  | some (.inl (_, _, .inr (.inr (.inr (.inr f))))), i => va_rf (f i)
  | _, _ => .null
def eL : Option va_E → Nat
  | some (.inl (_, y)) => y.1
  | _ => 6
def kfd (fl : List (Nat × Nat × Nat)) (i ci : Nat) : Nat := match fl.find? (fun x => x.1 == i && x.2.1 == ci) with
  | some x => x.2.2
  | none => 1000
def eG (fl : List (Nat × Nat × Nat)) (i : Nat) : Option va_E → Value
  | some (.inr (ci, fs)) => fs.getD (kfd fl i ci) .null
  | _ => .null
def kpd (pl : List (Nat × Nat × Nat × Nat)) (i ci : Nat) : Nat := match pl.find? (fun x => x.1 == i && x.2.1 == ci) with
  | some x => x.2.2.1
  | none => 1000
def sG (pl : List (Nat × Nat × Nat × Nat)) (i : Nat) (u : Value) : Option va_E → va_E
  | some (.inr (ci, fs)) => .inr (ci, fs.set (kpd pl i ci) u)
  | some e => e
  | none => .inr (0, [])
def sI (i : Nat) (v : Int32) : Option va_E → va_E
  | some (.inl (c, n, .inl f)) => .inl (c, n, .inl (upd f i v))
  | some e => e
  | none => .inr (0, [])
def sJ (i : Nat) (v : Int64) : Option va_E → va_E
  | some (.inl (c, n, .inr (.inl f))) => .inl (c, n, .inr (.inl (vp_updL f i v)))
  | some e => e
  | none => .inr (0, [])
def sR (i : Nat) (v : Value) : Option va_E → va_E
  | some (.inl (c, n, .inr (.inr (.inr (.inr f))))) => .inl (c, n, .inr (.inr (.inr (.inr (va_up f i (match v with
    | .ref a => some a
    | _ => none))))))
  | some e => e
  | none => .inr (0, [])
def kci (il : List (Nat × Nat × Nat)) (i ci : Nat) : Nat := match il.find? (fun x => x.1 == i && x.2.1 == ci) with
  | some x => x.2.2
  | none => 0
def eT (il : List (Nat × Nat × Nat)) (i : Nat) : Option va_E → Int32
  | some (.inr (ci, _)) => Int32.ofNat (kci il i ci)
  | _ => 0
/-- locals: place, whether a long, value -/
abbrev fL_ : Type := List (Nat × Bool × Value)
def lk : fL_ → Nat → Option Value
  | [], _ => none
  | x :: l, i => bif x.1 == i then some x.2.2 else lk l i
def lkb : fL_ → Nat → Option (Bool × Value)
  | [], _ => none
  | x :: l, i => bif x.1 == i then some x.2 else lkb l i
def ls1 (l : fL_) (i : Nat) (v : Value) : fL_ := (i, false, v) :: l.filter (fun q => !(q.1 == i) && !(q.1 + 1 == i && q.2.1))
def ls2 (l : fL_) (i : Nat) (v : Value) : fL_ := (i, true, v) :: l.filter (fun q => !(q.1 == i) && (!(q.1 == i + 1) && !(q.1 + 1 == i && q.2.1)))
/-- the calls: key, arity, what they do -/
abbrev fP (W : Type) : Type := List (Nat × Nat × (List Value → W → Option Value → W → Prop))
/-- a world: what it holds; how it is written; how an object comes to it -/
abbrev fO (W : Type) : Type := (W → fH) × (W → Nat → va_E → (W → Prop) → Prop) × (W → Nat → va_E → Nat → (W → Prop) → Prop)
def f_tg (pc : Nat) (off : Int) : Nat := ((pc : Int) + off).toNat
def wT {W : Type} (k : Nat → fL_ → List Value → W → Prop) (pc : Nat) (lg : fL_) (r : List Value) (w : W) (x : Int32) : Int → List Int → Prop
  | _, [] => True
  | lo, o :: os => (x.toInt = lo → k (f_tg pc o) lg r w) ∧ wT k pc lg r w x (lo + 1) os
def wcall {W : Type} (_ : fO W) (Sp : fP W) (k : Nat → fL_ → List Value → W → Prop) (key pc : Nat) (lg : fL_) (vs : List Value) (w : W) : Prop := match Sp.find? (fun x => x.1 == key) with
  | some x => ∀ (rv : Option Value) (w' : W), x.2.2 (vs.take x.2.1).reverse w rv w' → k (pc + 3) lg (rv.toList ++ vs.drop x.2.1) w'
  | none => False
def wstep {W : Type} (O : fO W) (T : fT) (Sp : fP W) (Post : Option Value → W → Prop) (k : Nat → fL_ → List Value → W → Prop) (ins : Instr) (len pc : Nat) (lg : fL_) (vs : List Value) (w : W) : Prop := match ins, vs with
  | .iconst v, _ => k (pc + len) lg (.int (Int32.ofInt v) :: vs) w
  | .bipush v, _ => match decide (-128 ≤ v ∧ v < 128) with
    | true => k (pc + len) lg (.int (Int32.ofInt v) :: vs) w
    | false => False
  | .sipush v, _ => match decide (-32768 ≤ v ∧ v < 32768) with
    | true => k (pc + len) lg (.int (Int32.ofInt v) :: vs) w
    | false => False
  | .lconst v, _ => k (pc + len) lg (.long (Int64.ofNat (v : Nat)) :: vs) w
  | .ldc i, _ => match T.2.2.2.1.find? (fun x => x.1 == i && x.2.1 == 0) with
    | some x => k (pc + len) lg (.int (Int32.ofInt x.2.2) :: vs) w
    | none => False
  | .ldc_w i, _ => match T.2.2.2.1.find? (fun x => x.1 == i && x.2.1 == 0) with
    | some x => k (pc + len) lg (.int (Int32.ofInt x.2.2) :: vs) w
    | none => False
  | .ldc2_w i, _ => match T.2.2.2.1.find? (fun x => x.1 == i && x.2.1 == 1) with
    | some x => k (pc + len) lg (.long (Int64.ofInt x.2.2) :: vs) w
    | none => False
  | .iload_n i, _ => match lk lg i with
    | some v => k (pc + len) lg (v :: vs) w
    | none => False
  | .iload i, _ => match lk lg i with
    | some v => k (pc + len) lg (v :: vs) w
    | none => False
  | .lload_n i, _ => match lk lg i with
    | some v => k (pc + len) lg (v :: vs) w
    | none => False
  | .lload i, _ => match lk lg i with
    | some v => k (pc + len) lg (v :: vs) w
    | none => False
  | .aload_n i, _ => match lk lg i with
    | some v => k (pc + len) lg (v :: vs) w
    | none => False
  | .aload i, _ => match lk lg i with
    | some v => k (pc + len) lg (v :: vs) w
    | none => False
  | .istore_n i, v :: r => k (pc + len) (ls1 lg i v) r w
  | .istore i, v :: r => k (pc + len) (ls1 lg i v) r w
  | .astore_n i, v :: r => k (pc + len) (ls1 lg i v) r w
  | .astore i, v :: r => k (pc + len) (ls1 lg i v) r w
  | .lstore_n i, v :: r => k (pc + len) (ls2 lg i v) r w
  | .lstore i, v :: r => k (pc + len) (ls2 lg i v) r w
  | .iinc i c, _ => match lk lg i with
    | some v => k (pc + len) (ls1 lg i (.int (iv v + Int32.ofInt c))) vs w
    | none => False
  | .iadd, y :: x :: r => k (pc + 1) lg (.int (iv x + iv y) :: r) w
  | .isub, y :: x :: r => k (pc + 1) lg (.int (iv x - iv y) :: r) w
  | .imul, y :: x :: r => k (pc + 1) lg (.int (iv x * iv y) :: r) w
  | .iand, y :: x :: r => k (pc + 1) lg (.int (iv x &&& iv y) :: r) w
  | .ior, y :: x :: r => k (pc + 1) lg (.int (iv x ||| iv y) :: r) w
  | .ixor, y :: x :: r => k (pc + 1) lg (.int (iv x ^^^ iv y) :: r) w
  | .ishl, y :: x :: r => k (pc + 1) lg (.int (iv x <<< (iv y &&& 31)) :: r) w
  | .ishr, y :: x :: r => k (pc + 1) lg (.int (iv x >>> (iv y &&& 31)) :: r) w
  | .iushr, y :: x :: r => k (pc + 1) lg (.int ((iv x).toUInt32 >>> ((iv y).toUInt32 &&& Int32.toUInt32 31)).toInt32 :: r) w
  | .idiv, y :: x :: r => k (pc + 1) lg (.int (iv x / iv y) :: r) w
  | .irem, y :: x :: r => k (pc + 1) lg (.int (iv x % iv y) :: r) w
  | .ladd, y :: x :: r => k (pc + 1) lg (.long (jv x + jv y) :: r) w
  | .lsub, y :: x :: r => k (pc + 1) lg (.long (jv x - jv y) :: r) w
  | .lmul, y :: x :: r => k (pc + 1) lg (.long (jv x * jv y) :: r) w
  | .land, y :: x :: r => k (pc + 1) lg (.long (jv x &&& jv y) :: r) w
  | .lor, y :: x :: r => k (pc + 1) lg (.long (jv x ||| jv y) :: r) w
  | .lxor, y :: x :: r => k (pc + 1) lg (.long (jv x ^^^ jv y) :: r) w
  | .lushr, y :: x :: r => k (pc + 1) lg (.long ((jv x).toUInt64 >>> ((iv y).toInt64.toUInt64 &&& Int64.toUInt64 63)).toInt64 :: r) w
  | .lshr, y :: x :: r => k (pc + 1) lg (.long (jv x >>> ((iv y).toInt64 &&& 63)) :: r) w
  | .lshl, y :: x :: r => k (pc + 1) lg (.long (jv x <<< ((iv y).toInt64 &&& 63)) :: r) w
  | .ineg, x :: r => k (pc + 1) lg (.int (-(iv x)) :: r) w
  | .i2l, x :: r => k (pc + 1) lg (.long (iv x).toInt64 :: r) w
  | .l2i, x :: r => k (pc + 1) lg (.int (jv x).toInt32 :: r) w
  | .i2b, x :: r => k (pc + 1) lg (.int (iv x).toInt8.toInt32 :: r) w
  | .i2s, x :: r => k (pc + 1) lg (.int (iv x).toInt16.toInt32 :: r) w
  | .lcmp, y :: x :: r => k (pc + 1) lg (.int (lg_cmp (jv x) (jv y)) :: r) w
  | .aconst_null, _ => k (pc + 1) lg (.null :: vs) w
  | .dup, v :: r => k (pc + 1) lg (v :: v :: r) w
  | .pop, _ :: r => k (pc + 1) lg r w
  | .pop2, _ :: r => k (pc + 1) lg r w
  | .dup2, v :: u :: r => k (pc + 1) lg (v :: u :: v :: u :: r) w
  | .goto off, _ => k (f_tg pc off) lg vs w
  | .ifCond cd off, x :: r => (ck_cm cd (iv x).toInt 0 → k (f_tg pc off) lg r w) ∧ (¬ ck_cm cd (iv x).toInt 0 → k (pc + 3) lg r w)
  | .if_icmp cd off, y :: x :: r => (ck_cm cd (iv x).toInt (iv y).toInt → k (f_tg pc off) lg r w) ∧ (¬ ck_cm cd (iv x).toInt (iv y).toInt → k (pc + 3) lg r w)
  | .ifnull off, v :: r => (v = .null → k (f_tg pc off) lg r w) ∧ (¬ v = .null → k (pc + 3) lg r w)
  | .ifnonnull off, v :: r => (¬ v = .null → k (f_tg pc off) lg r w) ∧ (v = .null → k (pc + 3) lg r w)
  | .tableswitch d lo hi os, x :: r => ((iv x).toInt < lo ∨ hi < (iv x).toInt → k (f_tg pc d) lg r w) ∧ (lo ≤ (iv x).toInt → (iv x).toInt ≤ hi → wT k pc lg r w (iv x) lo os.toList)
  | .getfield i, p :: r => k (pc + 3) lg (eG T.1 i (O.1 w (rv_ p)) :: r) w
  | .putfield i, u :: p :: r => O.2.1 w (rv_ p) (sG T.2.1 i u (O.1 w (rv_ p))) (k (pc + 3) lg r)
  | .getstatic _, _ => ∀ p, O.1 w p = none → k (pc + 3) lg (.ref p :: vs) w
  | .iaload, x :: p :: r => match T.2.2.2.2.2.2 with
    | none => k (pc + 1) lg (.int (eI (O.1 w (rv_ p)) (iv x).toNatClampNeg) :: r) w
    | some sb => rv_ p = sb.1 ∧ k (pc + 1) lg (.int (sb.2.2 (iv x).toNatClampNeg) :: r) w
  | .laload, x :: p :: r => k (pc + 1) lg (.long (eJ (O.1 w (rv_ p)) (iv x).toNatClampNeg) :: r) w
  | .baload, x :: p :: r => k (pc + 1) lg (.int (eI (O.1 w (rv_ p)) (iv x).toNatClampNeg) :: r) w
  | .aaload, x :: p :: r => k (pc + 1) lg (eR (O.1 w (rv_ p)) (iv x).toNatClampNeg :: r) w
  | .iastore, v :: x :: p :: r => O.2.1 w (rv_ p) (sI (iv x).toNatClampNeg (iv v) (O.1 w (rv_ p))) (k (pc + 1) lg r)
  | .lastore, v :: x :: p :: r => O.2.1 w (rv_ p) (sJ (iv x).toNatClampNeg (jv v) (O.1 w (rv_ p))) (k (pc + 1) lg r)
  | .bastore, v :: x :: p :: r => O.2.1 w (rv_ p) (sI (iv x).toNatClampNeg (vp_nar .boolean (iv v)) (O.1 w (rv_ p))) (k (pc + 1) lg r)
  | .aastore, v :: x :: p :: r => O.2.1 w (rv_ p) (sR (iv x).toNatClampNeg v (O.1 w (rv_ p))) (k (pc + 1) lg r)
  | .arraylength, p :: r => match T.2.2.2.2.2.2 with
    | none => k (pc + 1) lg (.int (Int32.ofNat (eL (O.1 w (rv_ p)))) :: r) w
    | some sb => rv_ p = sb.1 ∧ k (pc + 1) lg (.int (Int32.ofNat sb.2.1) :: r) w
  | .new i, _ => ∀ (q : Nat) (ty : Nat → FieldType), O.1 w q = none → match T.2.2.1.find? (fun x => x.1 == i) with
    | some x => O.2.2 w q (.inr (x.2.1, (List.range x.2.2.2).map fun j => defaultValue (ty j))) x.2.2.1 (k (pc + 3) lg (.ref q :: vs))
    | none => False
  | .instanceof i, p :: r => k (pc + 3) lg (.int (eT T.2.2.2.2.1 i (O.1 w (rv_ p))) :: r) w
  | .checkcast _, _ => k (pc + 3) lg vs w
  | .invokevirtual i, _ => wcall O Sp k (3 * i) pc lg vs w
  | .invokestatic i, _ => wcall O Sp k (3 * i + 1) pc lg vs w
  | .invokespecial i, _ => wcall O Sp k (3 * i + 2) pc lg vs w
  | .return_, [] => Post none w
  | .ireturn, [v] => Post (some v) w
  | .lreturn, [v] => Post (some v) w
  | .areturn, [v] => Post (some v) w
  | _, _ => False
/-- a step by a function for each instruction: the dispatch brings nothing else along -/
abbrev wi_st (W : Type) : Type := fO W → fT → fP W → (Option Value → W → Prop) → (Nat → fL_ → List Value → W → Prop) → Nat → Nat → fL_ → List Value → W → Prop
def wi_iconst {W : Type} (v : Int) (_ : fO W) (_ : fT) (_ : fP W) (_ : Option Value → W → Prop) (k : Nat → fL_ → List Value → W → Prop) (len : Nat) (pc : Nat) (lg : fL_) (vs : List Value) (w : W) : Prop := k (pc + len) lg (.int (Int32.ofInt v) :: vs) w
def wi_bipush {W : Type} (v : Int) (_ : fO W) (_ : fT) (_ : fP W) (_ : Option Value → W → Prop) (k : Nat → fL_ → List Value → W → Prop) (len : Nat) (pc : Nat) (lg : fL_) (vs : List Value) (w : W) : Prop := match decide (-128 ≤ v ∧ v < 128) with
    | true => k (pc + len) lg (.int (Int32.ofInt v) :: vs) w
    | false => False
def wi_sipush {W : Type} (v : Int) (_ : fO W) (_ : fT) (_ : fP W) (_ : Option Value → W → Prop) (k : Nat → fL_ → List Value → W → Prop) (len : Nat) (pc : Nat) (lg : fL_) (vs : List Value) (w : W) : Prop := match decide (-32768 ≤ v ∧ v < 32768) with
    | true => k (pc + len) lg (.int (Int32.ofInt v) :: vs) w
    | false => False
def wi_lconst {W : Type} (v : Fin 2) (_ : fO W) (_ : fT) (_ : fP W) (_ : Option Value → W → Prop) (k : Nat → fL_ → List Value → W → Prop) (len : Nat) (pc : Nat) (lg : fL_) (vs : List Value) (w : W) : Prop := k (pc + len) lg (.long (Int64.ofNat (v : Nat)) :: vs) w
def wi_ldc {W : Type} (i : Nat) (_ : fO W) (T : fT) (_ : fP W) (_ : Option Value → W → Prop) (k : Nat → fL_ → List Value → W → Prop) (len : Nat) (pc : Nat) (lg : fL_) (vs : List Value) (w : W) : Prop := match T.2.2.2.1.find? (fun x => x.1 == i && x.2.1 == 0) with
    | some x => k (pc + len) lg (.int (Int32.ofInt x.2.2) :: vs) w
    | none => False
def wi_ldc_w {W : Type} (i : Nat) (_ : fO W) (T : fT) (_ : fP W) (_ : Option Value → W → Prop) (k : Nat → fL_ → List Value → W → Prop) (len : Nat) (pc : Nat) (lg : fL_) (vs : List Value) (w : W) : Prop := match T.2.2.2.1.find? (fun x => x.1 == i && x.2.1 == 0) with
    | some x => k (pc + len) lg (.int (Int32.ofInt x.2.2) :: vs) w
    | none => False
def wi_ldc2_w {W : Type} (i : Nat) (_ : fO W) (T : fT) (_ : fP W) (_ : Option Value → W → Prop) (k : Nat → fL_ → List Value → W → Prop) (len : Nat) (pc : Nat) (lg : fL_) (vs : List Value) (w : W) : Prop := match T.2.2.2.1.find? (fun x => x.1 == i && x.2.1 == 1) with
    | some x => k (pc + len) lg (.long (Int64.ofInt x.2.2) :: vs) w
    | none => False
def wi_iload_n {W : Type} (i : Fin 4) (_ : fO W) (_ : fT) (_ : fP W) (_ : Option Value → W → Prop) (k : Nat → fL_ → List Value → W → Prop) (len : Nat) (pc : Nat) (lg : fL_) (vs : List Value) (w : W) : Prop := match lk lg i with
    | some v => k (pc + len) lg (v :: vs) w
    | none => False
def wi_iload {W : Type} (i : Nat) (_ : fO W) (_ : fT) (_ : fP W) (_ : Option Value → W → Prop) (k : Nat → fL_ → List Value → W → Prop) (len : Nat) (pc : Nat) (lg : fL_) (vs : List Value) (w : W) : Prop := match lk lg i with
    | some v => k (pc + len) lg (v :: vs) w
    | none => False
def wi_lload_n {W : Type} (i : Fin 4) (_ : fO W) (_ : fT) (_ : fP W) (_ : Option Value → W → Prop) (k : Nat → fL_ → List Value → W → Prop) (len : Nat) (pc : Nat) (lg : fL_) (vs : List Value) (w : W) : Prop := match lk lg i with
    | some v => k (pc + len) lg (v :: vs) w
    | none => False
def wi_lload {W : Type} (i : Nat) (_ : fO W) (_ : fT) (_ : fP W) (_ : Option Value → W → Prop) (k : Nat → fL_ → List Value → W → Prop) (len : Nat) (pc : Nat) (lg : fL_) (vs : List Value) (w : W) : Prop := match lk lg i with
    | some v => k (pc + len) lg (v :: vs) w
    | none => False
def wi_aload_n {W : Type} (i : Fin 4) (_ : fO W) (_ : fT) (_ : fP W) (_ : Option Value → W → Prop) (k : Nat → fL_ → List Value → W → Prop) (len : Nat) (pc : Nat) (lg : fL_) (vs : List Value) (w : W) : Prop := match lk lg i with
    | some v => k (pc + len) lg (v :: vs) w
    | none => False
def wi_aload {W : Type} (i : Nat) (_ : fO W) (_ : fT) (_ : fP W) (_ : Option Value → W → Prop) (k : Nat → fL_ → List Value → W → Prop) (len : Nat) (pc : Nat) (lg : fL_) (vs : List Value) (w : W) : Prop := match lk lg i with
    | some v => k (pc + len) lg (v :: vs) w
    | none => False
def wi_istore_n {W : Type} (i : Fin 4) (_ : fO W) (_ : fT) (_ : fP W) (_ : Option Value → W → Prop) (k : Nat → fL_ → List Value → W → Prop) (len : Nat) (pc : Nat) (lg : fL_) (vs : List Value) (w : W) : Prop := match vs with
  | v :: r => k (pc + len) (ls1 lg i v) r w
  | _ => False
def wi_istore {W : Type} (i : Nat) (_ : fO W) (_ : fT) (_ : fP W) (_ : Option Value → W → Prop) (k : Nat → fL_ → List Value → W → Prop) (len : Nat) (pc : Nat) (lg : fL_) (vs : List Value) (w : W) : Prop := match vs with
  | v :: r => k (pc + len) (ls1 lg i v) r w
  | _ => False
def wi_astore_n {W : Type} (i : Fin 4) (_ : fO W) (_ : fT) (_ : fP W) (_ : Option Value → W → Prop) (k : Nat → fL_ → List Value → W → Prop) (len : Nat) (pc : Nat) (lg : fL_) (vs : List Value) (w : W) : Prop := match vs with
  | v :: r => k (pc + len) (ls1 lg i v) r w
  | _ => False
def wi_astore {W : Type} (i : Nat) (_ : fO W) (_ : fT) (_ : fP W) (_ : Option Value → W → Prop) (k : Nat → fL_ → List Value → W → Prop) (len : Nat) (pc : Nat) (lg : fL_) (vs : List Value) (w : W) : Prop := match vs with
  | v :: r => k (pc + len) (ls1 lg i v) r w
  | _ => False
def wi_lstore_n {W : Type} (i : Fin 4) (_ : fO W) (_ : fT) (_ : fP W) (_ : Option Value → W → Prop) (k : Nat → fL_ → List Value → W → Prop) (len : Nat) (pc : Nat) (lg : fL_) (vs : List Value) (w : W) : Prop := match vs with
  | v :: r => k (pc + len) (ls2 lg i v) r w
  | _ => False
def wi_lstore {W : Type} (i : Nat) (_ : fO W) (_ : fT) (_ : fP W) (_ : Option Value → W → Prop) (k : Nat → fL_ → List Value → W → Prop) (len : Nat) (pc : Nat) (lg : fL_) (vs : List Value) (w : W) : Prop := match vs with
  | v :: r => k (pc + len) (ls2 lg i v) r w
  | _ => False
def wi_iinc {W : Type} (i : Nat) (c : Int) (_ : fO W) (_ : fT) (_ : fP W) (_ : Option Value → W → Prop) (k : Nat → fL_ → List Value → W → Prop) (len : Nat) (pc : Nat) (lg : fL_) (vs : List Value) (w : W) : Prop := match lk lg i with
    | some v => k (pc + len) (ls1 lg i (.int (iv v + Int32.ofInt c))) vs w
    | none => False
def wi_iadd {W : Type}  (_ : fO W) (_ : fT) (_ : fP W) (_ : Option Value → W → Prop) (k : Nat → fL_ → List Value → W → Prop) (_ : Nat) (pc : Nat) (lg : fL_) (vs : List Value) (w : W) : Prop := match vs with
  | y :: x :: r => k (pc + 1) lg (.int (iv x + iv y) :: r) w
  | _ => False
def wi_isub {W : Type}  (_ : fO W) (_ : fT) (_ : fP W) (_ : Option Value → W → Prop) (k : Nat → fL_ → List Value → W → Prop) (_ : Nat) (pc : Nat) (lg : fL_) (vs : List Value) (w : W) : Prop := match vs with
  | y :: x :: r => k (pc + 1) lg (.int (iv x - iv y) :: r) w
  | _ => False
def wi_imul {W : Type}  (_ : fO W) (_ : fT) (_ : fP W) (_ : Option Value → W → Prop) (k : Nat → fL_ → List Value → W → Prop) (_ : Nat) (pc : Nat) (lg : fL_) (vs : List Value) (w : W) : Prop := match vs with
  | y :: x :: r => k (pc + 1) lg (.int (iv x * iv y) :: r) w
  | _ => False
def wi_iand {W : Type}  (_ : fO W) (_ : fT) (_ : fP W) (_ : Option Value → W → Prop) (k : Nat → fL_ → List Value → W → Prop) (_ : Nat) (pc : Nat) (lg : fL_) (vs : List Value) (w : W) : Prop := match vs with
  | y :: x :: r => k (pc + 1) lg (.int (iv x &&& iv y) :: r) w
  | _ => False
def wi_ior {W : Type}  (_ : fO W) (_ : fT) (_ : fP W) (_ : Option Value → W → Prop) (k : Nat → fL_ → List Value → W → Prop) (_ : Nat) (pc : Nat) (lg : fL_) (vs : List Value) (w : W) : Prop := match vs with
  | y :: x :: r => k (pc + 1) lg (.int (iv x ||| iv y) :: r) w
  | _ => False
def wi_ixor {W : Type}  (_ : fO W) (_ : fT) (_ : fP W) (_ : Option Value → W → Prop) (k : Nat → fL_ → List Value → W → Prop) (_ : Nat) (pc : Nat) (lg : fL_) (vs : List Value) (w : W) : Prop := match vs with
  | y :: x :: r => k (pc + 1) lg (.int (iv x ^^^ iv y) :: r) w
  | _ => False
def wi_ishl {W : Type}  (_ : fO W) (_ : fT) (_ : fP W) (_ : Option Value → W → Prop) (k : Nat → fL_ → List Value → W → Prop) (_ : Nat) (pc : Nat) (lg : fL_) (vs : List Value) (w : W) : Prop := match vs with
  | y :: x :: r => k (pc + 1) lg (.int (iv x <<< (iv y &&& 31)) :: r) w
  | _ => False
def wi_ishr {W : Type}  (_ : fO W) (_ : fT) (_ : fP W) (_ : Option Value → W → Prop) (k : Nat → fL_ → List Value → W → Prop) (_ : Nat) (pc : Nat) (lg : fL_) (vs : List Value) (w : W) : Prop := match vs with
  | y :: x :: r => k (pc + 1) lg (.int (iv x >>> (iv y &&& 31)) :: r) w
  | _ => False
def wi_iushr {W : Type}  (_ : fO W) (_ : fT) (_ : fP W) (_ : Option Value → W → Prop) (k : Nat → fL_ → List Value → W → Prop) (_ : Nat) (pc : Nat) (lg : fL_) (vs : List Value) (w : W) : Prop := match vs with
  | y :: x :: r => k (pc + 1) lg (.int ((iv x).toUInt32 >>> ((iv y).toUInt32 &&& Int32.toUInt32 31)).toInt32 :: r) w
  | _ => False
def wi_idiv {W : Type}  (_ : fO W) (_ : fT) (_ : fP W) (_ : Option Value → W → Prop) (k : Nat → fL_ → List Value → W → Prop) (_ : Nat) (pc : Nat) (lg : fL_) (vs : List Value) (w : W) : Prop := match vs with
  | y :: x :: r => k (pc + 1) lg (.int (iv x / iv y) :: r) w
  | _ => False
def wi_irem {W : Type}  (_ : fO W) (_ : fT) (_ : fP W) (_ : Option Value → W → Prop) (k : Nat → fL_ → List Value → W → Prop) (_ : Nat) (pc : Nat) (lg : fL_) (vs : List Value) (w : W) : Prop := match vs with
  | y :: x :: r => k (pc + 1) lg (.int (iv x % iv y) :: r) w
  | _ => False
def wi_ladd {W : Type}  (_ : fO W) (_ : fT) (_ : fP W) (_ : Option Value → W → Prop) (k : Nat → fL_ → List Value → W → Prop) (_ : Nat) (pc : Nat) (lg : fL_) (vs : List Value) (w : W) : Prop := match vs with
  | y :: x :: r => k (pc + 1) lg (.long (jv x + jv y) :: r) w
  | _ => False
def wi_lsub {W : Type}  (_ : fO W) (_ : fT) (_ : fP W) (_ : Option Value → W → Prop) (k : Nat → fL_ → List Value → W → Prop) (_ : Nat) (pc : Nat) (lg : fL_) (vs : List Value) (w : W) : Prop := match vs with
  | y :: x :: r => k (pc + 1) lg (.long (jv x - jv y) :: r) w
  | _ => False
def wi_lmul {W : Type}  (_ : fO W) (_ : fT) (_ : fP W) (_ : Option Value → W → Prop) (k : Nat → fL_ → List Value → W → Prop) (_ : Nat) (pc : Nat) (lg : fL_) (vs : List Value) (w : W) : Prop := match vs with
  | y :: x :: r => k (pc + 1) lg (.long (jv x * jv y) :: r) w
  | _ => False
def wi_land {W : Type}  (_ : fO W) (_ : fT) (_ : fP W) (_ : Option Value → W → Prop) (k : Nat → fL_ → List Value → W → Prop) (_ : Nat) (pc : Nat) (lg : fL_) (vs : List Value) (w : W) : Prop := match vs with
  | y :: x :: r => k (pc + 1) lg (.long (jv x &&& jv y) :: r) w
  | _ => False
def wi_lor {W : Type}  (_ : fO W) (_ : fT) (_ : fP W) (_ : Option Value → W → Prop) (k : Nat → fL_ → List Value → W → Prop) (_ : Nat) (pc : Nat) (lg : fL_) (vs : List Value) (w : W) : Prop := match vs with
  | y :: x :: r => k (pc + 1) lg (.long (jv x ||| jv y) :: r) w
  | _ => False
def wi_lxor {W : Type}  (_ : fO W) (_ : fT) (_ : fP W) (_ : Option Value → W → Prop) (k : Nat → fL_ → List Value → W → Prop) (_ : Nat) (pc : Nat) (lg : fL_) (vs : List Value) (w : W) : Prop := match vs with
  | y :: x :: r => k (pc + 1) lg (.long (jv x ^^^ jv y) :: r) w
  | _ => False
def wi_lushr {W : Type}  (_ : fO W) (_ : fT) (_ : fP W) (_ : Option Value → W → Prop) (k : Nat → fL_ → List Value → W → Prop) (_ : Nat) (pc : Nat) (lg : fL_) (vs : List Value) (w : W) : Prop := match vs with
  | y :: x :: r => k (pc + 1) lg (.long ((jv x).toUInt64 >>> ((iv y).toInt64.toUInt64 &&& Int64.toUInt64 63)).toInt64 :: r) w
  | _ => False
def wi_lshr {W : Type}  (_ : fO W) (_ : fT) (_ : fP W) (_ : Option Value → W → Prop) (k : Nat → fL_ → List Value → W → Prop) (_ : Nat) (pc : Nat) (lg : fL_) (vs : List Value) (w : W) : Prop := match vs with
  | y :: x :: r => k (pc + 1) lg (.long (jv x >>> ((iv y).toInt64 &&& 63)) :: r) w
  | _ => False
def wi_lshl {W : Type}  (_ : fO W) (_ : fT) (_ : fP W) (_ : Option Value → W → Prop) (k : Nat → fL_ → List Value → W → Prop) (_ : Nat) (pc : Nat) (lg : fL_) (vs : List Value) (w : W) : Prop := match vs with
  | y :: x :: r => k (pc + 1) lg (.long (jv x <<< ((iv y).toInt64 &&& 63)) :: r) w
  | _ => False
def wi_ineg {W : Type}  (_ : fO W) (_ : fT) (_ : fP W) (_ : Option Value → W → Prop) (k : Nat → fL_ → List Value → W → Prop) (_ : Nat) (pc : Nat) (lg : fL_) (vs : List Value) (w : W) : Prop := match vs with
  | x :: r => k (pc + 1) lg (.int (-(iv x)) :: r) w
  | _ => False
def wi_i2l {W : Type}  (_ : fO W) (_ : fT) (_ : fP W) (_ : Option Value → W → Prop) (k : Nat → fL_ → List Value → W → Prop) (_ : Nat) (pc : Nat) (lg : fL_) (vs : List Value) (w : W) : Prop := match vs with
  | x :: r => k (pc + 1) lg (.long (iv x).toInt64 :: r) w
  | _ => False
def wi_l2i {W : Type}  (_ : fO W) (_ : fT) (_ : fP W) (_ : Option Value → W → Prop) (k : Nat → fL_ → List Value → W → Prop) (_ : Nat) (pc : Nat) (lg : fL_) (vs : List Value) (w : W) : Prop := match vs with
  | x :: r => k (pc + 1) lg (.int (jv x).toInt32 :: r) w
  | _ => False
def wi_i2b {W : Type}  (_ : fO W) (_ : fT) (_ : fP W) (_ : Option Value → W → Prop) (k : Nat → fL_ → List Value → W → Prop) (_ : Nat) (pc : Nat) (lg : fL_) (vs : List Value) (w : W) : Prop := match vs with
  | x :: r => k (pc + 1) lg (.int (iv x).toInt8.toInt32 :: r) w
  | _ => False
def wi_i2s {W : Type}  (_ : fO W) (_ : fT) (_ : fP W) (_ : Option Value → W → Prop) (k : Nat → fL_ → List Value → W → Prop) (_ : Nat) (pc : Nat) (lg : fL_) (vs : List Value) (w : W) : Prop := match vs with
  | x :: r => k (pc + 1) lg (.int (iv x).toInt16.toInt32 :: r) w
  | _ => False
def wi_lcmp {W : Type}  (_ : fO W) (_ : fT) (_ : fP W) (_ : Option Value → W → Prop) (k : Nat → fL_ → List Value → W → Prop) (_ : Nat) (pc : Nat) (lg : fL_) (vs : List Value) (w : W) : Prop := match vs with
  | y :: x :: r => k (pc + 1) lg (.int (lg_cmp (jv x) (jv y)) :: r) w
  | _ => False
def wi_aconst_null {W : Type}  (_ : fO W) (_ : fT) (_ : fP W) (_ : Option Value → W → Prop) (k : Nat → fL_ → List Value → W → Prop) (_ : Nat) (pc : Nat) (lg : fL_) (vs : List Value) (w : W) : Prop := k (pc + 1) lg (.null :: vs) w
def wi_dup {W : Type}  (_ : fO W) (_ : fT) (_ : fP W) (_ : Option Value → W → Prop) (k : Nat → fL_ → List Value → W → Prop) (_ : Nat) (pc : Nat) (lg : fL_) (vs : List Value) (w : W) : Prop := match vs with
  | v :: r => k (pc + 1) lg (v :: v :: r) w
  | _ => False
def wi_pop {W : Type}  (_ : fO W) (_ : fT) (_ : fP W) (_ : Option Value → W → Prop) (k : Nat → fL_ → List Value → W → Prop) (_ : Nat) (pc : Nat) (lg : fL_) (vs : List Value) (w : W) : Prop := match vs with
  | _ :: r => k (pc + 1) lg r w
  | _ => False
def wi_pop2 {W : Type}  (_ : fO W) (_ : fT) (_ : fP W) (_ : Option Value → W → Prop) (k : Nat → fL_ → List Value → W → Prop) (_ : Nat) (pc : Nat) (lg : fL_) (vs : List Value) (w : W) : Prop := match vs with
  | _ :: r => k (pc + 1) lg r w
  | _ => False
def wi_dup2 {W : Type}  (_ : fO W) (_ : fT) (_ : fP W) (_ : Option Value → W → Prop) (k : Nat → fL_ → List Value → W → Prop) (_ : Nat) (pc : Nat) (lg : fL_) (vs : List Value) (w : W) : Prop := match vs with
  | v :: u :: r => k (pc + 1) lg (v :: u :: v :: u :: r) w
  | _ => False
def wi_goto {W : Type} (off : Int) (_ : fO W) (_ : fT) (_ : fP W) (_ : Option Value → W → Prop) (k : Nat → fL_ → List Value → W → Prop) (_ : Nat) (pc : Nat) (lg : fL_) (vs : List Value) (w : W) : Prop := k (f_tg pc off) lg vs w
def wi_ifCond {W : Type} (cd : ClassFile.Cond) (off : Int) (_ : fO W) (_ : fT) (_ : fP W) (_ : Option Value → W → Prop) (k : Nat → fL_ → List Value → W → Prop) (_ : Nat) (pc : Nat) (lg : fL_) (vs : List Value) (w : W) : Prop := match vs with
  | x :: r => (ck_cm cd (iv x).toInt 0 → k (f_tg pc off) lg r w) ∧ (¬ ck_cm cd (iv x).toInt 0 → k (pc + 3) lg r w)
  | _ => False
def wi_if_icmp {W : Type} (cd : ClassFile.Cond) (off : Int) (_ : fO W) (_ : fT) (_ : fP W) (_ : Option Value → W → Prop) (k : Nat → fL_ → List Value → W → Prop) (_ : Nat) (pc : Nat) (lg : fL_) (vs : List Value) (w : W) : Prop := match vs with
  | y :: x :: r => (ck_cm cd (iv x).toInt (iv y).toInt → k (f_tg pc off) lg r w) ∧ (¬ ck_cm cd (iv x).toInt (iv y).toInt → k (pc + 3) lg r w)
  | _ => False
def wi_ifnull {W : Type} (off : Int) (_ : fO W) (_ : fT) (_ : fP W) (_ : Option Value → W → Prop) (k : Nat → fL_ → List Value → W → Prop) (_ : Nat) (pc : Nat) (lg : fL_) (vs : List Value) (w : W) : Prop := match vs with
  | v :: r => (v = .null → k (f_tg pc off) lg r w) ∧ (¬ v = .null → k (pc + 3) lg r w)
  | _ => False
def wi_ifnonnull {W : Type} (off : Int) (_ : fO W) (_ : fT) (_ : fP W) (_ : Option Value → W → Prop) (k : Nat → fL_ → List Value → W → Prop) (_ : Nat) (pc : Nat) (lg : fL_) (vs : List Value) (w : W) : Prop := match vs with
  | v :: r => (¬ v = .null → k (f_tg pc off) lg r w) ∧ (v = .null → k (pc + 3) lg r w)
  | _ => False
def wi_tableswitch {W : Type} (d : Int) (lo : Int) (hi : Int) (os : Array Int) (_ : fO W) (_ : fT) (_ : fP W) (_ : Option Value → W → Prop) (k : Nat → fL_ → List Value → W → Prop) (_ : Nat) (pc : Nat) (lg : fL_) (vs : List Value) (w : W) : Prop := match vs with
  | x :: r => ((iv x).toInt < lo ∨ hi < (iv x).toInt → k (f_tg pc d) lg r w) ∧ (lo ≤ (iv x).toInt → (iv x).toInt ≤ hi → wT k pc lg r w (iv x) lo os.toList)
  | _ => False
def wi_getfield {W : Type} (i : Nat) (O : fO W) (T : fT) (_ : fP W) (_ : Option Value → W → Prop) (k : Nat → fL_ → List Value → W → Prop) (_ : Nat) (pc : Nat) (lg : fL_) (vs : List Value) (w : W) : Prop := match vs with
  | p :: r => k (pc + 3) lg (eG T.1 i (O.1 w (rv_ p)) :: r) w
  | _ => False
def wi_putfield {W : Type} (i : Nat) (O : fO W) (T : fT) (_ : fP W) (_ : Option Value → W → Prop) (k : Nat → fL_ → List Value → W → Prop) (_ : Nat) (pc : Nat) (lg : fL_) (vs : List Value) (w : W) : Prop := match vs with
  | u :: p :: r => O.2.1 w (rv_ p) (sG T.2.1 i u (O.1 w (rv_ p))) (k (pc + 3) lg r)
  | _ => False
def wi_getstatic {W : Type} (_ : Nat) (O : fO W) (_ : fT) (_ : fP W) (_ : Option Value → W → Prop) (k : Nat → fL_ → List Value → W → Prop) (_ : Nat) (pc : Nat) (lg : fL_) (vs : List Value) (w : W) : Prop := ∀ p, O.1 w p = none → k (pc + 3) lg (.ref p :: vs) w
def wi_iaload {W : Type}  (O : fO W) (T : fT) (_ : fP W) (_ : Option Value → W → Prop) (k : Nat → fL_ → List Value → W → Prop) (_ : Nat) (pc : Nat) (lg : fL_) (vs : List Value) (w : W) : Prop := match vs with
  | x :: p :: r => match T.2.2.2.2.2.2 with
    | none => k (pc + 1) lg (.int (eI (O.1 w (rv_ p)) (iv x).toNatClampNeg) :: r) w
    | some sb => rv_ p = sb.1 ∧ k (pc + 1) lg (.int (sb.2.2 (iv x).toNatClampNeg) :: r) w
  | _ => False
def wi_laload {W : Type}  (O : fO W) (_ : fT) (_ : fP W) (_ : Option Value → W → Prop) (k : Nat → fL_ → List Value → W → Prop) (_ : Nat) (pc : Nat) (lg : fL_) (vs : List Value) (w : W) : Prop := match vs with
  | x :: p :: r => k (pc + 1) lg (.long (eJ (O.1 w (rv_ p)) (iv x).toNatClampNeg) :: r) w
  | _ => False
def wi_baload {W : Type}  (O : fO W) (_ : fT) (_ : fP W) (_ : Option Value → W → Prop) (k : Nat → fL_ → List Value → W → Prop) (_ : Nat) (pc : Nat) (lg : fL_) (vs : List Value) (w : W) : Prop := match vs with
  | x :: p :: r => k (pc + 1) lg (.int (eI (O.1 w (rv_ p)) (iv x).toNatClampNeg) :: r) w
  | _ => False
def wi_aaload {W : Type}  (O : fO W) (_ : fT) (_ : fP W) (_ : Option Value → W → Prop) (k : Nat → fL_ → List Value → W → Prop) (_ : Nat) (pc : Nat) (lg : fL_) (vs : List Value) (w : W) : Prop := match vs with
  | x :: p :: r => k (pc + 1) lg (eR (O.1 w (rv_ p)) (iv x).toNatClampNeg :: r) w
  | _ => False
def wi_iastore {W : Type}  (O : fO W) (_ : fT) (_ : fP W) (_ : Option Value → W → Prop) (k : Nat → fL_ → List Value → W → Prop) (_ : Nat) (pc : Nat) (lg : fL_) (vs : List Value) (w : W) : Prop := match vs with
  | v :: x :: p :: r => O.2.1 w (rv_ p) (sI (iv x).toNatClampNeg (iv v) (O.1 w (rv_ p))) (k (pc + 1) lg r)
  | _ => False
def wi_lastore {W : Type}  (O : fO W) (_ : fT) (_ : fP W) (_ : Option Value → W → Prop) (k : Nat → fL_ → List Value → W → Prop) (_ : Nat) (pc : Nat) (lg : fL_) (vs : List Value) (w : W) : Prop := match vs with
  | v :: x :: p :: r => O.2.1 w (rv_ p) (sJ (iv x).toNatClampNeg (jv v) (O.1 w (rv_ p))) (k (pc + 1) lg r)
  | _ => False
def wi_bastore {W : Type}  (O : fO W) (_ : fT) (_ : fP W) (_ : Option Value → W → Prop) (k : Nat → fL_ → List Value → W → Prop) (_ : Nat) (pc : Nat) (lg : fL_) (vs : List Value) (w : W) : Prop := match vs with
  | v :: x :: p :: r => O.2.1 w (rv_ p) (sI (iv x).toNatClampNeg (vp_nar .boolean (iv v)) (O.1 w (rv_ p))) (k (pc + 1) lg r)
  | _ => False
def wi_aastore {W : Type}  (O : fO W) (_ : fT) (_ : fP W) (_ : Option Value → W → Prop) (k : Nat → fL_ → List Value → W → Prop) (_ : Nat) (pc : Nat) (lg : fL_) (vs : List Value) (w : W) : Prop := match vs with
  | v :: x :: p :: r => O.2.1 w (rv_ p) (sR (iv x).toNatClampNeg v (O.1 w (rv_ p))) (k (pc + 1) lg r)
  | _ => False
def wi_arraylength {W : Type}  (O : fO W) (T : fT) (_ : fP W) (_ : Option Value → W → Prop) (k : Nat → fL_ → List Value → W → Prop) (_ : Nat) (pc : Nat) (lg : fL_) (vs : List Value) (w : W) : Prop := match vs with
  | p :: r => match T.2.2.2.2.2.2 with
    | none => k (pc + 1) lg (.int (Int32.ofNat (eL (O.1 w (rv_ p)))) :: r) w
    | some sb => rv_ p = sb.1 ∧ k (pc + 1) lg (.int (Int32.ofNat sb.2.1) :: r) w
  | _ => False
def wi_new {W : Type} (i : Nat) (O : fO W) (T : fT) (_ : fP W) (_ : Option Value → W → Prop) (k : Nat → fL_ → List Value → W → Prop) (_ : Nat) (pc : Nat) (lg : fL_) (vs : List Value) (w : W) : Prop := ∀ (q : Nat) (ty : Nat → FieldType), O.1 w q = none → match T.2.2.1.find? (fun x => x.1 == i) with
    | some x => O.2.2 w q (.inr (x.2.1, (List.range x.2.2.2).map fun j => defaultValue (ty j))) x.2.2.1 (k (pc + 3) lg (.ref q :: vs))
    | none => False
def wi_instanceof {W : Type} (i : Nat) (O : fO W) (T : fT) (_ : fP W) (_ : Option Value → W → Prop) (k : Nat → fL_ → List Value → W → Prop) (_ : Nat) (pc : Nat) (lg : fL_) (vs : List Value) (w : W) : Prop := match vs with
  | p :: r => k (pc + 3) lg (.int (eT T.2.2.2.2.1 i (O.1 w (rv_ p))) :: r) w
  | _ => False
def wi_checkcast {W : Type} (_ : Nat) (_ : fO W) (_ : fT) (_ : fP W) (_ : Option Value → W → Prop) (k : Nat → fL_ → List Value → W → Prop) (_ : Nat) (pc : Nat) (lg : fL_) (vs : List Value) (w : W) : Prop := k (pc + 3) lg vs w
def wi_invokevirtual {W : Type} (i : Nat) (O : fO W) (_ : fT) (Sp : fP W) (_ : Option Value → W → Prop) (k : Nat → fL_ → List Value → W → Prop) (_ : Nat) (pc : Nat) (lg : fL_) (vs : List Value) (w : W) : Prop := wcall O Sp k (3 * i) pc lg vs w
def wi_invokestatic {W : Type} (i : Nat) (O : fO W) (_ : fT) (Sp : fP W) (_ : Option Value → W → Prop) (k : Nat → fL_ → List Value → W → Prop) (_ : Nat) (pc : Nat) (lg : fL_) (vs : List Value) (w : W) : Prop := wcall O Sp k (3 * i + 1) pc lg vs w
def wi_invokespecial {W : Type} (i : Nat) (O : fO W) (_ : fT) (Sp : fP W) (_ : Option Value → W → Prop) (k : Nat → fL_ → List Value → W → Prop) (_ : Nat) (pc : Nat) (lg : fL_) (vs : List Value) (w : W) : Prop := wcall O Sp k (3 * i + 2) pc lg vs w
def wi_return {W : Type}  (_ : fO W) (_ : fT) (_ : fP W) (Post : Option Value → W → Prop) (_ : Nat → fL_ → List Value → W → Prop) (_ : Nat) (_ : Nat) (_ : fL_) (vs : List Value) (w : W) : Prop := match vs with
  | [] => Post none w
  | _ => False
def wi_ireturn {W : Type}  (_ : fO W) (_ : fT) (_ : fP W) (Post : Option Value → W → Prop) (_ : Nat → fL_ → List Value → W → Prop) (_ : Nat) (_ : Nat) (_ : fL_) (vs : List Value) (w : W) : Prop := match vs with
  | [v] => Post (some v) w
  | _ => False
def wi_lreturn {W : Type}  (_ : fO W) (_ : fT) (_ : fP W) (Post : Option Value → W → Prop) (_ : Nat → fL_ → List Value → W → Prop) (_ : Nat) (_ : Nat) (_ : fL_) (vs : List Value) (w : W) : Prop := match vs with
  | [v] => Post (some v) w
  | _ => False
def wi_areturn {W : Type}  (_ : fO W) (_ : fT) (_ : fP W) (Post : Option Value → W → Prop) (_ : Nat → fL_ → List Value → W → Prop) (_ : Nat) (_ : Nat) (_ : fL_) (vs : List Value) (w : W) : Prop := match vs with
  | [v] => Post (some v) w
  | _ => False
def wi_dp {W : Type} (ins : Instr) : wi_st W := match ins with
  | .iconst v => wi_iconst v
  | .bipush v => wi_bipush v
  | .sipush v => wi_sipush v
  | .lconst v => wi_lconst v
  | .ldc i => wi_ldc i
  | .ldc_w i => wi_ldc_w i
  | .ldc2_w i => wi_ldc2_w i
  | .iload_n i => wi_iload_n i
  | .iload i => wi_iload i
  | .lload_n i => wi_lload_n i
  | .lload i => wi_lload i
  | .aload_n i => wi_aload_n i
  | .aload i => wi_aload i
  | .istore_n i => wi_istore_n i
  | .istore i => wi_istore i
  | .astore_n i => wi_astore_n i
  | .astore i => wi_astore i
  | .lstore_n i => wi_lstore_n i
  | .lstore i => wi_lstore i
  | .iinc i c => wi_iinc i c
  | .iadd => wi_iadd
  | .isub => wi_isub
  | .imul => wi_imul
  | .iand => wi_iand
  | .ior => wi_ior
  | .ixor => wi_ixor
  | .ishl => wi_ishl
  | .ishr => wi_ishr
  | .iushr => wi_iushr
  | .idiv => wi_idiv
  | .irem => wi_irem
  | .ladd => wi_ladd
  | .lsub => wi_lsub
  | .lmul => wi_lmul
  | .land => wi_land
  | .lor => wi_lor
  | .lxor => wi_lxor
  | .lushr => wi_lushr
  | .lshr => wi_lshr
  | .lshl => wi_lshl
  | .ineg => wi_ineg
  | .i2l => wi_i2l
  | .l2i => wi_l2i
  | .i2b => wi_i2b
  | .i2s => wi_i2s
  | .lcmp => wi_lcmp
  | .aconst_null => wi_aconst_null
  | .dup => wi_dup
  | .pop => wi_pop
  | .pop2 => wi_pop2
  | .dup2 => wi_dup2
  | .goto off => wi_goto off
  | .ifCond cd off => wi_ifCond cd off
  | .if_icmp cd off => wi_if_icmp cd off
  | .ifnull off => wi_ifnull off
  | .ifnonnull off => wi_ifnonnull off
  | .tableswitch d lo hi os => wi_tableswitch d lo hi os
  | .getfield i => wi_getfield i
  | .putfield i => wi_putfield i
  | .getstatic u0 => wi_getstatic u0
  | .iaload => wi_iaload
  | .laload => wi_laload
  | .baload => wi_baload
  | .aaload => wi_aaload
  | .iastore => wi_iastore
  | .lastore => wi_lastore
  | .bastore => wi_bastore
  | .aastore => wi_aastore
  | .arraylength => wi_arraylength
  | .new i => wi_new i
  | .instanceof i => wi_instanceof i
  | .checkcast u0 => wi_checkcast u0
  | .invokevirtual i => wi_invokevirtual i
  | .invokestatic i => wi_invokestatic i
  | .invokespecial i => wi_invokespecial i
  | .return_ => wi_return
  | .ireturn => wi_ireturn
  | .lreturn => wi_lreturn
  | .areturn => wi_areturn
  | _ => fun _ _ _ _ _ _ _ _ _ _ => False
def wstepG {W : Type} (O : fO W) (T : fT) (Sp : fP W) (Post : Option Value → W → Prop) (k : Nat → fL_ → List Value → W → Prop) (ins : Instr) (len pc : Nat) (lg : fL_) (vs : List Value) (w : W) : Prop := wi_dp ins O T Sp Post k len pc lg vs w
theorem wstepG_eq {W : Type} {O : fO W} {T : fT} {Sp : fP W} {Post : Option Value → W → Prop} {k : Nat → fL_ → List Value → W → Prop} {ins : Instr} {len pc : Nat} {lg : fL_} {vs : List Value} {w : W} : wstepG O T Sp Post k ins len pc lg vs w = wstep O T Sp Post k ins len pc lg vs w := by
  cases ins with
  | iconst v => rfl
  | bipush v => rfl
  | sipush v => rfl
  | lconst v => rfl
  | ldc i => rfl
  | ldc_w i => rfl
  | ldc2_w i => rfl
  | iload_n i => rfl
  | iload i => rfl
  | lload_n i => rfl
  | lload i => rfl
  | aload_n i => rfl
  | aload i => rfl
  | istore_n i => rcases vs with _ | ⟨_, r⟩ <;> rfl
  | istore i => rcases vs with _ | ⟨_, r⟩ <;> rfl
  | astore_n i => rcases vs with _ | ⟨_, r⟩ <;> rfl
  | astore i => rcases vs with _ | ⟨_, r⟩ <;> rfl
  | lstore_n i => rcases vs with _ | ⟨_, r⟩ <;> rfl
  | lstore i => rcases vs with _ | ⟨_, r⟩ <;> rfl
  | iinc i c => rfl
  | iadd => rcases vs with _ | ⟨_, _ | ⟨_, r⟩⟩ <;> rfl
  | isub => rcases vs with _ | ⟨_, _ | ⟨_, r⟩⟩ <;> rfl
  | imul => rcases vs with _ | ⟨_, _ | ⟨_, r⟩⟩ <;> rfl
  | iand => rcases vs with _ | ⟨_, _ | ⟨_, r⟩⟩ <;> rfl
  | ior => rcases vs with _ | ⟨_, _ | ⟨_, r⟩⟩ <;> rfl
  | ixor => rcases vs with _ | ⟨_, _ | ⟨_, r⟩⟩ <;> rfl
  | ishl => rcases vs with _ | ⟨_, _ | ⟨_, r⟩⟩ <;> rfl
  | ishr => rcases vs with _ | ⟨_, _ | ⟨_, r⟩⟩ <;> rfl
  | iushr => rcases vs with _ | ⟨_, _ | ⟨_, r⟩⟩ <;> rfl
  | idiv => rcases vs with _ | ⟨_, _ | ⟨_, r⟩⟩ <;> rfl
  | irem => rcases vs with _ | ⟨_, _ | ⟨_, r⟩⟩ <;> rfl
  | ladd => rcases vs with _ | ⟨_, _ | ⟨_, r⟩⟩ <;> rfl
  | lsub => rcases vs with _ | ⟨_, _ | ⟨_, r⟩⟩ <;> rfl
  | lmul => rcases vs with _ | ⟨_, _ | ⟨_, r⟩⟩ <;> rfl
  | land => rcases vs with _ | ⟨_, _ | ⟨_, r⟩⟩ <;> rfl
  | lor => rcases vs with _ | ⟨_, _ | ⟨_, r⟩⟩ <;> rfl
  | lxor => rcases vs with _ | ⟨_, _ | ⟨_, r⟩⟩ <;> rfl
  | lushr => rcases vs with _ | ⟨_, _ | ⟨_, r⟩⟩ <;> rfl
  | lshr => rcases vs with _ | ⟨_, _ | ⟨_, r⟩⟩ <;> rfl
  | lshl => rcases vs with _ | ⟨_, _ | ⟨_, r⟩⟩ <;> rfl
  | ineg => rcases vs with _ | ⟨_, r⟩ <;> rfl
  | i2l => rcases vs with _ | ⟨_, r⟩ <;> rfl
  | l2i => rcases vs with _ | ⟨_, r⟩ <;> rfl
  | i2b => rcases vs with _ | ⟨_, r⟩ <;> rfl
  | i2s => rcases vs with _ | ⟨_, r⟩ <;> rfl
  | lcmp => rcases vs with _ | ⟨_, _ | ⟨_, r⟩⟩ <;> rfl
  | aconst_null => rfl
  | dup => rcases vs with _ | ⟨_, r⟩ <;> rfl
  | pop => rcases vs with _ | ⟨_, r⟩ <;> rfl
  | pop2 => rcases vs with _ | ⟨_, r⟩ <;> rfl
  | dup2 => rcases vs with _ | ⟨_, _ | ⟨_, r⟩⟩ <;> rfl
  | goto off => rfl
  | ifCond cd off => rcases vs with _ | ⟨_, r⟩ <;> rfl
  | if_icmp cd off => rcases vs with _ | ⟨_, _ | ⟨_, r⟩⟩ <;> rfl
  | ifnull off => rcases vs with _ | ⟨_, r⟩ <;> rfl
  | ifnonnull off => rcases vs with _ | ⟨_, r⟩ <;> rfl
  | tableswitch d lo hi os => rcases vs with _ | ⟨_, r⟩ <;> rfl
  | getfield i => rcases vs with _ | ⟨_, r⟩ <;> rfl
  | putfield i => rcases vs with _ | ⟨_, _ | ⟨_, r⟩⟩ <;> rfl
  | getstatic u0 => rfl
  | iaload => rcases vs with _ | ⟨_, _ | ⟨_, r⟩⟩ <;> rfl
  | laload => rcases vs with _ | ⟨_, _ | ⟨_, r⟩⟩ <;> rfl
  | baload => rcases vs with _ | ⟨_, _ | ⟨_, r⟩⟩ <;> rfl
  | aaload => rcases vs with _ | ⟨_, _ | ⟨_, r⟩⟩ <;> rfl
  | iastore => rcases vs with _ | ⟨_, _ | ⟨_, _ | ⟨_, r⟩⟩⟩ <;> rfl
  | lastore => rcases vs with _ | ⟨_, _ | ⟨_, _ | ⟨_, r⟩⟩⟩ <;> rfl
  | bastore => rcases vs with _ | ⟨_, _ | ⟨_, _ | ⟨_, r⟩⟩⟩ <;> rfl
  | aastore => rcases vs with _ | ⟨_, _ | ⟨_, _ | ⟨_, r⟩⟩⟩ <;> rfl
  | arraylength => rcases vs with _ | ⟨_, r⟩ <;> rfl
  | new i => rfl
  | instanceof i => rcases vs with _ | ⟨_, r⟩ <;> rfl
  | checkcast u0 => rfl
  | invokevirtual i => rfl
  | invokestatic i => rfl
  | invokespecial i => rfl
  | return_ => rcases vs with _ | ⟨_, _⟩ <;> rfl
  | ireturn => rcases vs with _ | ⟨_, _ | ⟨_, _⟩⟩ <;> rfl
  | lreturn => rcases vs with _ | ⟨_, _ | ⟨_, _⟩⟩ <;> rfl
  | areturn => rcases vs with _ | ⟨_, _ | ⟨_, _⟩⟩ <;> rfl
  | _ => rfl
/-- a place of the code, with its number as it stands there -/
def ck_fndN : ck_cd → Nat → Option (Nat × Instr × Nat × ck_cd)
  | [], _ => none
  | y :: t, pc => bif Nat.beq y.1 pc then some (y.1, y.2.1, y.2.2, t) else ck_fndN t pc
def ck_sfxN (code suf : ck_cd) (pc : Nat) : Option (Nat × Instr × Nat × ck_cd) := match suf with
  | y :: t => bif Nat.beq y.1 pc then some (y.1, y.2.1, y.2.2, t) else ck_fndN code pc
  | [] => ck_fndN code pc
theorem ck_fndN_ok {pc : Nat} : ∀ {code : ck_cd} {y : Nat × Instr × Nat × ck_cd}, ck_fndN code pc = some y → y.1 = pc ∧ ck_fnd code pc = some y.2
  | [], _, h => by
    rw [ck_fndN] at h
    cases h
  | x :: t, y, h => by
    rw [ck_fndN] at h
    rw [ck_fnd_c]
    cases hb : Nat.beq x.1 pc with
    | true =>
      rw [hb] at h
      have h : some (x.1, x.2.1, x.2.2, t) = some y := h
      have e := Option.some.inj h
      subst e
      exact ⟨Nat.eq_of_beq_eq_true hb, rfl⟩
    | false =>
      rw [hb] at h
      have h : ck_fndN t pc = some y := h
      exact ck_fndN_ok h
theorem ck_sfxN_ok {code suf : ck_cd} {pc : Nat} {y : Nat × Instr × Nat × ck_cd} (h : ck_sfxN code suf pc = some y) : y.1 = pc ∧ ck_sfx code suf pc = some y.2 := by
  cases suf with
  | nil => exact ck_fndN_ok h
  | cons x t =>
    have h : (bif Nat.beq x.1 pc then some (x.1, x.2.1, x.2.2, t) else ck_fndN code pc) = some y := h
    cases hb : Nat.beq x.1 pc with
    | true =>
      rw [hb] at h
      have h : some (x.1, x.2.1, x.2.2, t) = some y := h
      have e := Option.some.inj h
      subst e
      have hp := Nat.eq_of_beq_eq_true hb
      exact ⟨hp, if_pos hp⟩
    | false =>
      rw [hb] at h
      have h : ck_fndN code pc = some y := h
      have hp : ¬ x.1 = pc := fun z => by
        have e : Nat.beq x.1 pc = true := by
          rw [Nat.beq_eq]
          exact z
        rw [e] at hb
        cases hb
      obtain ⟨h1, h2⟩ := ck_fndN_ok h
      exact ⟨h1, (if_neg hp).trans h2⟩
/-- loops' heads -/
abbrev fI (W : Type) : Type := List (Nat × (fL_ → List Value → W → Prop))
def wl {W : Type} (O : fO W) (T : fT) (Sp : fP W) (Post : Option Value → W → Prop) (code : ck_cd) (hd : fI W) : Nat → ck_cd → Nat → fL_ → List Value → W → Prop
  | 0, _, _, _, _, _ => False
  | f + 1, suf, pc, lg, vs, w => match hd.find? (fun x => Nat.beq x.1 pc) with
    | some x => x.2 lg vs w
    | none => match ck_sfxN code suf pc with
      | some y => wstepG O T Sp Post (wl O T Sp Post code hd f y.2.2.2) y.2.1 y.2.2.1 y.1 lg vs w
      | none => False
/-- from a head on -/
def wh {W : Type} (O : fO W) (T : fT) (Sp : fP W) (Post : Option Value → W → Prop) (code : ck_cd) (hd : fI W) (f pc : Nat) (lg : fL_) (vs : List Value) (w : W) : Prop := match ck_fndN code pc with
  | some y => wstepG O T Sp Post (wl O T Sp Post code hd f y.2.2.2) y.2.1 y.2.2.1 y.1 lg vs w
  | none => False
def f_sub : fL_ → fL_ → Prop
  | [], _ => True
  | x :: l, lg => lkb lg x.1 = some x.2 ∧ f_sub l lg
end
