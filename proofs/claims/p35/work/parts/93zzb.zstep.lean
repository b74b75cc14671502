/-! a step over a world by places -/
/-- what a call does, by what is to hold behind it -/
abbrev zQ : Type := List Value → zW → (Option Value → zW → Prop) → Prop
abbrev zP : Type := List (Nat × Nat × zQ)
def zcall (Sp : zP) (k : Nat → fL_ → List Value → zW → Prop) (key pc : Nat) (lg : fL_) (vs : List Value) (A : zW) : Prop := match Sp.find? (fun x => x.1 == key) with
  | some x => x.2.2 (vs.take x.2.1).reverse A (fun rv A' => k (pc + 3) lg (rv.toList ++ vs.drop x.2.1) A')
  | none => False
def zstep (T : fT) (Sp : zP) (Post : Option Value → zW → Prop) (k : Nat → fL_ → List Value → zW → Prop) (ins : Instr) (len pc : Nat) (lg : fL_) (vs : List Value) (A : zW) : Prop := match ins, vs with
  | .iconst v, _ => k (pc + len) lg (.int (Int32.ofInt v) :: vs) A
  | .bipush v, _ => match decide (-128 ≤ v ∧ v < 128) with
    | true => k (pc + len) lg (.int (Int32.ofInt v) :: vs) A
    | false => False
  | .sipush v, _ => match decide (-32768 ≤ v ∧ v < 32768) with
    | true => k (pc + len) lg (.int (Int32.ofInt v) :: vs) A
    | false => False
  | .lconst v, _ => k (pc + len) lg (.long (Int64.ofNat (v : Nat)) :: vs) A
  | .ldc i, _ => match T.2.2.2.1.find? (fun x => x.1 == i && x.2.1 == 0) with
    | some x => k (pc + len) lg (.int (Int32.ofInt x.2.2) :: vs) A
    | none => False
  | .ldc_w i, _ => match T.2.2.2.1.find? (fun x => x.1 == i && x.2.1 == 0) with
    | some x => k (pc + len) lg (.int (Int32.ofInt x.2.2) :: vs) A
    | none => False
  | .ldc2_w i, _ => match T.2.2.2.1.find? (fun x => x.1 == i && x.2.1 == 1) with
    | some x => k (pc + len) lg (.long (Int64.ofInt x.2.2) :: vs) A
    | none => False
  | .iload_n i, _ => match lk lg i with
    | some v => k (pc + len) lg (v :: vs) A
    | none => False
  | .iload i, _ => match lk lg i with
    | some v => k (pc + len) lg (v :: vs) A
    | none => False
  | .lload_n i, _ => match lk lg i with
    | some v => k (pc + len) lg (v :: vs) A
    | none => False
  | .lload i, _ => match lk lg i with
    | some v => k (pc + len) lg (v :: vs) A
    | none => False
  | .aload_n i, _ => match lk lg i with
    | some v => k (pc + len) lg (v :: vs) A
    | none => False
  | .aload i, _ => match lk lg i with
    | some v => k (pc + len) lg (v :: vs) A
    | none => False
  | .istore_n i, v :: r => k (pc + len) (ls1 lg i v) r A
  | .istore i, v :: r => k (pc + len) (ls1 lg i v) r A
  | .astore_n i, v :: r => k (pc + len) (ls1 lg i v) r A
  | .astore i, v :: r => k (pc + len) (ls1 lg i v) r A
  | .lstore_n i, v :: r => k (pc + len) (ls2 lg i v) r A
  | .lstore i, v :: r => k (pc + len) (ls2 lg i v) r A
  | .iinc i c, _ => match lk lg i with
    | some v => k (pc + len) (ls1 lg i (.int (iv v + Int32.ofInt c))) vs A
    | none => False
  | .iadd, y :: x :: r => k (pc + 1) lg (.int (iv x + iv y) :: r) A
  | .isub, y :: x :: r => k (pc + 1) lg (.int (iv x - iv y) :: r) A
  | .imul, y :: x :: r => k (pc + 1) lg (.int (iv x * iv y) :: r) A
  | .iand, y :: x :: r => k (pc + 1) lg (.int (iv x &&& iv y) :: r) A
  | .ior, y :: x :: r => k (pc + 1) lg (.int (iv x ||| iv y) :: r) A
  | .ixor, y :: x :: r => k (pc + 1) lg (.int (iv x ^^^ iv y) :: r) A
  | .ishl, y :: x :: r => k (pc + 1) lg (.int (iv x <<< (iv y &&& 31)) :: r) A
  | .ishr, y :: x :: r => k (pc + 1) lg (.int (iv x >>> (iv y &&& 31)) :: r) A
  | .iushr, y :: x :: r => k (pc + 1) lg (.int (((iv x).toUInt32 >>> ((iv y).toUInt32 &&& Int32.toUInt32 31)).toInt32) :: r) A
  | .idiv, y :: x :: r => k (pc + 1) lg (.int (iv x / iv y) :: r) A
  | .irem, y :: x :: r => k (pc + 1) lg (.int (iv x % iv y) :: r) A
  | .ladd, y :: x :: r => k (pc + 1) lg (.long (jv x + jv y) :: r) A
  | .lsub, y :: x :: r => k (pc + 1) lg (.long (jv x - jv y) :: r) A
  | .lmul, y :: x :: r => k (pc + 1) lg (.long (jv x * jv y) :: r) A
  | .land, y :: x :: r => k (pc + 1) lg (.long (jv x &&& jv y) :: r) A
  | .lor, y :: x :: r => k (pc + 1) lg (.long (jv x ||| jv y) :: r) A
  | .lxor, y :: x :: r => k (pc + 1) lg (.long (jv x ^^^ jv y) :: r) A
  | .lushr, y :: x :: r => k (pc + 1) lg (.long ((jv x).toUInt64 >>> ((iv y).toInt64.toUInt64 &&& Int64.toUInt64 63)).toInt64 :: r) A
  | .lshr, y :: x :: r => k (pc + 1) lg (.long (jv x >>> ((iv y).toInt64 &&& 63)) :: r) A
  | .lshl, y :: x :: r => k (pc + 1) lg (.long (jv x <<< ((iv y).toInt64 &&& 63)) :: r) A
  | .ineg, x :: r => k (pc + 1) lg (.int (-(iv x)) :: r) A
  | .i2l, x :: r => k (pc + 1) lg (.long (iv x).toInt64 :: r) A
  | .l2i, x :: r => k (pc + 1) lg (.int (jv x).toInt32 :: r) A
  | .i2b, x :: r => k (pc + 1) lg (.int (iv x).toInt8.toInt32 :: r) A
  | .i2s, x :: r => k (pc + 1) lg (.int (iv x).toInt16.toInt32 :: r) A
  | .lcmp, y :: x :: r => k (pc + 1) lg (.int (lg_cmp (jv x) (jv y)) :: r) A
  | .aconst_null, _ => k (pc + 1) lg (.null :: vs) A
  | .dup, v :: r => k (pc + 1) lg (v :: v :: r) A
  | .pop, _ :: r => k (pc + 1) lg r A
  | .pop2, _ :: r => k (pc + 1) lg r A
  | .dup2, v :: u :: r => k (pc + 1) lg (v :: u :: v :: u :: r) A
  | .goto off, _ => k (f_tg pc off) lg vs A
  | .ifCond cd off, x :: r => (ck_cm cd (iv x).toInt 0 → k (f_tg pc off) lg r A) ∧ (¬ ck_cm cd (iv x).toInt 0 → k (pc + 3) lg r A)
  | .if_icmp cd off, y :: x :: r => (ck_cm cd (iv x).toInt (iv y).toInt → k (f_tg pc off) lg r A) ∧ (¬ ck_cm cd (iv x).toInt (iv y).toInt → k (pc + 3) lg r A)
  | .ifnull off, v :: r => (v = .null → k (f_tg pc off) lg r A) ∧ (¬ v = .null → k (pc + 3) lg r A)
  | .ifnonnull off, v :: r => (¬ v = .null → k (f_tg pc off) lg r A) ∧ (v = .null → k (pc + 3) lg r A)
  | .tableswitch d lo hi os, x :: r => ((iv x).toInt < lo ∨ hi < (iv x).toInt → k (f_tg pc d) lg r A) ∧ (lo ≤ (iv x).toInt → (iv x).toInt ≤ hi → wT k pc lg r A (iv x) lo os.toList)
  | .getfield i, p :: r => k (pc + 3) lg (zfl A (rv_ p) (kfd T.1 i (zkd A (rv_ p))) :: r) A
  | .putfield i, u :: p :: r => zc (rv_ p) (kpd T.2.1 i (zkd A (rv_ p))) = 0 ∧ k (pc + 3) lg r (zuF A (rv_ p) (kpd T.2.1 i (zkd A (rv_ p))) u)
  | .iaload, x :: p :: r => k (pc + 1) lg (.int (zI A (rv_ p) (iv x).toNatClampNeg) :: r) A
  | .laload, x :: p :: r => k (pc + 1) lg (.long (zJ A (rv_ p) (iv x).toNatClampNeg) :: r) A
  | .baload, x :: p :: r => k (pc + 1) lg (.int (zI A (rv_ p) (iv x).toNatClampNeg) :: r) A
  | .aaload, x :: p :: r => k (pc + 1) lg (zrl A (rv_ p) (iv x).toNatClampNeg :: r) A
  | .iastore, v :: x :: p :: r => k (pc + 1) lg r (zuI A (rv_ p) (iv x).toNatClampNeg (iv v))
  | .lastore, v :: x :: p :: r => k (pc + 1) lg r (zuJ A (rv_ p) (iv x).toNatClampNeg (jv v))
  | .bastore, v :: x :: p :: r => k (pc + 1) lg r (zuI A (rv_ p) (iv x).toNatClampNeg (vp_nar .boolean (iv v)))
  | .aastore, v :: x :: p :: r => zc (rv_ p) (iv x).toNatClampNeg = 0 ∧ k (pc + 1) lg r (zuR A (rv_ p) (iv x).toNatClampNeg v)
  | .arraylength, p :: r => k (pc + 1) lg (.int (Int32.ofNat (zkd A (rv_ p))) :: r) A
  | .new i, _ => ∀ D : Nat → Value, match T.2.2.1.find? (fun x => x.1 == i) with
    | some x => k (pc + 3) lg (.ref (zN A) :: vs) (zuN A x.2.1 x.2.2.1 D)
    | none => False
  | .instanceof i, p :: r => k (pc + 3) lg (.int (Int32.ofNat (kci T.2.2.2.2.1 i (zkd A (rv_ p)))) :: r) A
  | .checkcast _, _ => k (pc + 3) lg vs A
  | .invokevirtual i, _ => zcall Sp k (3 * i) pc lg vs A
  | .invokestatic i, _ => zcall Sp k (3 * i + 1) pc lg vs A
  | .invokespecial i, _ => zcall Sp k (3 * i + 2) pc lg vs A
  | .return_, [] => Post none A
  | .ireturn, [v] => Post (some v) A
  | .lreturn, [v] => Post (some v) A
  | .areturn, [v] => Post (some v) A
  | _, _ => False
/-- a step by a function for each instruction: the dispatch brings nothing else along -/
abbrev zi_st : Type := fT → zP → (Option Value → zW → Prop) → (Nat → fL_ → List Value → zW → Prop) → Nat → Nat → fL_ → List Value → zW → Prop
def zi_iconst (v : Int) (_ : fT) (_ : zP) (_ : Option Value → zW → Prop) (k : Nat → fL_ → List Value → zW → Prop) (len : Nat) (pc : Nat) (lg : fL_) (vs : List Value) (A : zW) : Prop := k (pc + len) lg (.int (Int32.ofInt v) :: vs) A
def zi_bipush (v : Int) (_ : fT) (_ : zP) (_ : Option Value → zW → Prop) (k : Nat → fL_ → List Value → zW → Prop) (len : Nat) (pc : Nat) (lg : fL_) (vs : List Value) (A : zW) : Prop := match decide (-128 ≤ v ∧ v < 128) with
    | true => k (pc + len) lg (.int (Int32.ofInt v) :: vs) A
    | false => False
def zi_sipush (v : Int) (_ : fT) (_ : zP) (_ : Option Value → zW → Prop) (k : Nat → fL_ → List Value → zW → Prop) (len : Nat) (pc : Nat) (lg : fL_) (vs : List Value) (A : zW) : Prop := match decide (-32768 ≤ v ∧ v < 32768) with
    | true => k (pc + len) lg (.int (Int32.ofInt v) :: vs) A
    | false => False
def zi_lconst (v : Fin 2) (_ : fT) (_ : zP) (_ : Option Value → zW → Prop) (k : Nat → fL_ → List Value → zW → Prop) (len : Nat) (pc : Nat) (lg : fL_) (vs : List Value) (A : zW) : Prop := k (pc + len) lg (.long (Int64.ofNat (v : Nat)) :: vs) A
def zi_ldc (i : Nat) (T : fT) (_ : zP) (_ : Option Value → zW → Prop) (k : Nat → fL_ → List Value → zW → Prop) (len : Nat) (pc : Nat) (lg : fL_) (vs : List Value) (A : zW) : Prop := match T.2.2.2.1.find? (fun x => x.1 == i && x.2.1 == 0) with
    | some x => k (pc + len) lg (.int (Int32.ofInt x.2.2) :: vs) A
    | none => False
def zi_ldc_w (i : Nat) (T : fT) (_ : zP) (_ : Option Value → zW → Prop) (k : Nat → fL_ → List Value → zW → Prop) (len : Nat) (pc : Nat) (lg : fL_) (vs : List Value) (A : zW) : Prop := match T.2.2.2.1.find? (fun x => x.1 == i && x.2.1 == 0) with
    | some x => k (pc + len) lg (.int (Int32.ofInt x.2.2) :: vs) A
    | none => False
def zi_ldc2_w (i : Nat) (T : fT) (_ : zP) (_ : Option Value → zW → Prop) (k : Nat → fL_ → List Value → zW → Prop) (len : Nat) (pc : Nat) (lg : fL_) (vs : List Value) (A : zW) : Prop := match T.2.2.2.1.find? (fun x => x.1 == i && x.2.1 == 1) with
    | some x => k (pc + len) lg (.long (Int64.ofInt x.2.2) :: vs) A
    | none => False
def zi_iload_n (i : Fin 4) (_ : fT) (_ : zP) (_ : Option Value → zW → Prop) (k : Nat → fL_ → List Value → zW → Prop) (len : Nat) (pc : Nat) (lg : fL_) (vs : List Value) (A : zW) : Prop := match lk lg i with
    | some v => k (pc + len) lg (v :: vs) A
    | none => False
def zi_iload (i : Nat) (_ : fT) (_ : zP) (_ : Option Value → zW → Prop) (k : Nat → fL_ → List Value → zW → Prop) (len : Nat) (pc : Nat) (lg : fL_) (vs : List Value) (A : zW) : Prop := match lk lg i with
    | some v => k (pc + len) lg (v :: vs) A
    | none => False
def zi_lload_n (i : Fin 4) (_ : fT) (_ : zP) (_ : Option Value → zW → Prop) (k : Nat → fL_ → List Value → zW → Prop) (len : Nat) (pc : Nat) (lg : fL_) (vs : List Value) (A : zW) : Prop := match lk lg i with
    | some v => k (pc + len) lg (v :: vs) A
    | none => False
def zi_lload (i : Nat) (_ : fT) (_ : zP) (_ : Option Value → zW → Prop) (k : Nat → fL_ → List Value → zW → Prop) (len : Nat) (pc : Nat) (lg : fL_) (vs : List Value) (A : zW) : Prop := match lk lg i with
    | some v => k (pc + len) lg (v :: vs) A
    | none => False
def zi_aload_n (i : Fin 4) (_ : fT) (_ : zP) (_ : Option Value → zW → Prop) (k : Nat → fL_ → List Value → zW → Prop) (len : Nat) (pc : Nat) (lg : fL_) (vs : List Value) (A : zW) : Prop := match lk lg i with
    | some v => k (pc + len) lg (v :: vs) A
    | none => False
def zi_aload (i : Nat) (_ : fT) (_ : zP) (_ : Option Value → zW → Prop) (k : Nat → fL_ → List Value → zW → Prop) (len : Nat) (pc : Nat) (lg : fL_) (vs : List Value) (A : zW) : Prop := match lk lg i with
    | some v => k (pc + len) lg (v :: vs) A
    | none => False
def zi_istore_n (i : Fin 4) (_ : fT) (_ : zP) (_ : Option Value → zW → Prop) (k : Nat → fL_ → List Value → zW → Prop) (len : Nat) (pc : Nat) (lg : fL_) (vs : List Value) (A : zW) : Prop := match vs with
  | v :: r => k (pc + len) (ls1 lg i v) r A
  | _ => False
def zi_istore (i : Nat) (_ : fT) (_ : zP) (_ : Option Value → zW → Prop) (k : Nat → fL_ → List Value → zW → Prop) (len : Nat) (pc : Nat) (lg : fL_) (vs : List Value) (A : zW) : Prop := match vs with
  | v :: r => k (pc + len) (ls1 lg i v) r A
  | _ => False
def zi_astore_n (i : Fin 4) (_ : fT) (_ : zP) (_ : Option Value → zW → Prop) (k : Nat → fL_ → List Value → zW → Prop) (len : Nat) (pc : Nat) (lg : fL_) (vs : List Value) (A : zW) : Prop := match vs with
  | v :: r => k (pc + len) (ls1 lg i v) r A
  | _ => False
def zi_astore (i : Nat) (_ : fT) (_ : zP) (_ : Option Value → zW → Prop) (k : Nat → fL_ → List Value → zW → Prop) (len : Nat) (pc : Nat) (lg : fL_) (vs : List Value) (A : zW) : Prop := match vs with
  | v :: r => k (pc + len) (ls1 lg i v) r A
  | _ => False
def zi_lstore_n (i : Fin 4) (_ : fT) (_ : zP) (_ : Option Value → zW → Prop) (k : Nat → fL_ → List Value → zW → Prop) (len : Nat) (pc : Nat) (lg : fL_) (vs : List Value) (A : zW) : Prop := match vs with
  | v :: r => k (pc + len) (ls2 lg i v) r A
  | _ => False
def zi_lstore (i : Nat) (_ : fT) (_ : zP) (_ : Option Value → zW → Prop) (k : Nat → fL_ → List Value → zW → Prop) (len : Nat) (pc : Nat) (lg : fL_) (vs : List Value) (A : zW) : Prop := match vs with
  | v :: r => k (pc + len) (ls2 lg i v) r A
  | _ => False
def zi_iinc (i : Nat) (c : Int) (_ : fT) (_ : zP) (_ : Option Value → zW → Prop) (k : Nat → fL_ → List Value → zW → Prop) (len : Nat) (pc : Nat) (lg : fL_) (vs : List Value) (A : zW) : Prop := match lk lg i with
    | some v => k (pc + len) (ls1 lg i (.int (iv v + Int32.ofInt c))) vs A
    | none => False
def zi_iadd  (_ : fT) (_ : zP) (_ : Option Value → zW → Prop) (k : Nat → fL_ → List Value → zW → Prop) (_ : Nat) (pc : Nat) (lg : fL_) (vs : List Value) (A : zW) : Prop := match vs with
  | y :: x :: r => k (pc + 1) lg (.int (iv x + iv y) :: r) A
  | _ => False
def zi_isub  (_ : fT) (_ : zP) (_ : Option Value → zW → Prop) (k : Nat → fL_ → List Value → zW → Prop) (_ : Nat) (pc : Nat) (lg : fL_) (vs : List Value) (A : zW) : Prop := match vs with
  | y :: x :: r => k (pc + 1) lg (.int (iv x - iv y) :: r) A
  | _ => False
def zi_imul  (_ : fT) (_ : zP) (_ : Option Value → zW → Prop) (k : Nat → fL_ → List Value → zW → Prop) (_ : Nat) (pc : Nat) (lg : fL_) (vs : List Value) (A : zW) : Prop := match vs with
  | y :: x :: r => k (pc + 1) lg (.int (iv x * iv y) :: r) A
  | _ => False
def zi_iand  (_ : fT) (_ : zP) (_ : Option Value → zW → Prop) (k : Nat → fL_ → List Value → zW → Prop) (_ : Nat) (pc : Nat) (lg : fL_) (vs : List Value) (A : zW) : Prop := match vs with
  | y :: x :: r => k (pc + 1) lg (.int (iv x &&& iv y) :: r) A
  | _ => False
def zi_ior  (_ : fT) (_ : zP) (_ : Option Value → zW → Prop) (k : Nat → fL_ → List Value → zW → Prop) (_ : Nat) (pc : Nat) (lg : fL_) (vs : List Value) (A : zW) : Prop := match vs with
  | y :: x :: r => k (pc + 1) lg (.int (iv x ||| iv y) :: r) A
  | _ => False
def zi_ixor  (_ : fT) (_ : zP) (_ : Option Value → zW → Prop) (k : Nat → fL_ → List Value → zW → Prop) (_ : Nat) (pc : Nat) (lg : fL_) (vs : List Value) (A : zW) : Prop := match vs with
  | y :: x :: r => k (pc + 1) lg (.int (iv x ^^^ iv y) :: r) A
  | _ => False
def zi_ishl  (_ : fT) (_ : zP) (_ : Option Value → zW → Prop) (k : Nat → fL_ → List Value → zW → Prop) (_ : Nat) (pc : Nat) (lg : fL_) (vs : List Value) (A : zW) : Prop := match vs with
  | y :: x :: r => k (pc + 1) lg (.int (iv x <<< (iv y &&& 31)) :: r) A
  | _ => False
def zi_ishr  (_ : fT) (_ : zP) (_ : Option Value → zW → Prop) (k : Nat → fL_ → List Value → zW → Prop) (_ : Nat) (pc : Nat) (lg : fL_) (vs : List Value) (A : zW) : Prop := match vs with
  | y :: x :: r => k (pc + 1) lg (.int (iv x >>> (iv y &&& 31)) :: r) A
  | _ => False
def zi_iushr  (_ : fT) (_ : zP) (_ : Option Value → zW → Prop) (k : Nat → fL_ → List Value → zW → Prop) (_ : Nat) (pc : Nat) (lg : fL_) (vs : List Value) (A : zW) : Prop := match vs with
  | y :: x :: r => k (pc + 1) lg (.int (((iv x).toUInt32 >>> ((iv y).toUInt32 &&& Int32.toUInt32 31)).toInt32) :: r) A
  | _ => False
def zi_idiv  (_ : fT) (_ : zP) (_ : Option Value → zW → Prop) (k : Nat → fL_ → List Value → zW → Prop) (_ : Nat) (pc : Nat) (lg : fL_) (vs : List Value) (A : zW) : Prop := match vs with
  | y :: x :: r => k (pc + 1) lg (.int (iv x / iv y) :: r) A
  | _ => False
def zi_irem  (_ : fT) (_ : zP) (_ : Option Value → zW → Prop) (k : Nat → fL_ → List Value → zW → Prop) (_ : Nat) (pc : Nat) (lg : fL_) (vs : List Value) (A : zW) : Prop := match vs with
  | y :: x :: r => k (pc + 1) lg (.int (iv x % iv y) :: r) A
  | _ => False
def zi_ladd  (_ : fT) (_ : zP) (_ : Option Value → zW → Prop) (k : Nat → fL_ → List Value → zW → Prop) (_ : Nat) (pc : Nat) (lg : fL_) (vs : List Value) (A : zW) : Prop := match vs with
  | y :: x :: r => k (pc + 1) lg (.long (jv x + jv y) :: r) A
  | _ => False
def zi_lsub  (_ : fT) (_ : zP) (_ : Option Value → zW → Prop) (k : Nat → fL_ → List Value → zW → Prop) (_ : Nat) (pc : Nat) (lg : fL_) (vs : List Value) (A : zW) : Prop := match vs with
  | y :: x :: r => k (pc + 1) lg (.long (jv x - jv y) :: r) A
  | _ => False
def zi_lmul  (_ : fT) (_ : zP) (_ : Option Value → zW → Prop) (k : Nat → fL_ → List Value → zW → Prop) (_ : Nat) (pc : Nat) (lg : fL_) (vs : List Value) (A : zW) : Prop := match vs with
  | y :: x :: r => k (pc + 1) lg (.long (jv x * jv y) :: r) A
  | _ => False
def zi_land  (_ : fT) (_ : zP) (_ : Option Value → zW → Prop) (k : Nat → fL_ → List Value → zW → Prop) (_ : Nat) (pc : Nat) (lg : fL_) (vs : List Value) (A : zW) : Prop := match vs with
  | y :: x :: r => k (pc + 1) lg (.long (jv x &&& jv y) :: r) A
  | _ => False
def zi_lor  (_ : fT) (_ : zP) (_ : Option Value → zW → Prop) (k : Nat → fL_ → List Value → zW → Prop) (_ : Nat) (pc : Nat) (lg : fL_) (vs : List Value) (A : zW) : Prop := match vs with
  | y :: x :: r => k (pc + 1) lg (.long (jv x ||| jv y) :: r) A
  | _ => False
def zi_lxor  (_ : fT) (_ : zP) (_ : Option Value → zW → Prop) (k : Nat → fL_ → List Value → zW → Prop) (_ : Nat) (pc : Nat) (lg : fL_) (vs : List Value) (A : zW) : Prop := match vs with
  | y :: x :: r => k (pc + 1) lg (.long (jv x ^^^ jv y) :: r) A
  | _ => False
def zi_lushr  (_ : fT) (_ : zP) (_ : Option Value → zW → Prop) (k : Nat → fL_ → List Value → zW → Prop) (_ : Nat) (pc : Nat) (lg : fL_) (vs : List Value) (A : zW) : Prop := match vs with
  | y :: x :: r => k (pc + 1) lg (.long ((jv x).toUInt64 >>> ((iv y).toInt64.toUInt64 &&& Int64.toUInt64 63)).toInt64 :: r) A
  | _ => False
def zi_lshr  (_ : fT) (_ : zP) (_ : Option Value → zW → Prop) (k : Nat → fL_ → List Value → zW → Prop) (_ : Nat) (pc : Nat) (lg : fL_) (vs : List Value) (A : zW) : Prop := match vs with
  | y :: x :: r => k (pc + 1) lg (.long (jv x >>> ((iv y).toInt64 &&& 63)) :: r) A
  | _ => False
def zi_lshl  (_ : fT) (_ : zP) (_ : Option Value → zW → Prop) (k : Nat → fL_ → List Value → zW → Prop) (_ : Nat) (pc : Nat) (lg : fL_) (vs : List Value) (A : zW) : Prop := match vs with
  | y :: x :: r => k (pc + 1) lg (.long (jv x <<< ((iv y).toInt64 &&& 63)) :: r) A
  | _ => False
def zi_ineg  (_ : fT) (_ : zP) (_ : Option Value → zW → Prop) (k : Nat → fL_ → List Value → zW → Prop) (_ : Nat) (pc : Nat) (lg : fL_) (vs : List Value) (A : zW) : Prop := match vs with
  | x :: r => k (pc + 1) lg (.int (-(iv x)) :: r) A
  | _ => False
def zi_i2l  (_ : fT) (_ : zP) (_ : Option Value → zW → Prop) (k : Nat → fL_ → List Value → zW → Prop) (_ : Nat) (pc : Nat) (lg : fL_) (vs : List Value) (A : zW) : Prop := match vs with
  | x :: r => k (pc + 1) lg (.long (iv x).toInt64 :: r) A
  | _ => False
def zi_l2i  (_ : fT) (_ : zP) (_ : Option Value → zW → Prop) (k : Nat → fL_ → List Value → zW → Prop) (_ : Nat) (pc : Nat) (lg : fL_) (vs : List Value) (A : zW) : Prop := match vs with
  | x :: r => k (pc + 1) lg (.int (jv x).toInt32 :: r) A
  | _ => False
def zi_i2b  (_ : fT) (_ : zP) (_ : Option Value → zW → Prop) (k : Nat → fL_ → List Value → zW → Prop) (_ : Nat) (pc : Nat) (lg : fL_) (vs : List Value) (A : zW) : Prop := match vs with
  | x :: r => k (pc + 1) lg (.int (iv x).toInt8.toInt32 :: r) A
  | _ => False
def zi_i2s  (_ : fT) (_ : zP) (_ : Option Value → zW → Prop) (k : Nat → fL_ → List Value → zW → Prop) (_ : Nat) (pc : Nat) (lg : fL_) (vs : List Value) (A : zW) : Prop := match vs with
  | x :: r => k (pc + 1) lg (.int (iv x).toInt16.toInt32 :: r) A
  | _ => False
def zi_lcmp  (_ : fT) (_ : zP) (_ : Option Value → zW → Prop) (k : Nat → fL_ → List Value → zW → Prop) (_ : Nat) (pc : Nat) (lg : fL_) (vs : List Value) (A : zW) : Prop := match vs with
  | y :: x :: r => k (pc + 1) lg (.int (lg_cmp (jv x) (jv y)) :: r) A
  | _ => False
def zi_aconst_null  (_ : fT) (_ : zP) (_ : Option Value → zW → Prop) (k : Nat → fL_ → List Value → zW → Prop) (_ : Nat) (pc : Nat) (lg : fL_) (vs : List Value) (A : zW) : Prop := k (pc + 1) lg (.null :: vs) A
def zi_dup  (_ : fT) (_ : zP) (_ : Option Value → zW → Prop) (k : Nat → fL_ → List Value → zW → Prop) (_ : Nat) (pc : Nat) (lg : fL_) (vs : List Value) (A : zW) : Prop := match vs with
  | v :: r => k (pc + 1) lg (v :: v :: r) A
  | _ => False
def zi_pop  (_ : fT) (_ : zP) (_ : Option Value → zW → Prop) (k : Nat → fL_ → List Value → zW → Prop) (_ : Nat) (pc : Nat) (lg : fL_) (vs : List Value) (A : zW) : Prop := match vs with
  | _ :: r => k (pc + 1) lg r A
  | _ => False
def zi_pop2  (_ : fT) (_ : zP) (_ : Option Value → zW → Prop) (k : Nat → fL_ → List Value → zW → Prop) (_ : Nat) (pc : Nat) (lg : fL_) (vs : List Value) (A : zW) : Prop := match vs with
  | _ :: r => k (pc + 1) lg r A
  | _ => False
def zi_dup2  (_ : fT) (_ : zP) (_ : Option Value → zW → Prop) (k : Nat → fL_ → List Value → zW → Prop) (_ : Nat) (pc : Nat) (lg : fL_) (vs : List Value) (A : zW) : Prop := match vs with
  | v :: u :: r => k (pc + 1) lg (v :: u :: v :: u :: r) A
  | _ => False
def zi_goto (off : Int) (_ : fT) (_ : zP) (_ : Option Value → zW → Prop) (k : Nat → fL_ → List Value → zW → Prop) (_ : Nat) (pc : Nat) (lg : fL_) (vs : List Value) (A : zW) : Prop := k (f_tg pc off) lg vs A
def zi_ifCond (cd : ClassFile.Cond) (off : Int) (_ : fT) (_ : zP) (_ : Option Value → zW → Prop) (k : Nat → fL_ → List Value → zW → Prop) (_ : Nat) (pc : Nat) (lg : fL_) (vs : List Value) (A : zW) : Prop := match vs with
  | x :: r => (ck_cm cd (iv x).toInt 0 → k (f_tg pc off) lg r A) ∧ (¬ ck_cm cd (iv x).toInt 0 → k (pc + 3) lg r A)
  | _ => False
def zi_if_icmp (cd : ClassFile.Cond) (off : Int) (_ : fT) (_ : zP) (_ : Option Value → zW → Prop) (k : Nat → fL_ → List Value → zW → Prop) (_ : Nat) (pc : Nat) (lg : fL_) (vs : List Value) (A : zW) : Prop := match vs with
  | y :: x :: r => (ck_cm cd (iv x).toInt (iv y).toInt → k (f_tg pc off) lg r A) ∧ (¬ ck_cm cd (iv x).toInt (iv y).toInt → k (pc + 3) lg r A)
  | _ => False
def zi_ifnull (off : Int) (_ : fT) (_ : zP) (_ : Option Value → zW → Prop) (k : Nat → fL_ → List Value → zW → Prop) (_ : Nat) (pc : Nat) (lg : fL_) (vs : List Value) (A : zW) : Prop := match vs with
  | v :: r => (v = .null → k (f_tg pc off) lg r A) ∧ (¬ v = .null → k (pc + 3) lg r A)
  | _ => False
def zi_ifnonnull (off : Int) (_ : fT) (_ : zP) (_ : Option Value → zW → Prop) (k : Nat → fL_ → List Value → zW → Prop) (_ : Nat) (pc : Nat) (lg : fL_) (vs : List Value) (A : zW) : Prop := match vs with
  | v :: r => (¬ v = .null → k (f_tg pc off) lg r A) ∧ (v = .null → k (pc + 3) lg r A)
  | _ => False
def zi_tableswitch (d : Int) (lo : Int) (hi : Int) (os : Array Int) (_ : fT) (_ : zP) (_ : Option Value → zW → Prop) (k : Nat → fL_ → List Value → zW → Prop) (_ : Nat) (pc : Nat) (lg : fL_) (vs : List Value) (A : zW) : Prop := match vs with
  | x :: r => ((iv x).toInt < lo ∨ hi < (iv x).toInt → k (f_tg pc d) lg r A) ∧ (lo ≤ (iv x).toInt → (iv x).toInt ≤ hi → wT k pc lg r A (iv x) lo os.toList)
  | _ => False
def zi_getfield (i : Nat) (T : fT) (_ : zP) (_ : Option Value → zW → Prop) (k : Nat → fL_ → List Value → zW → Prop) (_ : Nat) (pc : Nat) (lg : fL_) (vs : List Value) (A : zW) : Prop := match vs with
  | p :: r => k (pc + 3) lg (zfl A (rv_ p) (kfd T.1 i (zkd A (rv_ p))) :: r) A
  | _ => False
def zi_putfield (i : Nat) (T : fT) (_ : zP) (_ : Option Value → zW → Prop) (k : Nat → fL_ → List Value → zW → Prop) (_ : Nat) (pc : Nat) (lg : fL_) (vs : List Value) (A : zW) : Prop := match vs with
  | u :: p :: r => zc (rv_ p) (kpd T.2.1 i (zkd A (rv_ p))) = 0 ∧ k (pc + 3) lg r (zuF A (rv_ p) (kpd T.2.1 i (zkd A (rv_ p))) u)
  | _ => False
def zi_iaload  (_ : fT) (_ : zP) (_ : Option Value → zW → Prop) (k : Nat → fL_ → List Value → zW → Prop) (_ : Nat) (pc : Nat) (lg : fL_) (vs : List Value) (A : zW) : Prop := match vs with
  | x :: p :: r => k (pc + 1) lg (.int (zI A (rv_ p) (iv x).toNatClampNeg) :: r) A
  | _ => False
def zi_laload  (_ : fT) (_ : zP) (_ : Option Value → zW → Prop) (k : Nat → fL_ → List Value → zW → Prop) (_ : Nat) (pc : Nat) (lg : fL_) (vs : List Value) (A : zW) : Prop := match vs with
  | x :: p :: r => k (pc + 1) lg (.long (zJ A (rv_ p) (iv x).toNatClampNeg) :: r) A
  | _ => False
def zi_baload  (_ : fT) (_ : zP) (_ : Option Value → zW → Prop) (k : Nat → fL_ → List Value → zW → Prop) (_ : Nat) (pc : Nat) (lg : fL_) (vs : List Value) (A : zW) : Prop := match vs with
  | x :: p :: r => k (pc + 1) lg (.int (zI A (rv_ p) (iv x).toNatClampNeg) :: r) A
  | _ => False
def zi_aaload  (_ : fT) (_ : zP) (_ : Option Value → zW → Prop) (k : Nat → fL_ → List Value → zW → Prop) (_ : Nat) (pc : Nat) (lg : fL_) (vs : List Value) (A : zW) : Prop := match vs with
  | x :: p :: r => k (pc + 1) lg (zrl A (rv_ p) (iv x).toNatClampNeg :: r) A
  | _ => False
def zi_iastore  (_ : fT) (_ : zP) (_ : Option Value → zW → Prop) (k : Nat → fL_ → List Value → zW → Prop) (_ : Nat) (pc : Nat) (lg : fL_) (vs : List Value) (A : zW) : Prop := match vs with
  | v :: x :: p :: r => k (pc + 1) lg r (zuI A (rv_ p) (iv x).toNatClampNeg (iv v))
  | _ => False
def zi_lastore  (_ : fT) (_ : zP) (_ : Option Value → zW → Prop) (k : Nat → fL_ → List Value → zW → Prop) (_ : Nat) (pc : Nat) (lg : fL_) (vs : List Value) (A : zW) : Prop := match vs with
  | v :: x :: p :: r => k (pc + 1) lg r (zuJ A (rv_ p) (iv x).toNatClampNeg (jv v))
  | _ => False
def zi_bastore  (_ : fT) (_ : zP) (_ : Option Value → zW → Prop) (k : Nat → fL_ → List Value → zW → Prop) (_ : Nat) (pc : Nat) (lg : fL_) (vs : List Value) (A : zW) : Prop := match vs with
  | v :: x :: p :: r => k (pc + 1) lg r (zuI A (rv_ p) (iv x).toNatClampNeg (vp_nar .boolean (iv v)))
  | _ => False
def zi_aastore  (_ : fT) (_ : zP) (_ : Option Value → zW → Prop) (k : Nat → fL_ → List Value → zW → Prop) (_ : Nat) (pc : Nat) (lg : fL_) (vs : List Value) (A : zW) : Prop := match vs with
  | v :: x :: p :: r => zc (rv_ p) (iv x).toNatClampNeg = 0 ∧ k (pc + 1) lg r (zuR A (rv_ p) (iv x).toNatClampNeg v)
  | _ => False
def zi_arraylength  (_ : fT) (_ : zP) (_ : Option Value → zW → Prop) (k : Nat → fL_ → List Value → zW → Prop) (_ : Nat) (pc : Nat) (lg : fL_) (vs : List Value) (A : zW) : Prop := match vs with
  | p :: r => k (pc + 1) lg (.int (Int32.ofNat (zkd A (rv_ p))) :: r) A
  | _ => False
def zi_new (i : Nat) (T : fT) (_ : zP) (_ : Option Value → zW → Prop) (k : Nat → fL_ → List Value → zW → Prop) (_ : Nat) (pc : Nat) (lg : fL_) (vs : List Value) (A : zW) : Prop := ∀ D : Nat → Value, match T.2.2.1.find? (fun x => x.1 == i) with
    | some x => k (pc + 3) lg (.ref (zN A) :: vs) (zuN A x.2.1 x.2.2.1 D)
    | none => False
def zi_instanceof (i : Nat) (T : fT) (_ : zP) (_ : Option Value → zW → Prop) (k : Nat → fL_ → List Value → zW → Prop) (_ : Nat) (pc : Nat) (lg : fL_) (vs : List Value) (A : zW) : Prop := match vs with
  | p :: r => k (pc + 3) lg (.int (Int32.ofNat (kci T.2.2.2.2.1 i (zkd A (rv_ p)))) :: r) A
  | _ => False
def zi_checkcast (_ : Nat) (_ : fT) (_ : zP) (_ : Option Value → zW → Prop) (k : Nat → fL_ → List Value → zW → Prop) (_ : Nat) (pc : Nat) (lg : fL_) (vs : List Value) (A : zW) : Prop := k (pc + 3) lg vs A
def zi_invokevirtual (i : Nat) (_ : fT) (Sp : zP) (_ : Option Value → zW → Prop) (k : Nat → fL_ → List Value → zW → Prop) (_ : Nat) (pc : Nat) (lg : fL_) (vs : List Value) (A : zW) : Prop := zcall Sp k (3 * i) pc lg vs A
def zi_invokestatic (i : Nat) (_ : fT) (Sp : zP) (_ : Option Value → zW → Prop) (k : Nat → fL_ → List Value → zW → Prop) (_ : Nat) (pc : Nat) (lg : fL_) (vs : List Value) (A : zW) : Prop := zcall Sp k (3 * i + 1) pc lg vs A
def zi_invokespecial (i : Nat) (_ : fT) (Sp : zP) (_ : Option Value → zW → Prop) (k : Nat → fL_ → List Value → zW → Prop) (_ : Nat) (pc : Nat) (lg : fL_) (vs : List Value) (A : zW) : Prop := zcall Sp k (3 * i + 2) pc lg vs A
def zi_return  (_ : fT) (_ : zP) (Post : Option Value → zW → Prop) (_ : Nat → fL_ → List Value → zW → Prop) (_ : Nat) (_ : Nat) (_ : fL_) (vs : List Value) (A : zW) : Prop := match vs with
  | [] => Post none A
  | _ => False
def zi_ireturn  (_ : fT) (_ : zP) (Post : Option Value → zW → Prop) (_ : Nat → fL_ → List Value → zW → Prop) (_ : Nat) (_ : Nat) (_ : fL_) (vs : List Value) (A : zW) : Prop := match vs with
  | [v] => Post (some v) A
  | _ => False
def zi_lreturn  (_ : fT) (_ : zP) (Post : Option Value → zW → Prop) (_ : Nat → fL_ → List Value → zW → Prop) (_ : Nat) (_ : Nat) (_ : fL_) (vs : List Value) (A : zW) : Prop := match vs with
  | [v] => Post (some v) A
  | _ => False
def zi_areturn  (_ : fT) (_ : zP) (Post : Option Value → zW → Prop) (_ : Nat → fL_ → List Value → zW → Prop) (_ : Nat) (_ : Nat) (_ : fL_) (vs : List Value) (A : zW) : Prop := match vs with
  | [v] => Post (some v) A
  | _ => False
def zi_dp (ins : Instr) : zi_st := match ins with
  | .iconst v => zi_iconst v
  | .bipush v => zi_bipush v
  | .sipush v => zi_sipush v
  | .lconst v => zi_lconst v
  | .ldc i => zi_ldc i
  | .ldc_w i => zi_ldc_w i
  | .ldc2_w i => zi_ldc2_w i
  | .iload_n i => zi_iload_n i
  | .iload i => zi_iload i
  | .lload_n i => zi_lload_n i
  | .lload i => zi_lload i
  | .aload_n i => zi_aload_n i
  | .aload i => zi_aload i
  | .istore_n i => zi_istore_n i
  | .istore i => zi_istore i
  | .astore_n i => zi_astore_n i
  | .astore i => zi_astore i
  | .lstore_n i => zi_lstore_n i
  | .lstore i => zi_lstore i
  | .iinc i c => zi_iinc i c
  | .iadd => zi_iadd
  | .isub => zi_isub
  | .imul => zi_imul
  | .iand => zi_iand
  | .ior => zi_ior
  | .ixor => zi_ixor
  | .ishl => zi_ishl
  | .ishr => zi_ishr
  | .iushr => zi_iushr
  | .idiv => zi_idiv
  | .irem => zi_irem
  | .ladd => zi_ladd
  | .lsub => zi_lsub
  | .lmul => zi_lmul
  | .land => zi_land
  | .lor => zi_lor
  | .lxor => zi_lxor
  | .lushr => zi_lushr
  | .lshr => zi_lshr
  | .lshl => zi_lshl
  | .ineg => zi_ineg
  | .i2l => zi_i2l
  | .l2i => zi_l2i
  | .i2b => zi_i2b
  | .i2s => zi_i2s
  | .lcmp => zi_lcmp
  | .aconst_null => zi_aconst_null
  | .dup => zi_dup
  | .pop => zi_pop
  | .pop2 => zi_pop2
  | .dup2 => zi_dup2
  | .goto off => zi_goto off
  | .ifCond cd off => zi_ifCond cd off
  | .if_icmp cd off => zi_if_icmp cd off
  | .ifnull off => zi_ifnull off
  | .ifnonnull off => zi_ifnonnull off
  | .tableswitch d lo hi os => zi_tableswitch d lo hi os
  | .getfield i => zi_getfield i
  | .putfield i => zi_putfield i
  | .iaload => zi_iaload
  | .laload => zi_laload
  | .baload => zi_baload
  | .aaload => zi_aaload
  | .iastore => zi_iastore
  | .lastore => zi_lastore
  | .bastore => zi_bastore
  | .aastore => zi_aastore
  | .arraylength => zi_arraylength
  | .new i => zi_new i
  | .instanceof i => zi_instanceof i
  | .checkcast u0 => zi_checkcast u0
  | .invokevirtual i => zi_invokevirtual i
  | .invokestatic i => zi_invokestatic i
  | .invokespecial i => zi_invokespecial i
  | .return_ => zi_return
  | .ireturn => zi_ireturn
  | .lreturn => zi_lreturn
  | .areturn => zi_areturn
  | _ => fun _ _ _ _ _ _ _ _ _ => False
def zstepG (T : fT) (Sp : zP) (Post : Option Value → zW → Prop) (k : Nat → fL_ → List Value → zW → Prop) (ins : Instr) (len pc : Nat) (lg : fL_) (vs : List Value) (A : zW) : Prop := zi_dp ins T Sp Post k len pc lg vs A
theorem zstepG_eq {T : fT} {Sp : zP} {Post : Option Value → zW → Prop} {k : Nat → fL_ → List Value → zW → Prop} {ins : Instr} {len pc : Nat} {lg : fL_} {vs : List Value} {A : zW} : zstepG T Sp Post k ins len pc lg vs A = zstep T Sp Post k ins len pc lg vs A := by
  cases ins with
  | iconst v => rfl
  | bipush v => rfl
  | sipush v => rfl
  | lconst v => rfl
  | ldc i => rfl
  | ldc_w i => rfl
  | ldc2_w i => rfl
  | iload_n i => rfl
  | iload i => rfl
  | lload_n i => rfl
  | lload i => rfl
  | aload_n i => rfl
  | aload i => rfl
  | istore_n i => rcases vs with _ | ⟨_, r⟩ <;> rfl
  | istore i => rcases vs with _ | ⟨_, r⟩ <;> rfl
  | astore_n i => rcases vs with _ | ⟨_, r⟩ <;> rfl
  | astore i => rcases vs with _ | ⟨_, r⟩ <;> rfl
  | lstore_n i => rcases vs with _ | ⟨_, r⟩ <;> rfl
  | lstore i => rcases vs with _ | ⟨_, r⟩ <;> rfl
  | iinc i c => rfl
  | iadd => rcases vs with _ | ⟨_, _ | ⟨_, r⟩⟩ <;> rfl
  | isub => rcases vs with _ | ⟨_, _ | ⟨_, r⟩⟩ <;> rfl
  | imul => rcases vs with _ | ⟨_, _ | ⟨_, r⟩⟩ <;> rfl
  | iand => rcases vs with _ | ⟨_, _ | ⟨_, r⟩⟩ <;> rfl
  | ior => rcases vs with _ | ⟨_, _ | ⟨_, r⟩⟩ <;> rfl
  | ixor => rcases vs with _ | ⟨_, _ | ⟨_, r⟩⟩ <;> rfl
  | ishl => rcases vs with _ | ⟨_, _ | ⟨_, r⟩⟩ <;> rfl
  | ishr => rcases vs with _ | ⟨_, _ | ⟨_, r⟩⟩ <;> rfl
  | iushr => rcases vs with _ | ⟨_, _ | ⟨_, r⟩⟩ <;> rfl
  | idiv => rcases vs with _ | ⟨_, _ | ⟨_, r⟩⟩ <;> rfl
  | irem => rcases vs with _ | ⟨_, _ | ⟨_, r⟩⟩ <;> rfl
  | ladd => rcases vs with _ | ⟨_, _ | ⟨_, r⟩⟩ <;> rfl
  | lsub => rcases vs with _ | ⟨_, _ | ⟨_, r⟩⟩ <;> rfl
  | lmul => rcases vs with _ | ⟨_, _ | ⟨_, r⟩⟩ <;> rfl
  | land => rcases vs with _ | ⟨_, _ | ⟨_, r⟩⟩ <;> rfl
  | lor => rcases vs with _ | ⟨_, _ | ⟨_, r⟩⟩ <;> rfl
  | lxor => rcases vs with _ | ⟨_, _ | ⟨_, r⟩⟩ <;> rfl
  | lushr => rcases vs with _ | ⟨_, _ | ⟨_, r⟩⟩ <;> rfl
  | lshr => rcases vs with _ | ⟨_, _ | ⟨_, r⟩⟩ <;> rfl
  | lshl => rcases vs with _ | ⟨_, _ | ⟨_, r⟩⟩ <;> rfl
  | ineg => rcases vs with _ | ⟨_, r⟩ <;> rfl
  | i2l => rcases vs with _ | ⟨_, r⟩ <;> rfl
  | l2i => rcases vs with _ | ⟨_, r⟩ <;> rfl
  | i2b => rcases vs with _ | ⟨_, r⟩ <;> rfl
  | i2s => rcases vs with _ | ⟨_, r⟩ <;> rfl
  | lcmp => rcases vs with _ | ⟨_, _ | ⟨_, r⟩⟩ <;> rfl
  | aconst_null => rfl
  | dup => rcases vs with _ | ⟨_, r⟩ <;> rfl
  | pop => rcases vs with _ | ⟨_, r⟩ <;> rfl
  | pop2 => rcases vs with _ | ⟨_, r⟩ <;> rfl
  | dup2 => rcases vs with _ | ⟨_, _ | ⟨_, r⟩⟩ <;> rfl
  | goto off => rfl
  | ifCond cd off => rcases vs with _ | ⟨_, r⟩ <;> rfl
  | if_icmp cd off => rcases vs with _ | ⟨_, _ | ⟨_, r⟩⟩ <;> rfl
  | ifnull off => rcases vs with _ | ⟨_, r⟩ <;> rfl
  | ifnonnull off => rcases vs with _ | ⟨_, r⟩ <;> rfl
  | tableswitch d lo hi os => rcases vs with _ | ⟨_, r⟩ <;> rfl
  | getfield i => rcases vs with _ | ⟨_, r⟩ <;> rfl
  | putfield i => rcases vs with _ | ⟨_, _ | ⟨_, r⟩⟩ <;> rfl
  | iaload => rcases vs with _ | ⟨_, _ | ⟨_, r⟩⟩ <;> rfl
  | laload => rcases vs with _ | ⟨_, _ | ⟨_, r⟩⟩ <;> rfl
  | baload => rcases vs with _ | ⟨_, _ | ⟨_, r⟩⟩ <;> rfl
  | aaload => rcases vs with _ | ⟨_, _ | ⟨_, r⟩⟩ <;> rfl
  | iastore => rcases vs with _ | ⟨_, _ | ⟨_, _ | ⟨_, r⟩⟩⟩ <;> rfl
  | lastore => rcases vs with _ | ⟨_, _ | ⟨_, _ | ⟨_, r⟩⟩⟩ <;> rfl
  | bastore => rcases vs with _ | ⟨_, _ | ⟨_, _ | ⟨_, r⟩⟩⟩ <;> rfl
  | aastore => rcases vs with _ | ⟨_, _ | ⟨_, _ | ⟨_, r⟩⟩⟩ <;> rfl
  | arraylength => rcases vs with _ | ⟨_, r⟩ <;> rfl
  | new i => rfl
  | instanceof i => rcases vs with _ | ⟨_, r⟩ <;> rfl
  | checkcast u0 => rfl
  | invokevirtual i => rfl
  | invokestatic i => rfl
  | invokespecial i => rfl
  | return_ => rcases vs with _ | ⟨_, _⟩ <;> rfl
  | ireturn => rcases vs with _ | ⟨_, _ | ⟨_, _⟩⟩ <;> rfl
  | lreturn => rcases vs with _ | ⟨_, _ | ⟨_, _⟩⟩ <;> rfl
  | areturn => rcases vs with _ | ⟨_, _ | ⟨_, _⟩⟩ <;> rfl
  | _ => rfl
abbrev zH : Type := List (Nat × (fL_ → List Value → zW → Prop))
def zwl (T : fT) (Sp : zP) (Post : Option Value → zW → Prop) (code : ck_cd) (hd : zH) : Nat → ck_cd → Nat → fL_ → List Value → zW → Prop
  | 0, _, _, _, _, _ => False
  | f + 1, suf, pc, lg, vs, A => match hd.find? (fun x => Nat.beq x.1 pc) with
    | some x => x.2 lg vs A
    | none => match ck_sfxN code suf pc with
      | some y => zstepG T Sp Post (zwl T Sp Post code hd f y.2.2.2) y.2.1 y.2.2.1 y.1 lg vs A
      | none => False
def zwh (T : fT) (Sp : zP) (Post : Option Value → zW → Prop) (code : ck_cd) (hd : zH) (f pc : Nat) (lg : fL_) (vs : List Value) (A : zW) : Prop := match ck_fndN code pc with
  | some y => zstepG T Sp Post (zwl T Sp Post code hd f y.2.2.2) y.2.1 y.2.2.1 y.1 lg vs A
  | none => False
/-- a method does what is said -/
def zdo (r : fR) (P : zQ) : Prop := ∀ (As : List Value) (ws : va_W) (sh : List Nat) (rv : Option Value) (ws' : va_W) (sh' : List Nat), r As ws sh rv ws' sh' → zx ws ws' ∧ ∀ (A : zW) (Us : List Value) (K : Option Value → zW → Prop), zA A ws sh → zvs ws As Us → P Us A K → ∃ (A' : zW) (u : Option Value), zA A' ws' sh' ∧ zvs ws' rv.toList u.toList ∧ K u A'
def zsp (T : fT) (Sp : zP) : Prop := ∀ x ∈ Sp, (T.2.2.2.2.2.1 x.1).1 = x.2.1 ∧ zdo (T.2.2.2.2.2.1 x.1).2 x.2.2
/-! a world by places follows the machine's -/
theorem zer.mono {A A' : zW} {ws ws' : va_W} {j : Nat} {e : va_E} (h : zer A ws j e) (hk : zkd A' j = zkd A j) (hI : ∀ i, zI A' j i = zI A j i) (hJ : ∀ i, zJ A' j i = zJ A j i) (hF : ∀ i, zF A' j i = zF A j i) (hR : ∀ i, zR A' j i = zR A j i) (hx : zx ws ws') : zer A' ws' j e := by
  obtain (⟨cA, n, f | f | f | f | f⟩ | o) := e
  · exact ⟨hk.trans h.1, fun i => (hI i).trans (h.2 i)⟩
  · exact ⟨hk.trans h.1, fun i => (hJ i).trans (h.2 i)⟩
  · exact ⟨hk.trans h.1, trivial⟩
  · exact ⟨hk.trans h.1, trivial⟩
  · refine ⟨hk.trans h.1, fun i hi => ?_⟩
    unfold zrl
    rw [hR]
    exact (h.2 i hi).mv hx
  · refine ⟨hk.trans h.1, fun k v hv => ?_⟩
    unfold zfl
    rw [hF]
    exact (h.2 k v hv).mv hx
theorem zx_set {ws : va_W} {q p : Nat} {e e' : va_E} (hq : ws[q]? = some (p, e)) : zx ws (ws.set q (p, e')) := fun j p' e1 h => by
  by_cases hj : q = j
  · subst hj
    rw [hq] at h
    have h := Option.some.inj h
    refine ⟨e', ?_⟩
    have e1 : p = p' := congrArg Prod.fst h
    rw [List.getElem?_set_self (List.getElem?_eq_some_iff.mp hq).1, e1]
  · exact ⟨e1, by rw [List.getElem?_set_ne hj]; exact h⟩
/-- a cell written -/
theorem zA.put {A A' : zW} {ws : va_W} {sh : List Nat} {q p : Nat} {e e' : va_E} (h : zA A ws sh) (hq : ws[q]? = some (p, e)) (hN : zN A' = zN A) (hK : ∀ j, zK A' j = zK A j) (hI : ∀ j i, j ≠ q → zI A' j i = zI A j i) (hJ : ∀ j i, j ≠ q → zJ A' j i = zJ A j i) (hF : ∀ j i, j ≠ q → zF A' j i = zF A j i) (hR : ∀ j i, j ≠ q → zR A' j i = zR A j i) (he : zer A' (ws.set q (p, e')) q e') : zA A' (ws.set q (p, e')) sh := by
  obtain ⟨h1, ⟨h2, h3, h4⟩, h5⟩ := h
  have hlt := (List.getElem?_eq_some_iff.mp hq).1
  have hty : ∀ j, zty A' j = zty A j := fun j => by
    unfold zty
    rw [hK]
  have hkd : ∀ j, zkd A' j = zkd A j := fun j => by
    unfold zkd
    rw [hK]
  refine ⟨h1.set hq, ⟨by rw [List.length_set]; exact h2, by rw [hN, List.length_set]; exact h3, by rw [hN]; exact h4⟩, fun j p' e1 hj => ?_⟩
  by_cases ej : q = j
  · subst ej
    rw [List.getElem?_set_self hlt] at hj
    have hj := Option.some.inj hj
    have e2 : e' = e1 := congrArg Prod.snd hj
    subst e2
    exact ⟨by rw [hty]; exact (h5 q p e hq).1, he⟩
  · rw [List.getElem?_set_ne ej] at hj
    have nj : j ≠ q := fun z => ej z.symm
    obtain ⟨g1, g2⟩ := h5 j p' e1 hj
    exact ⟨by rw [hty]; exact g1, g2.mono (hkd j) (fun i => hI j i nj) (fun i => hJ j i nj) (fun i => hF j i nj) (fun i => hR j i nj) (zx_set hq)⟩
theorem zuI_ne {A : zW} {q i j x : Nat} {v : Int32} (h : j ≠ q) : zI (zuI A q i v) j x = zI A j x := by
  show (bif Nat.beq j q && Nat.beq x i then v else zI A j x) = _
  rw [nbF h]
  rfl
theorem zuJ_ne {A : zW} {q i j x : Nat} {v : Int64} (h : j ≠ q) : zJ (zuJ A q i v) j x = zJ A j x := by
  show (bif Nat.beq j q && Nat.beq x i then v else zJ A j x) = _
  rw [nbF h]
  rfl
theorem zuF_ne {A : zW} {q i j x : Nat} {v : Value} (h : j ≠ q) : zF (zuF A q i v) j x = zF A j x := by
  show (bif Nat.beq j q && Nat.beq x i then v else zF A j x) = _
  rw [nbF h]
  rfl
theorem zuR_ne {A : zW} {q i j x : Nat} {v : Value} (h : j ≠ q) : zR (zuR A q i v) j x = zR A j x := by
  show (bif Nat.beq j q && Nat.beq x i then v else zR A j x) = _
  rw [nbF h]
  rfl
theorem zuI_x {A : zW} {q i j x : Nat} {v : Int32} : zI (zuI A q i v) j x = if j = q ∧ x = i then v else zI A j x := by
  by_cases h1 : j = q
  · by_cases h2 : x = i
    · rw [if_pos ⟨h1, h2⟩]
      show (bif Nat.beq j q && Nat.beq x i then v else zI A j x) = _
      rw [h1, h2, nbT, nbT]
      rfl
    · rw [if_neg (fun z => h2 z.2)]
      show (bif Nat.beq j q && Nat.beq x i then v else zI A j x) = _
      rw [nbF h2, Bool.and_false]
      rfl
  · rw [if_neg (fun z => h1 z.1)]
    exact zuI_ne h1
theorem zuJ_x {A : zW} {q i j x : Nat} {v : Int64} : zJ (zuJ A q i v) j x = if j = q ∧ x = i then v else zJ A j x := by
  by_cases h1 : j = q
  · by_cases h2 : x = i
    · rw [if_pos ⟨h1, h2⟩]
      show (bif Nat.beq j q && Nat.beq x i then v else zJ A j x) = _
      rw [h1, h2, nbT, nbT]
      rfl
    · rw [if_neg (fun z => h2 z.2)]
      show (bif Nat.beq j q && Nat.beq x i then v else zJ A j x) = _
      rw [nbF h2, Bool.and_false]
      rfl
  · rw [if_neg (fun z => h1 z.1)]
    exact zuJ_ne h1
theorem zuF_x {A : zW} {q i j x : Nat} {v : Value} : zF (zuF A q i v) j x = if j = q ∧ x = i then v else zF A j x := by
  by_cases h1 : j = q
  · by_cases h2 : x = i
    · rw [if_pos ⟨h1, h2⟩]
      show (bif Nat.beq j q && Nat.beq x i then v else zF A j x) = _
      rw [h1, h2, nbT, nbT]
      rfl
    · rw [if_neg (fun z => h2 z.2)]
      show (bif Nat.beq j q && Nat.beq x i then v else zF A j x) = _
      rw [nbF h2, Bool.and_false]
      rfl
  · rw [if_neg (fun z => h1 z.1)]
    exact zuF_ne h1
theorem zuR_x {A : zW} {q i j x : Nat} {v : Value} : zR (zuR A q i v) j x = if j = q ∧ x = i then v else zR A j x := by
  by_cases h1 : j = q
  · by_cases h2 : x = i
    · rw [if_pos ⟨h1, h2⟩]
      show (bif Nat.beq j q && Nat.beq x i then v else zR A j x) = _
      rw [h1, h2, nbT, nbT]
      rfl
    · rw [if_neg (fun z => h2 z.2)]
      show (bif Nat.beq j q && Nat.beq x i then v else zR A j x) = _
      rw [nbF h2, Bool.and_false]
      rfl
  · rw [if_neg (fun z => h1 z.1)]
    exact zuR_ne h1
theorem zA.at_ {A : zW} {ws : va_W} {sh : List Nat} {q p j : Nat} {e e' : va_E} (h : zA A ws sh) (hq : ws[q]? = some (p, e)) (hj : ws[j]? = some (p, e')) : j = q := h.1 j q _ _ hj hq rfl
theorem zA.putF {A : zW} {ws : va_W} {sh : List Nat} {q p ci k : Nat} {fs : List Value} {v u : Value} (h : zA A ws sh) (hq : ws[q]? = some (p, .inr (ci, fs))) (hz : zc q k = 0) (hu : zvr ws v u) : zA (zuF A q k u) (ws.set q (p, .inr (ci, fs.set k v))) sh := by
  refine h.put hq rfl (fun _ => rfl) (fun _ _ _ => rfl) (fun _ _ _ => rfl) (fun j i hj => zuF_ne hj) (fun _ _ _ => rfl) ?_
  obtain ⟨-, h1, h2⟩ := h.2.2 q p _ hq
  refine ⟨h1, fun i v' hv' => ?_⟩
  have hv' : (fs.set k v)[i]? = some v' := hv'
  unfold zfl
  rw [zuF_x]
  by_cases e : k = i
  · subst e
    rw [List.getElem?_set] at hv'
    rw [if_pos rfl] at hv'
    split at hv'
    · have hv' := Option.some.inj hv'
      subst hv'
      rw [if_pos ⟨rfl, rfl⟩, hz]
      exact hu.mv (zx_set hq)
    · cases hv'
  · rw [List.getElem?_set_ne e] at hv'
    rw [if_neg (fun z => e z.2.symm)]
    exact (h2 i v' hv').mv (zx_set hq)
theorem zA.putI {A : zW} {ws : va_W} {sh : List Nat} {q p n k : Nat} {cA : ClassId} {f : Nat → Int32} {v : Int32} (h : zA A ws sh) (hq : ws[q]? = some (p, .inl (cA, n, .inl f))) : zA (zuI A q k v) (ws.set q (p, .inl (cA, n, .inl (upd f k v)))) sh := by
  refine h.put hq rfl (fun _ => rfl) (fun j i hj => zuI_ne hj) (fun _ _ _ => rfl) (fun _ _ _ => rfl) (fun _ _ _ => rfl) ?_
  obtain ⟨-, h1, h2⟩ := h.2.2 q p _ hq
  refine ⟨h1, fun i => ?_⟩
  rw [zuI_x]
  show _ = if i = k then v else f i
  by_cases e : i = k
  · rw [if_pos ⟨rfl, e⟩, if_pos e]
  · rw [if_neg (fun z => e z.2), if_neg e]
    exact h2 i
theorem zA.putJ {A : zW} {ws : va_W} {sh : List Nat} {q p n k : Nat} {cA : ClassId} {f : Nat → Int64} {v : Int64} (h : zA A ws sh) (hq : ws[q]? = some (p, .inl (cA, n, .inr (.inl f)))) : zA (zuJ A q k v) (ws.set q (p, .inl (cA, n, .inr (.inl (vp_updL f k v))))) sh := by
  refine h.put hq rfl (fun _ => rfl) (fun _ _ _ => rfl) (fun j i hj => zuJ_ne hj) (fun _ _ _ => rfl) (fun _ _ _ => rfl) ?_
  obtain ⟨-, h1, h2⟩ := h.2.2 q p _ hq
  refine ⟨h1, fun i => ?_⟩
  rw [zuJ_x]
  show _ = if i = k then v else f i
  by_cases e : i = k
  · rw [if_pos ⟨rfl, e⟩, if_pos e]
  · rw [if_neg (fun z => e z.2), if_neg e]
    exact h2 i
theorem zA.putR {A : zW} {ws : va_W} {sh : List Nat} {q p n k : Nat} {cA : ClassId} {f : Nat → Option Nat} {v : Option Nat} {u : Value} (h : zA A ws sh) (hq : ws[q]? = some (p, .inl (cA, n, .inr (.inr (.inr (.inr f)))))) (hz : zc q k = 0) (hu : zvr ws (va_rf v) u) : zA (zuR A q k u) (ws.set q (p, .inl (cA, n, .inr (.inr (.inr (.inr (va_up f k v))))))) sh := by
  refine h.put hq rfl (fun _ => rfl) (fun _ _ _ => rfl) (fun _ _ _ => rfl) (fun _ _ _ => rfl) (fun j i hj => zuR_ne hj) ?_
  obtain ⟨-, h1, h2⟩ := h.2.2 q p _ hq
  refine ⟨h1, fun i hi => ?_⟩
  unfold zrl
  rw [zuR_x]
  show zvr _ (va_rf (if i = k then v else f i)) _
  by_cases e : i = k
  · subst e
    rw [if_pos rfl, if_pos ⟨rfl, rfl⟩, hz]
    exact hu.mv (zx_set hq)
  · rw [if_neg e, if_neg (fun z => e z.2)]
    exact (h2 i hi).mv (zx_set hq)
theorem zx_app {ws : va_W} {x : Nat × va_E} : zx ws (ws ++ [x]) := fun j p e h => ⟨e, by rw [List.getElem?_append_left (List.getElem?_eq_some_iff.mp h).1]; exact h⟩
theorem zA.new {A : zW} {ws : va_W} {sh : List Nat} {q ci t n : Nat} {ty : Nat → FieldType} (h : zA A ws sh) (hd : f_dj (ws ++ [(q, .inr (ci, (List.range n).map fun j => defaultValue (ty j)))])) : zA (zuN A ci t (fun j => defaultValue (ty j))) (ws ++ [(q, .inr (ci, (List.range n).map fun j => defaultValue (ty j)))]) (sh ++ [t]) := by
  obtain ⟨h1, ⟨h2, h3, h4⟩, h5⟩ := h
  have n1 : Nat.beq (zN A) (zN A) = true := nbT _
  have hlt : Nat.blt (zN A) 385 = false := nltF h4
  refine ⟨hd, ⟨by rw [List.length_append, List.length_append, h2]; rfl, by rw [List.length_append]; show zN A + 1 = ws.length + 1; rw [h3], by show 385 ≤ zN A + 1; omega⟩, fun j p e hj => ?_⟩
  by_cases hl : j < ws.length
  · have hjn : Nat.beq j (zN A) = false := nbF (by omega)
    rw [List.getElem?_append_left hl] at hj
    obtain ⟨g1, g2⟩ := h5 j p e hj
    have hK : zK (zuN A ci t (fun j => defaultValue (ty j))) j = zK A j := by
      show (bif Nat.beq j (zN A) then _ else zK A j) = _
      rw [hjn]
      rfl
    have hty : zty (zuN A ci t (fun j => defaultValue (ty j))) j = zty A j := by
      unfold zty
      rw [hK]
    have hkd : zkd (zuN A ci t (fun j => defaultValue (ty j))) j = zkd A j := by
      unfold zkd
      rw [hK]
    refine ⟨?_, g2.mono hkd (fun _ => rfl) (fun _ => rfl) (fun i => ?_) (fun _ => rfl) zx_app⟩
    · rw [List.getElem?_append_left (by omega), hty]
      exact g1
    · show (bif Nat.beq j (zN A) then _ else zF A j i) = _
      rw [hjn]
      rfl
  · rw [List.getElem?_append_right (by omega)] at hj
    have hjl : j - ws.length = 0 := by
      have := (List.getElem?_eq_some_iff.mp hj).1
      simp at this
      omega
    rw [hjl] at hj
    have hj := Option.some.inj hj
    have ej : j = zN A := by omega
    subst ej
    have e1 : (.inr (ci, (List.range n).map fun j => defaultValue (ty j)) : va_E) = e := congrArg Prod.snd hj
    subst e1
    have hK : zK (zuN A ci t (fun j => defaultValue (ty j))) (zN A) = (ci, t) := by
      show (bif Nat.beq (zN A) (zN A) then (ci, t) else _) = _
      rw [n1]
      rfl
    have hz : ∀ k, zc (zN A) k = 0 := fun k => by
      unfold zc
      rw [hlt]
      rfl
    refine ⟨?_, ?_, fun k v hv => ?_⟩
    · rw [List.getElem?_append_right (by omega), show zN A - sh.length = 0 by omega]
      unfold zty
      rw [hlt, hK]
      rfl
    · unfold zkd
      rw [hlt, hK]
      rfl
    · unfold zfl
      rw [hz]
      show zvr _ v (bif Nat.beq (zN A) (zN A) then defaultValue (ty k) else _)
      rw [n1]
      show zvr _ v (defaultValue (ty k))
      have hv : ((List.range n).map fun j => defaultValue (ty j))[k]? = some v := hv
      rw [List.getElem?_map] at hv
      have hk : v = defaultValue (ty k) := by
        cases hr : (List.range n)[k]? with
        | none =>
          rw [hr] at hv
          cases hv
        | some y =>
          rw [hr] at hv
          have e2 := (List.getElem?_eq_some_iff.mp hr).2
          rw [List.getElem_range] at e2
          rw [← Option.some.inj hv, ← e2]
      rw [hk]
      cases ty k <;> exact rfl
