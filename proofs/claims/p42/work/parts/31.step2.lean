noncomputable section
def ck_aso (M : ck_Me) (S : ck_S) (i : Nat) (v : ck_V) (t : Nat) : Bool := match (mTT M)[t]? with
  | some td => td.1 == 3 && (ck_bd M S i td.2.1 && ((mWr M).contains (t, 0) && match td.2.2.2 with
      | [T] => (v.1 == 4 || v.2.2.all (fun u => T.2.2.2.contains u && match (mTT M)[u]? with
          | some ud => ud.1 == 0 && (mal M).contains (td.2.2.1, ud.2.1)
          | none => false)) && (v.1 == 2 || ((v.1 == 3 || v.1 == 4) && T.1 == 3)) && (T.1 == 2 || T.1 == 3)
      | _ => false))
  | none => false
def ck_aast (M : ck_Me) (S : ck_S) (k : ck_S → Bool) : Bool := match S.2.1 with
  | v :: i :: r :: st => i.1 == 0 && (r.1 == 2 && (r.2.2.all (ck_aso M S i.2.1 v) && k (ck_ss S st)))
  | _ => false
def ck_isn (M : ck_Me) (n : Nat) (t : Nat) : Bool := match (mTT M)[t]? with
  | some td => (td.1 == 1 || (td.1 == 2 || (td.1 == 3 || (td.1 == 4 || td.1 == 5)))) && td.2.1 == n
  | none => false
def ck_len (M : ck_Me) (S : ck_S) (k : ck_S → Bool) : Bool := match S.2.1 with
  | r :: st => if r.1 = 5 then k (ck_ss S ((0, r.2.1, []) :: st)) else if r.1 = 6 then k (ck_new S st 0 [] (6, 6) []) else
    r.1 == 2 && (match r.2.2 with
      | t :: _ => (match (mTT M)[t]? with
        | some td => decide (td.2.1 < 2147483648) && (r.2.2.all (ck_isn M td.2.1) && k (ck_new S st 0 [] (td.2.1, td.2.1) []))
        | none => false)
      | [] => false)
  | [] => false
/-- the script's place i -/
def ck_sld (M : ck_Me) (S : ck_S) (k : ck_S → Bool) : Bool := match S.2.1 with
  | i :: r :: st => i.1 == 0 && (r.1 == 5 && (ck_ent S.2.2.2.1 S.2.2.2.2.1 (mF M) 0 i.2.1 0 && (ck_ent S.2.2.2.1 S.2.2.2.2.1 (mF M) i.2.1 r.2.1 (-1) &&
      (match S.2.2.1.find? (fun m => m.1 == 0 && (m.2.1 == i.2.1 && m.2.2.1 == 0)) with
        | some m => k (ck_ss S ((0, m.2.2.2.1, []) :: st))
        | none => k (S.1, (0, S.2.2.2.1.length, []) :: st, (0, i.2.1, (0, S.2.2.2.1.length, [])) :: S.2.2.1, S.2.2.2.1 ++ [ck_top 32], S.2.2.2.2)))))
  | _ => false
def ck_wld (M : ck_Me) (S : ck_S) (k : ck_S → Bool) : Bool := match S.2.1 with
  | i :: r :: st => i.1 == 0 && (r.1 == 6 && (ck_bd M S i.2.1 6 && k (ck_new S st 1 [] (ck_top 64) [])))
  | _ => false
def ck_dft (t : ck_T) : Bool := match t.1 with
  | 0 => decide (t.2.1 ≤ 0) && decide (0 ≤ t.2.2.1)
  | 3 => true
  | _ => false
def ck_mk (M : ck_Me) (i : Nat) (S : ck_S) (k : ck_S → Bool) : Bool := match (mnw M).find? (fun x => x.1 == i) with
  | some x => (match (mTT M)[x.2.2.1]? with
    | some td => td.1 == 0 && (td.2.1 == x.2.1 && (td.2.2.2.length == x.2.2.2 && (td.2.2.2.all ck_dft && (!((mSG M).contains x.2.2.1) && (decide (S.2.2.2.2.2.1 + 1 ≤ (mRm M).1) && (decide (S.2.2.2.2.2.2 + x.2.2.2 ≤ (mRm M).2) &&
        k (S.1, (2, S.2.2.2.1.length, [x.2.2.1]) :: S.2.1, S.2.2.1.filter (fun m => !(m.1 == x.2.2.1)), S.2.2.2.1 ++ [(1, 0)], S.2.2.2.2.1, S.2.2.2.2.2.1 + 1, S.2.2.2.2.2.2 + x.2.2.2)))))))
    | none => false)
  | none => false
def ck_ty0 (M : ck_Me) (t : Nat) : Option Nat := match (mTT M)[t]? with
  | some td => if td.1 = 0 then some td.2.1 else none
  | none => none
def ck_iof (M : ck_Me) (i r t : Nat) : Bool := match ck_ty0 M t with
  | some ci => (mil M).contains (i, ci, r)
  | none => false
/-- instanceof: both ways, by the types -/
def ck_ins (M : ck_Me) (i : Nat) (S : ck_S) (k : ck_S → Bool) : Bool := match S.2.1 with
  | r :: st => r.1 == 2 && (r.2.2.all (fun t => ck_iof M i 1 t || ck_iof M i 0 t) &&
      ((match r.2.2.filter (ck_iof M i 1) with
        | [] => true
        | ts => k (ck_cst (ck_subS r.2.1 (2, r.2.1, ts) (ck_ss S st)) 0 1)) &&
       (match r.2.2.filter (fun t => !(ck_iof M i 1 t)) with
        | [] => true
        | ts => k (ck_cst (ck_subS r.2.1 (2, r.2.1, ts) (ck_ss S st)) 0 0))))
  | [] => false
def ck_cas (M : ck_Me) (i : Nat) (S : ck_S) (k : ck_S → Bool) : Bool := match S.2.1 with
  | r :: _ => r.1 == 2 && (r.2.2.all (fun t => match ck_ty0 M t with
      | some ci => (mxl M).contains (i, ci)
      | none => false) && k S)
  | [] => false
def ck_nul (S : ck_S) (kt kf : ck_S → Bool) : Bool := match S.2.1 with
  | r :: st => if r.1 = 2 then kf (ck_ss S st) else if r.1 = 4 then kt (ck_ss S st) else
      r.1 == 3 && (kf (ck_subS r.2.1 (2, r.2.1, r.2.2) (ck_ss S st)) && kt (ck_subS r.2.1 (4, r.2.1, []) (ck_ss S st)))
  | [] => false
def ck_inv (M : ck_Me) (i : Nat) (S : ck_S) (k : ck_S → Bool) : Bool := match (mvl M).find? (fun x => x.1 == i) with
  | some x => if x.2.1 = 0 then (mvl M).any (fun y => y.1 == i && (y.2.1 == 0 && ck_call (mF M) (mWr M) (mRm M) S y.2.2.1 y.2.2.2 k)) else
      decide (1 ≤ x.2.2.1) && (match S.2.1[x.2.2.1 - 1]? with
        | some r => r.1 == 2 && r.2.2.all (fun t => (mvl M).any (fun y => (y.1 == i && y.2.1 == t) && (y.2.2.1 == x.2.2.1 && (!(t == 0) && ck_call (mF M) (mWr M) (mRm M) (if r.2.2 = [t] then S else ck_subS r.2.1 (2, r.2.1, [t]) S) x.2.2.1 y.2.2.2 k))))
        | none => false)
  | none => false
def ck_un (S : ck_S) (f : ck_V → List ck_V → Bool) : Bool := match S.2.1 with
  | v :: st => f v st
  | [] => false
/-- the step; kr: what is asked at the end (0 void, 1 int, 2 long, 3 reference) -/
def ck_step (M : ck_Me) (kr : Nat → ck_S → Bool) (k : ck_cont) (S : ck_S) (pc : Nat) (ins : Instr) (len : Nat) : Bool :=
  match ins with
  | .iconst v => len == 1 && (decide (-2147483648 ≤ v ∧ v < 2147483648) && k (ck_cst S 0 v) (pc + 1))
  | .bipush v => len == 2 && (decide (-128 ≤ v ∧ v < 128) && k (ck_cst S 0 v) (pc + 2))
  | .sipush v => len == 3 && (decide (-32768 ≤ v ∧ v < 32768) && k (ck_cst S 0 v) (pc + 3))
  | .lconst v => len == 1 && k (ck_cst S 1 (v : Nat)) (pc + 1)
  | .ldc i => len == 2 && (match (mkl M).find? (fun x => x.1 == i && x.2.1 == 0) with
    | some x => k (ck_cst S 0 x.2.2) (pc + 2)
    | none => false)
  | .ldc_w i => len == 3 && (match (mkl M).find? (fun x => x.1 == i && x.2.1 == 0) with
    | some x => k (ck_cst S 0 x.2.2) (pc + 3)
    | none => false)
  | .ldc2_w i => len == 3 && (match (mkl M).find? (fun x => x.1 == i && x.2.1 == 1) with
    | some x => k (ck_cst S 1 x.2.2) (pc + 3)
    | none => false)
  | .iload_n i => len == 1 && ck_ld S i (fun v => v.1 == 0) (fun S => k S (pc + 1))
  | .iload i => len == 2 && ck_ld S i (fun v => v.1 == 0) (fun S => k S (pc + 2))
  | .lload_n i => len == 1 && ck_ld S i (fun v => v.1 == 1) (fun S => k S (pc + 1))
  | .lload i => len == 2 && ck_ld S i (fun v => v.1 == 1) (fun S => k S (pc + 2))
  | .aload_n i => len == 1 && ck_ld S i ck_isr (fun S => k S (pc + 1))
  | .aload i => len == 2 && ck_ld S i ck_isr (fun S => k S (pc + 2))
  | .istore_n i => len == 1 && ck_sto (mnL M) S i (fun v => v.1 == 0) (fun S => k S (pc + 1))
  | .istore i => len == 2 && ck_sto (mnL M) S i (fun v => v.1 == 0) (fun S => k S (pc + 2))
  | .astore_n i => len == 1 && ck_sto (mnL M) S i ck_isr (fun S => k S (pc + 1))
  | .astore i => len == 2 && ck_sto (mnL M) S i ck_isr (fun S => k S (pc + 2))
  | .lstore_n i => len == 1 && ck_sto2 (mnL M) S i (fun S => k S (pc + 1))
  | .lstore i => len == 2 && ck_sto2 (mnL M) S i (fun S => k S (pc + 2))
  | .iinc i c => len == 3 && (decide (-32768 ≤ c ∧ c < 32768) && (decide (i < mnL M) && match ck_look S.1 i with
    | some v => v.1 == 0 && (let S1 := ck_cst S 0 c
        match ck_binS 32 0 S1 S.2.1 0 v.2.1 S.2.2.2.1.length with
        | some S' => (match S'.2.1 with
          | w :: _ => k (ck_st1 S.1 i w, S.2.1, S'.2.2) (pc + 3)
          | [] => false)
        | none => false)
    | none => false))
  | .iadd => len == 1 && ck_b2 32 0 0 S (fun S => k S (pc + 1))
  | .isub => len == 1 && ck_b2 32 1 0 S (fun S => k S (pc + 1))
  | .imul => len == 1 && ck_b2 32 2 0 S (fun S => k S (pc + 1))
  | .iand => len == 1 && ck_b2 32 3 0 S (fun S => k S (pc + 1))
  | .ior => len == 1 && ck_b2 32 4 0 S (fun S => k S (pc + 1))
  | .ixor => len == 1 && ck_b2 32 5 0 S (fun S => k S (pc + 1))
  | .ishl => len == 1 && ck_b2 32 6 0 S (fun S => k S (pc + 1))
  | .ishr => len == 1 && ck_b2 32 7 0 S (fun S => k S (pc + 1))
  | .ladd => len == 1 && ck_b2 64 0 1 S (fun S => k S (pc + 1))
  | .lsub => len == 1 && ck_b2 64 1 1 S (fun S => k S (pc + 1))
  | .lmul => len == 1 && ck_b2 64 2 1 S (fun S => k S (pc + 1))
  | .land => len == 1 && ck_b2 64 3 1 S (fun S => k S (pc + 1))
  | .lor => len == 1 && ck_b2 64 4 1 S (fun S => k S (pc + 1))
  | .lxor => len == 1 && ck_b2 64 5 1 S (fun S => k S (pc + 1))
  | .idiv => len == 1 && ck_un S (fun b _ => match S.2.2.2.1[b.2.1]? with
    | some x => (decide (0 < x.1) && decide (x.1 ≤ x.2)) && ck_b2 32 9 0 S (fun S => k S (pc + 1))
    | none => false)
  | .irem => len == 1 && ck_un S (fun b _ => match S.2.2.2.1[b.2.1]? with
    | some x => (decide (0 < x.1) && decide (x.1 ≤ x.2)) && ck_b2 32 10 0 S (fun S => k S (pc + 1))
    | none => false)
  | .iushr => len == 1 && (match S.2.1 with
    | b :: a :: st => b.1 == 0 && (a.1 == 0 && k (ck_new S st 0 [] (ck_top 32) []) (pc + 1))
    | _ => false)
  | .lushr => len == 1 && (match S.2.1 with
    | b :: a :: st => b.1 == 0 && (a.1 == 1 && k (ck_new S st 1 [] (ck_top 64) []) (pc + 1))
    | _ => false)
  | .lshr => len == 1 && (match S.2.1 with
    | b :: a :: st => b.1 == 0 && (a.1 == 1 && k (ck_new S st 1 [] (ck_top 64) []) (pc + 1))
    | _ => false)
  | .lshl => len == 1 && (match S.2.1 with
    | b :: a :: st => b.1 == 0 && (a.1 == 1 && (match S.2.2.2.1[a.2.1]?, S.2.2.2.1[b.2.1]? with
      | some x, some y => decide (x.1 ≤ x.2 ∧ y.1 ≤ y.2) && k (ck_new S st 1 [] (ck_bin 64 6 x y) []) (pc + 1)
      | _, _ => false))
    | _ => false)
  | .ineg => len == 1 && (match S.2.1 with
    | a :: st => a.1 == 0 && (match S.2.2.2.1[a.2.1]? with
      | some x => decide (x.1 ≤ x.2) && k (ck_new S st 0 [] (ck_cl 32 (-x.2, -x.1)) []) (pc + 1)
      | none => false)
    | _ => false)
  | .i2l => len == 1 && ck_un S (fun v st => v.1 == 0 && k (ck_ss S ((1, v.2.1, []) :: st)) (pc + 1))
  | .l2i => len == 1 && ck_un S (fun v st => v.1 == 1 && (match S.2.2.2.1[v.2.1]? with
    | some x => decide (x.1 ≤ x.2) && k (if -2147483648 ≤ x.1 ∧ x.2 < 2147483648 then ck_ss S ((0, v.2.1, []) :: st) else ck_new S st 0 [] (ck_top 32) []) (pc + 1)
    | none => false))
  | .i2b => len == 1 && ck_un S (fun v st => v.1 == 0 && k (ck_new S st 0 [] (-128, 127) []) (pc + 1))
  | .i2s => len == 1 && ck_un S (fun v st => v.1 == 0 && k (ck_new S st 0 [] (-32768, 32767) []) (pc + 1))
  | .lcmp => len == 1 && (match S.2.1 with
    | b :: a :: st => b.1 == 1 && (a.1 == 1 && k (ck_ss S ((7, a.2.1, [b.2.1]) :: st)) (pc + 1))
    | _ => false)
  | .aconst_null => len == 1 && k (ck_new S S.2.1 4 [] (1, 0) []) (pc + 1)
  | .dup => len == 1 && ck_un S (fun v st => ck_cat v == 1 && k (ck_ss S (v :: v :: st)) (pc + 1))
  | .pop => len == 1 && ck_un S (fun v st => ck_cat v == 1 && k (ck_ss S st) (pc + 1))
  | .pop2 => len == 1 && ck_un S (fun v st => v.1 == 1 && k (ck_ss S st) (pc + 1))
  | .dup2 => len == 1 && (match S.2.1 with
    | a :: b :: st => ck_cat a == 1 && (ck_cat b == 1 && k (ck_ss S (a :: b :: a :: b :: st)) (pc + 1))
    | _ => false)
  | .goto o => len == 3 && ck_tgt pc o (k S)
  | .ifCond cd o => len == 3 && decide (0 ≤ (pc : Int) + o) && ck_un S (fun v st => if v.1 = 7 then (match v.2.2 with
      | [b] => ck_wc (mF M) cd v.2.1 b (ck_ss S st) (fun S => ck_tgt pc o (k S)) (fun S => k S (pc + 3))
      | _ => false) else v.1 == 0 && ck_wc (mF M) cd v.2.1 0 (ck_ss S st) (fun S => ck_tgt pc o (k S)) (fun S => k S (pc + 3)))
  | .if_icmp cd o => len == 3 && decide (0 ≤ (pc : Int) + o) && (match S.2.1 with
    | b :: a :: st => b.1 == 0 && (a.1 == 0 && ck_wc (mF M) cd a.2.1 b.2.1 (ck_ss S st) (fun S => ck_tgt pc o (k S)) (fun S => k S (pc + 3)))
    | _ => false)
  | .ifnull o => len == 3 && ck_nul S (fun S => ck_tgt pc o (k S)) (fun S => k S (pc + 3))
  | .ifnonnull o => len == 3 && ck_nul S (fun S => k S (pc + 3)) (fun S => ck_tgt pc o (k S))
  | .tableswitch d lo hi os => ck_un S (fun v st => v.1 == 0 && (decide (hi = lo + (os.size : Int) - 1) && (ck_sw v.2.1 lo (ck_ss S st) pc k os.toList &&
      (ck_iv v.2.1 (-2147483648) (lo - 1) (ck_ss S st) (fun S => ck_tgt pc d (k S)) && ck_iv v.2.1 (hi + 1) 2147483647 (ck_ss S st) (fun S => ck_tgt pc d (k S))))))
  | .getfield i => len == 3 && ck_get M i S (fun S => k S (pc + 3))
  | .putfield i => len == 3 && ck_put M i S (fun S => k S (pc + 3))
  | .getstatic i => len == 3 && ((mgl M).contains i && k (ck_new S S.2.1 6 [] (1, 0) []) (pc + 3))
  | .iaload => len == 1 && (match S.2.1 with
    | _ :: r :: _ => if r.1 = 5 then ck_sld M S (fun S => k S (pc + 1)) else ck_ald M 1 S (fun S => k S (pc + 1))
    | _ => false)
  | .laload => len == 1 && (match S.2.1 with
    | _ :: r :: _ => if r.1 = 6 then ck_wld M S (fun S => k S (pc + 1)) else ck_ald M 2 S (fun S => k S (pc + 1))
    | _ => false)
  | .baload => len == 1 && ck_ald M 4 S (fun S => k S (pc + 1))
  | .aaload => len == 1 && (match S.2.1 with
    | _ :: r :: _ => (match r.2.2 with
      | t :: _ => (match (mTT M)[t]? with
        | some td => if td.1 = 3 then ck_ald M 3 S (fun S => k S (pc + 1)) else ck_ald M 5 S (fun S => k S (pc + 1))
        | none => false)
      | [] => false)
    | _ => false)
  | .iastore => len == 1 && ck_ast M 1 S (fun S => k S (pc + 1))
  | .lastore => len == 1 && ck_ast M 2 S (fun S => k S (pc + 1))
  | .bastore => len == 1 && ck_ast M 4 S (fun S => k S (pc + 1))
  | .aastore => len == 1 && ck_aast M S (fun S => k S (pc + 1))
  | .arraylength => len == 1 && ck_len M S (fun S => k S (pc + 1))
  | .new i => len == 3 && ck_mk M i S (fun S => k S (pc + 3))
  | .instanceof i => len == 3 && ck_ins M i S (fun S => k S (pc + 3))
  | .checkcast i => len == 3 && ck_cas M i S (fun S => k S (pc + 3))
  | .invokevirtual i => len == 3 && ck_inv M (3 * i) S (fun S => k S (pc + 3))
  | .invokestatic i => len == 3 && ck_inv M (3 * i + 1) S (fun S => k S (pc + 3))
  | .invokespecial i => len == 3 && ck_inv M (3 * i + 2) S (fun S => k S (pc + 3))
  | .return_ => len == 1 && (match S.2.1 with
    | [] => kr 0 S
    | _ => false)
  | .ireturn => len == 1 && (match S.2.1 with
    | [v] => v.1 == 0 && kr 1 S
    | _ => false)
  | .lreturn => len == 1 && (match S.2.1 with
    | [v] => v.1 == 1 && kr 2 S
    | _ => false)
  | .areturn => len == 1 && (match S.2.1 with
    | [v] => (v.1 == 2 || (v.1 == 3 || v.1 == 4)) && kr 3 S
    | _ => false)
  | _ => false
end
