noncomputable section
/-! the makers' run, over code as a list of functions, lists by their own recursor -/
noncomputable def ck_lapp {α : Type} (l m : List α) : List α := @List.rec α (fun _ => List α) m (fun x _ ih => x :: ih) l
theorem ck_lapp_eq {α : Type} {m : List α} : ∀ {l : List α}, ck_lapp l m = l ++ m
  | [] => rfl
  | x :: l => congrArg (x :: ·) (ck_lapp_eq (m := m) (l := l))
noncomputable def ck_ln {α : Type} (l : List α) : Nat := @List.rec α (fun _ => Nat) 0 (fun _ _ ih => ih + 1) l
theorem ck_ln_eq {α : Type} : ∀ {l : List α}, ck_ln l = l.length
  | [] => rfl
  | _ :: l => congrArg (· + 1) (ck_ln_eq (l := l))
def mk_upG (c : mk_C) (i : Nat) (v : mk_V) : mk_C := (c.1, c.2.1, c.2.2.1, ck_lset (ck_lapp c.2.2.2 (List.replicate (i + 1 - ck_ln c.2.2.2) (mk_df c.1))) i v)
theorem mk_upG_f : @mk_upG = @mk_up := by
  funext c i v
  unfold mk_upG mk_up
  rw [ck_lset_eq, ck_lapp_eq, ck_ln_eq]
def mk_alG (S : mk_S) (st : List mk_V) (cs : List mk_C) (n k RC RS : Nat) (pc : Nat) : Option (mk_S × Nat) :=
  if S.2.2.2.1 + n ≤ RC ∧ S.2.2.2.2 + k ≤ RS then some ((S.1, (2, 0, ck_ln S.2.2.1) :: st, ck_lapp S.2.2.1 cs, S.2.2.2.1 + n, S.2.2.2.2 + k), pc) else none
theorem mk_alG_f : @mk_alG = @mk_al := by
  funext S st cs n k RC RS pc
  unfold mk_alG mk_al
  (try simp only [ck_nth_eq, ck_lset_eq, ck_lapp_eq, ck_ln_eq, mk_upG_f]) <;> (try rfl)
def mk_alenG (S : mk_S) (pc : Nat) : Option (mk_S × Nat) := match S.2.1 with
  | r :: st => if r.1 = 2 then (match ck_nth S.2.2.1 r.2.2 with
    | some c => if c.1 ≠ 0 ∧ c.2.2.1 < 100000 then some ((S.1, (1, (c.2.2.1 : Int), 0) :: st, S.2.2), pc) else none
    | none => none) else none
  | [] => none
theorem mk_alenG_f : @mk_alenG = @mk_alen := by
  funext S pc
  unfold mk_alenG mk_alen
  (try simp only [ck_nth_eq, ck_lset_eq, ck_lapp_eq, ck_ln_eq, mk_upG_f, mk_alG_f]) <;> (try rfl)
def mk_narG (T : mk_T) (S : mk_S) (pc : Nat) (a : ArrayType) : Option (mk_S × Nat) := match S.2.1, mk_at0 a with
  | v :: st, some x => if v.1 = 1 ∧ 0 ≤ v.2.1 ∧ v.2.1 ≤ 60000 then mk_alG S st [(x.1, x.2, v.2.1.toNat, [])] 1 v.2.1.toNat (mRC0 T) (mRS0 T) pc else none
  | _, _ => none
theorem mk_narG_f : @mk_narG = @mk_nar := by
  funext T S pc a
  unfold mk_narG mk_nar
  (try simp only [ck_nth_eq, ck_lset_eq, ck_lapp_eq, ck_ln_eq, mk_upG_f, mk_alG_f]) <;> (try rfl)
def mk_anrG (T : mk_T) (S : mk_S) (pc idx : Nat) : Option (mk_S × Nat) := match S.2.1, (man0 T).find? (fun x => x.1 == idx) with
  | v :: st, some x => if v.1 = 1 ∧ 0 ≤ v.2.1 ∧ v.2.1 ≤ 60000 then mk_alG S st [(3, x.2, v.2.1.toNat, [])] 1 v.2.1.toNat (mRC0 T) (mRS0 T) pc else none
  | _, _ => none
theorem mk_anrG_f : @mk_anrG = @mk_anr := by
  funext T S pc idx
  unfold mk_anrG mk_anr
  (try simp only [ck_nth_eq, ck_lset_eq, ck_lapp_eq, ck_ln_eq, mk_upG_f, mk_alG_f]) <;> (try rfl)
def mk_mnrG (T : mk_T) (S : mk_S) (pc idx : Nat) : Option (mk_S × Nat) := match S.2.1, (mmn0 T).find? (fun x => x.1 == idx) with
  | k :: n :: st, some x => if k.1 = 1 ∧ n.1 = 1 ∧ 0 ≤ k.2.1 ∧ 0 ≤ n.2.1 ∧ k.2.1 ≤ 60000 ∧ n.2.1 ≤ 60000 then
      mk_alG S st ((5, x.2, n.2.1.toNat, (List.range n.2.1.toNat).map (fun i => (2, 0, ck_ln S.2.2.1 + 1 + i))) :: List.replicate n.2.1.toNat (1, 0, k.2.1.toNat, [])) (1 + n.2.1.toNat) (n.2.1.toNat + n.2.1.toNat * k.2.1.toNat) (mRC0 T) (mRS0 T) pc else none
  | _, _ => none
theorem mk_mnrG_f : @mk_mnrG = @mk_mnr := by
  funext T S pc idx
  unfold mk_mnrG mk_mnr
  (try simp only [ck_nth_eq, ck_lset_eq, ck_lapp_eq, ck_ln_eq, mk_upG_f, mk_alG_f]) <;> (try rfl)
def mk_newG (T : mk_T) (S : mk_S) (pc idx : Nat) : Option (mk_S × Nat) := match (mnw0 T).find? (fun x => x.1 == idx) with
  | some x => if x.2.2.2.length = x.2.2.1 then mk_alG S S.2.1 [(0, x.2.1, x.2.2.1, x.2.2.2)] 1 x.2.2.1 (mRC0 T) (mRS0 T) pc else none
  | none => none
theorem mk_newG_f : @mk_newG = @mk_new := by
  funext T S pc idx
  unfold mk_newG mk_new
  (try simp only [ck_nth_eq, ck_lset_eq, ck_lapp_eq, ck_ln_eq, mk_upG_f, mk_alG_f]) <;> (try rfl)
def mk_getG (T : mk_T) (S : mk_S) (pc idx : Nat) : Option (mk_S × Nat) := match S.2.1 with
  | r :: st => if r.1 = 2 then (match ck_nth S.2.2.1 r.2.2 with
    | some c => if c.1 = 0 then (match (mfl0 T).find? (fun x => x.1 == idx && x.2.1 == c.2.1) with
      | some x => (match ck_nth c.2.2.2 x.2.2 with
        | some v => some ((S.1, v :: st, S.2.2), pc)
        | none => none)
      | none => none) else none
    | none => none) else none
  | [] => none
theorem mk_getG_f : @mk_getG = @mk_get := by
  funext T S pc idx
  unfold mk_getG mk_get
  (try simp only [ck_nth_eq, ck_lset_eq, ck_lapp_eq, ck_ln_eq, mk_upG_f, mk_alG_f]) <;> (try rfl)
def mk_putG (T : mk_T) (S : mk_S) (pc idx : Nat) : Option (mk_S × Nat) := match S.2.1 with
  | v :: r :: st => if r.1 = 2 then (match ck_nth S.2.2.1 r.2.2 with
    | some c => if c.1 = 0 then (match (mpl0 T).find? (fun x => x.1 == idx && x.2.1 == c.2.1) with
      | some x => if mk_pok x.2.2.2 v = true ∧ x.2.2.1 < c.2.2.1 then some ((S.1, st, ck_lset S.2.2.1 r.2.2 (0, c.2.1, c.2.2.1, ck_lset c.2.2.2 x.2.2.1 v), S.2.2.2), pc) else none
      | none => none) else none
    | none => none) else none
  | _ => none
theorem mk_putG_f : @mk_putG = @mk_put := by
  funext T S pc idx
  unfold mk_putG mk_put
  (try simp only [ck_nth_eq, ck_lset_eq, ck_lapp_eq, ck_ln_eq, mk_upG_f, mk_alG_f]) <;> (try rfl)
def mk_iastG (S : mk_S) (pc : Nat) : Option (mk_S × Nat) := match S.2.1 with
  | v :: i :: r :: st => if v.1 = 1 ∧ i.1 = 1 ∧ r.1 = 2 ∧ 0 ≤ i.2.1 then (match ck_nth S.2.2.1 r.2.2 with
    | some c => if c.1 = 1 ∧ i.2.1.toNat < c.2.2.1 then some ((S.1, st, ck_lset S.2.2.1 r.2.2 (mk_upG c i.2.1.toNat v), S.2.2.2), pc) else none
    | none => none) else none
  | _ => none
theorem mk_iastG_f : @mk_iastG = @mk_iast := by
  funext S pc
  unfold mk_iastG mk_iast
  (try simp only [ck_nth_eq, ck_lset_eq, ck_lapp_eq, ck_ln_eq, mk_upG_f, mk_alG_f]) <;> (try rfl)
def mk_aastG (T : mk_T) (S : mk_S) (pc : Nat) : Option (mk_S × Nat) := match S.2.1 with
  | v :: i :: r :: st => if v.1 = 2 ∧ i.1 = 1 ∧ r.1 = 2 ∧ 0 ≤ i.2.1 then (match ck_nth S.2.2.1 r.2.2, ck_nth S.2.2.1 v.2.2 with
    | some c, some o => if c.1 = 3 ∧ o.1 = 0 ∧ i.2.1.toNat < c.2.2.1 ∧ (mal0 T).contains (c.2.1, o.2.1) = true then some ((S.1, st, ck_lset S.2.2.1 r.2.2 (mk_upG c i.2.1.toNat v), S.2.2.2), pc) else none
    | _, _ => none) else none
  | _ => none
theorem mk_aastG_f : @mk_aastG = @mk_aast := by
  funext T S pc
  unfold mk_aastG mk_aast
  (try simp only [ck_nth_eq, ck_lset_eq, ck_lapp_eq, ck_ln_eq, mk_upG_f, mk_alG_f]) <;> (try rfl)
abbrev mg_stp : Type := mk_T → mk_S → Nat → Nat → Option (mk_S × Nat)
def mg_iconst (v : Int) (_ : mk_T) (S : mk_S) (pc : Nat) (l : Nat) : Option (mk_S × Nat) := if l = 1 then mk_cst S (pc + 1) v (mk_in32 v) else none
def mg_bipush (v : Int) (_ : mk_T) (S : mk_S) (pc : Nat) (l : Nat) : Option (mk_S × Nat) := if l = 2 then mk_cst S (pc + 2) v (decide (-128 ≤ v ∧ v ≤ 127)) else none
def mg_sipush (v : Int) (_ : mk_T) (S : mk_S) (pc : Nat) (l : Nat) : Option (mk_S × Nat) := if l = 3 then mk_cst S (pc + 3) v (decide (-32768 ≤ v ∧ v ≤ 32767)) else none
def mg_ldc (idx : Nat) (T : mk_T) (S : mk_S) (pc : Nat) (l : Nat) : Option (mk_S × Nat) := if l = 2 then (match (mkl0 T).find? (fun x => x.1 == idx && x.2.1 == 0) with
  | some x => mk_cst S (pc + 2) x.2.2 true
  | none => none) else none
def mg_iload_n (k : Fin 4) (_ : mk_T) (S : mk_S) (pc : Nat) (l : Nat) : Option (mk_S × Nat) := if l = 1 then mk_ld S (pc + 1) k mk_isi else none
def mg_iload (k : Nat) (_ : mk_T) (S : mk_S) (pc : Nat) (l : Nat) : Option (mk_S × Nat) := if l = 2 then mk_ld S (pc + 2) k mk_isi else none
def mg_aload_n (k : Fin 4) (_ : mk_T) (S : mk_S) (pc : Nat) (l : Nat) : Option (mk_S × Nat) := if l = 1 then mk_ld S (pc + 1) k mk_isr else none
def mg_istore_n (k : Fin 4) (T : mk_T) (S : mk_S) (pc : Nat) (l : Nat) : Option (mk_S × Nat) := if l = 1 then mk_sto (mnL0 T) S (pc + 1) k mk_isi else none
def mg_istore (k : Nat) (T : mk_T) (S : mk_S) (pc : Nat) (l : Nat) : Option (mk_S × Nat) := if l = 2 then mk_sto (mnL0 T) S (pc + 2) k mk_isi else none
def mg_astore_n (k : Fin 4) (T : mk_T) (S : mk_S) (pc : Nat) (l : Nat) : Option (mk_S × Nat) := if l = 1 then mk_sto (mnL0 T) S (pc + 1) k mk_isr else none
def mg_iinc (k : Nat) (c : Int) (T : mk_T) (S : mk_S) (pc : Nat) (l : Nat) : Option (mk_S × Nat) := if l = 3 then mk_inc (mnL0 T) S (pc + 3) k c else none
def mg_goto (off : Int) (_ : mk_T) (S : mk_S) (pc : Nat) (l : Nat) : Option (mk_S × Nat) := if l = 3 then mk_goto S ((pc : Int) + off) else none
def mg_if_icmp (cd : ClassFile.Cond) (off : Int) (_ : mk_T) (S : mk_S) (pc : Nat) (l : Nat) : Option (mk_S × Nat) := if l = 3 then mk_icmp S pc cd off else none
def mg_ishr (_ : mk_T) (S : mk_S) (pc : Nat) (l : Nat) : Option (mk_S × Nat) := if l = 1 then mk_shr S (pc + 1) else none
def mg_arraylength (_ : mk_T) (S : mk_S) (pc : Nat) (l : Nat) : Option (mk_S × Nat) := if l = 1 then mk_alenG S (pc + 1) else none
theorem mge_arraylength {T : mk_T} {S : mk_S} {pc l : Nat}  : mg_arraylength  T S pc l = mk_st T S pc (.arraylength ) l := by
  unfold mg_arraylength
  rw [mk_alenG_f]
  rfl
def mg_dup (_ : mk_T) (S : mk_S) (pc : Nat) (l : Nat) : Option (mk_S × Nat) := if l = 1 then mk_dup S (pc + 1) else none
def mg_newarray (a : ArrayType) (T : mk_T) (S : mk_S) (pc : Nat) (l : Nat) : Option (mk_S × Nat) := if l = 2 then mk_narG T S (pc + 2) a else none
theorem mge_newarray {T : mk_T} {S : mk_S} {pc l : Nat} {a : ArrayType} : mg_newarray a T S pc l = mk_st T S pc (.newarray a) l := by
  unfold mg_newarray
  rw [mk_narG_f]
  rfl
def mg_anewarray (idx : Nat) (T : mk_T) (S : mk_S) (pc : Nat) (l : Nat) : Option (mk_S × Nat) := if l = 3 then mk_anrG T S (pc + 3) idx else none
theorem mge_anewarray {T : mk_T} {S : mk_S} {pc l : Nat} {idx : Nat} : mg_anewarray idx T S pc l = mk_st T S pc (.anewarray idx) l := by
  unfold mg_anewarray
  rw [mk_anrG_f]
  rfl
def mg_multianewarray (idx : Nat) (d : Nat) (T : mk_T) (S : mk_S) (pc : Nat) (l : Nat) : Option (mk_S × Nat) := if l = 4 ∧ d = 2 then mk_mnrG T S (pc + 4) idx else none
theorem mge_multianewarray {T : mk_T} {S : mk_S} {pc l : Nat} {idx : Nat} {d : Nat} : mg_multianewarray idx d T S pc l = mk_st T S pc (.multianewarray idx d) l := by
  unfold mg_multianewarray
  rw [mk_mnrG_f]
  rfl
def mg_new (idx : Nat) (T : mk_T) (S : mk_S) (pc : Nat) (l : Nat) : Option (mk_S × Nat) := if l = 3 then mk_newG T S (pc + 3) idx else none
theorem mge_new {T : mk_T} {S : mk_S} {pc l : Nat} {idx : Nat} : mg_new idx T S pc l = mk_st T S pc (.new idx) l := by
  unfold mg_new
  rw [mk_newG_f]
  rfl
def mg_getfield (idx : Nat) (T : mk_T) (S : mk_S) (pc : Nat) (l : Nat) : Option (mk_S × Nat) := if l = 3 then mk_getG T S (pc + 3) idx else none
theorem mge_getfield {T : mk_T} {S : mk_S} {pc l : Nat} {idx : Nat} : mg_getfield idx T S pc l = mk_st T S pc (.getfield idx) l := by
  unfold mg_getfield
  rw [mk_getG_f]
  rfl
def mg_putfield (idx : Nat) (T : mk_T) (S : mk_S) (pc : Nat) (l : Nat) : Option (mk_S × Nat) := if l = 3 then mk_putG T S (pc + 3) idx else none
theorem mge_putfield {T : mk_T} {S : mk_S} {pc l : Nat} {idx : Nat} : mg_putfield idx T S pc l = mk_st T S pc (.putfield idx) l := by
  unfold mg_putfield
  rw [mk_putG_f]
  rfl
def mg_iastore (_ : mk_T) (S : mk_S) (pc : Nat) (l : Nat) : Option (mk_S × Nat) := if l = 1 then mk_iastG S (pc + 1) else none
theorem mge_iastore {T : mk_T} {S : mk_S} {pc l : Nat}  : mg_iastore  T S pc l = mk_st T S pc (.iastore ) l := by
  unfold mg_iastore
  rw [mk_iastG_f]
  rfl
def mg_aastore (T : mk_T) (S : mk_S) (pc : Nat) (l : Nat) : Option (mk_S × Nat) := if l = 1 then mk_aastG T S (pc + 1) else none
theorem mge_aastore {T : mk_T} {S : mk_S} {pc l : Nat}  : mg_aastore  T S pc l = mk_st T S pc (.aastore ) l := by
  unfold mg_aastore
  rw [mk_aastG_f]
  rfl
def mg_invokestatic (idx : Nat) (T : mk_T) (S : mk_S) (pc : Nat) (l : Nat) : Option (mk_S × Nat) := if l = 3 then mk_call T S (pc + 3) (3 * idx + 1) else none
def mg_invokespecial (idx : Nat) (T : mk_T) (S : mk_S) (pc : Nat) (l : Nat) : Option (mk_S × Nat) := if l = 3 then mk_call T S (pc + 3) (3 * idx + 2) else none
def mk_stG (i : Instr) : mg_stp := match i with
  | .iconst v => mg_iconst v
  | .bipush v => mg_bipush v
  | .sipush v => mg_sipush v
  | .ldc idx => mg_ldc idx
  | .iload_n k => mg_iload_n k
  | .iload k => mg_iload k
  | .aload_n k => mg_aload_n k
  | .istore_n k => mg_istore_n k
  | .istore k => mg_istore k
  | .astore_n k => mg_astore_n k
  | .iinc k c => mg_iinc k c
  | .goto off => mg_goto off
  | .if_icmp cd off => mg_if_icmp cd off
  | .ishr => mg_ishr
  | .arraylength => mg_arraylength
  | .dup => mg_dup
  | .newarray a => mg_newarray a
  | .anewarray idx => mg_anewarray idx
  | .multianewarray idx d => mg_multianewarray idx d
  | .new idx => mg_new idx
  | .getfield idx => mg_getfield idx
  | .putfield idx => mg_putfield idx
  | .iastore => mg_iastore
  | .aastore => mg_aastore
  | .invokestatic idx => mg_invokestatic idx
  | .invokespecial idx => mg_invokespecial idx
  | _ => fun _ _ _ _ => none
theorem mk_stG_eq {T : mk_T} {S : mk_S} {pc l : Nat} {i : Instr} : mk_stG i T S pc l = mk_st T S pc i l := by
  cases i with
  | arraylength  => exact mge_arraylength
  | newarray a => exact mge_newarray
  | anewarray idx => exact mge_anewarray
  | multianewarray idx d => exact mge_multianewarray
  | new idx => exact mge_new
  | getfield idx => exact mge_getfield
  | putfield idx => exact mge_putfield
  | iastore  => exact mge_iastore
  | aastore  => exact mge_aastore
  | _ => rfl
/-- an end of the method -/
def mk_isR (i : Instr) : Bool := match i with
  | .return_ => true
  | .ireturn => true
  | .areturn => true
  | _ => false
theorem mk_isR_f {T : mk_T} {rt l : Nat} {S : mk_S} {i : Instr} (h : mk_isR i = false) : mk_ret T rt i l S = none := by
  cases i with
  | return_ => cases h
  | ireturn => cases h
  | areturn => cases h
  | _ => exact ite_self none
theorem mk_isR_t {T : mk_T} {S : mk_S} {pc l : Nat} {i : Instr} (h : mk_isR i = true) : mk_st T S pc i l = none := by
  cases i with
  | return_ => rfl
  | ireturn => rfl
  | areturn => rfl
  | _ => cases h
abbrev mk_cdG : Type := List (Nat × Bool × Instr × mg_stp × Nat)
def mk_gG (y : Nat × Instr × Nat) : Nat × Bool × Instr × mg_stp × Nat := (y.1, mk_isR y.2.1, y.2.1, mk_stG y.2.1, y.2.2)
def mk_fdG (code : mk_cdG) (pc : Nat) : Option (Nat × Bool × Instr × mg_stp × Nat) := @List.rec (Nat × Bool × Instr × mg_stp × Nat) (fun _ => Option (Nat × Bool × Instr × mg_stp × Nat)) none (fun y _ ih => match Nat.beq y.1 pc with
  | true => some y
  | false => ih) code
theorem mk_fdG_eq {pc : Nat} : ∀ {code : ck_cd}, mk_fdG (code.map mk_gG) pc = (code.find? (fun y => y.1 == pc)).map mk_gG
  | [] => rfl
  | y :: t => by
    have ih := mk_fdG_eq (pc := pc) (code := t)
    rw [List.find?_cons, ← ck_nb]
    show (match Nat.beq y.1 pc with
      | true => some (mk_gG y)
      | false => mk_fdG (t.map mk_gG) pc) = _
    rw [ih]
    cases Nat.beq y.1 pc <;> rfl
def mk_runG (T : mk_T) (rt : Nat) (code : mk_cdG) (f : Nat) : mk_S → Nat → Option (List mk_V × mk_W) :=
  @Nat.rec (fun _ => mk_S → Nat → Option (List mk_V × mk_W)) (fun _ _ => none) (fun _ ih S pc => match mk_fdG code pc with
    | none => none
    | some y => (match y.2.1 with
      | true => mk_ret T rt y.2.2.1 y.2.2.2.2 S
      | false => (match y.2.2.2.1 T S pc y.2.2.2.2 with
        | some x => ih x.1 x.2
        | none => none))) f
theorem mk_runG_eq {T : mk_T} {rt : Nat} {code : ck_cd} : ∀ (f : Nat) (S : mk_S) (pc : Nat), mk_runG T rt (code.map mk_gG) f S pc = mk_run T rt code f S pc
  | 0, _, _ => rfl
  | f + 1, S, pc => by
    show (match mk_fdG (code.map mk_gG) pc with
      | none => none
      | some y => (match y.2.1 with
        | true => mk_ret T rt y.2.2.1 y.2.2.2.2 S
        | false => (match y.2.2.2.1 T S pc y.2.2.2.2 with
          | some x => mk_runG T rt (code.map mk_gG) f x.1 x.2
          | none => none))) = _
    rw [mk_fdG_eq, mk_run]
    cases code.find? (fun y => y.1 == pc) with
    | none => rfl
    | some y =>
      show (match mk_isR y.2.1 with
        | true => mk_ret T rt y.2.1 y.2.2 S
        | false => (match mk_stG y.2.1 T S pc y.2.2 with
          | some x => mk_runG T rt (code.map mk_gG) f x.1 x.2
          | none => none)) = (match mk_ret T rt y.2.1 y.2.2 S with
        | some r => some r
        | none => match mk_st T S pc y.2.1 y.2.2 with
          | some x => mk_run T rt code f x.1 x.2
          | none => none)
      cases hR : mk_isR y.2.1 with
      | true =>
        rw [mk_isR_t (T := T) (S := S) (pc := pc) (l := y.2.2) hR]
        cases mk_ret T rt y.2.1 y.2.2 S <;> rfl
      | false =>
        rw [mk_isR_f (T := T) (rt := rt) (l := y.2.2) (S := S) hR, mk_stG_eq]
        cases mk_st T S pc y.2.1 y.2.2 with
        | none => rfl
        | some x => exact mk_runG_eq f x.1 x.2
def mk_fnG (T : mk_T) (rt : Nat) (code : mk_cdG) (f : Nat) : mk_F := fun W xs => if xs.length ≤ mnL0 T then mk_runG T rt code f (mk_ar 0 xs, [], W, 0, 0) 0 else none
theorem mk_fnG_eq {T : mk_T} {rt : Nat} {code : ck_cd} {cG : mk_cdG} (hc : code.map mk_gG = cG) {f : Nat} : mk_fnG T rt cG f = mk_fn T rt code f := by
  subst hc
  funext W xs
  unfold mk_fnG mk_fn
  rw [mk_runG_eq]
end
