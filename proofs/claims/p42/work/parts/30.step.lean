noncomputable section
/-! the checker's step -/
def ck_B (w : Nat) : Int := 2 ^ (w - 1)
def ck_top (w : Nat) : Int × Int := (-(ck_B w), ck_B w - 1)
def ck_cl (w : Nat) (x : Int × Int) : Int × Int := if -(ck_B w) ≤ x.1 ∧ x.2 ≤ ck_B w - 1 then x else ck_top w
def ck_msk (h : Int) : Int := 2 ^ (h.toNat.log2 + 1) - 1
/-- intervals: 0 add 1 sub 2 mul 3 and 4 or 5 xor 6 shl 7 shr 9 div 10 rem -/
def ck_bin (w op : Nat) (x y : Int × Int) : Int × Int := match op with
  | 0 => ck_cl w (x.1 + y.1, x.2 + y.2)
  | 1 => ck_cl w (x.1 - y.2, x.2 - y.1)
  | 2 => ck_cl w (ck_min (ck_min (x.1 * y.1) (x.1 * y.2)) (ck_min (x.2 * y.1) (x.2 * y.2)), ck_max (ck_max (x.1 * y.1) (x.1 * y.2)) (ck_max (x.2 * y.1) (x.2 * y.2)))
  | 3 => if 0 ≤ y.1 then (if 0 ≤ x.1 then (0, ck_min x.2 y.2) else (0, y.2)) else if 0 ≤ x.1 then (0, x.2) else ck_top w
  | 4 => if 0 ≤ x.1 ∧ 0 ≤ y.1 then ck_cl w (ck_max x.1 y.1, ck_msk (ck_max x.2 y.2)) else ck_top w
  | 5 => if 0 ≤ x.1 ∧ 0 ≤ y.1 then ck_cl w (0, ck_msk (ck_max x.2 y.2)) else ck_top w
  | 6 => if 0 ≤ x.1 ∧ 0 ≤ y.1 ∧ y.2 < w then ck_cl w (x.1 * 2 ^ y.1.toNat, x.2 * 2 ^ y.2.toNat) else ck_top w
  | 7 => if y.1 = y.2 ∧ 0 ≤ y.1 ∧ y.2 < w then (x.1 / 2 ^ y.1.toNat, x.2 / 2 ^ y.1.toNat) else if 0 ≤ x.1 then (0, x.2) else ck_top w
  | 9 => if y.1 = y.2 ∧ 0 < y.1 ∧ 0 ≤ x.1 then (x.1 / y.1, x.2 / y.1) else ck_top w
  | 10 => if y.1 = y.2 ∧ 0 < y.1 then (if 0 ≤ x.1 then (0, y.1 - 1) else (1 - y.1, y.1 - 1)) else ck_top w
  | _ => ck_top w
/-- relations of a sum with a constant to what it is a sum of; N the new sym -/
def ck_rel (op a b N : Nat) (x y r : Int × Int) : List ck_R := match op with
  | 0 => if r.1 = x.1 + y.1 ∧ r.2 = x.2 + y.2 then (if y.1 = y.2 then [(N, a, y.1), (a, N, -y.1)] else if x.1 = x.2 then [(N, b, x.1), (b, N, -x.1)] else []) else []
  | 1 => if r.1 = x.1 - y.2 ∧ r.2 = x.2 - y.1 ∧ y.1 = y.2 then [(N, a, -y.1), (a, N, y.1)] else []
  | 3 => if 0 ≤ y.1 then (if y.1 = y.2 then [] else [(N, b, 0)]) else []
  | 4 => if 0 ≤ x.1 ∧ 0 ≤ y.1 then [(a, N, 0)] else []
  | 6 => if 1 ≤ x.1 ∧ y.1 = y.2 ∧ 1 ≤ y.1 ∧ r.1 = x.1 * 2 ^ y.1.toNat ∧ r.2 = x.2 * 2 ^ y.2.toNat then [(a, N, -1)] else []
  | _ => []
/-- a sym that is a + c already -/
def ck_same (R : List ck_R) (a : Nat) (c : Int) : Option Nat := (R.find? (fun r => r.2.1 == a && (r.2.2 == c && R.any (fun q => q.1 == a && (q.2.1 == r.1 && q.2.2 == -c))))).map Prod.fst
abbrev ck_cont : Type := ck_S → Nat → Bool
def ck_ss (S : ck_S) (st : List ck_V) : ck_S := (S.1, st, S.2.2)
/-- one sym more, on the stack -/
def ck_new (S : ck_S) (st : List ck_V) (tag : Nat) (ts : List Nat) (iv : Int × Int) (rs : List ck_R) : ck_S := (S.1, (tag, S.2.2.2.1.length, ts) :: st, S.2.2.1, S.2.2.2.1 ++ [iv], rs ++ S.2.2.2.2.1, S.2.2.2.2.2)
def ck_cst (S : ck_S) (tag : Nat) (v : Int) : ck_S := ck_new S S.2.1 tag [] (v, v) []
def ck_look (loc : List (Nat × ck_V)) (i : Nat) : Option ck_V := (loc.find? (fun q => q.1 == i)).map Prod.snd
def ck_cat (v : ck_V) : Nat := if v.1 = 1 then 2 else 1
def ck_st1 (loc : List (Nat × ck_V)) (i : Nat) (v : ck_V) : List (Nat × ck_V) := (i, v) :: loc.filter (fun q => !(q.1 == i) && !(q.1 + 1 == i && ck_cat q.2 == 2))
def ck_st2 (loc : List (Nat × ck_V)) (i : Nat) (v : ck_V) : List (Nat × ck_V) := (i, v) :: loc.filter (fun q => !(q.1 == i) && (!(q.1 == i + 1) && !(q.1 + 1 == i && ck_cat q.2 == 2)))
def ck_isr (v : ck_V) : Bool := v.1 == 2 || (v.1 == 3 || (v.1 == 4 || v.1 == 5))
def ck_binS (w op : Nat) (S : ck_S) (st : List ck_V) (tag a b : Nat) : Option ck_S :=
  match S.2.2.2.1[a]?, S.2.2.2.1[b]? with
  | some x, some y =>
    if x.1 ≤ x.2 ∧ y.1 ≤ y.2 then
      let r := ck_bin w op x y
      match (if op = 0 ∧ y.1 = y.2 ∧ r.1 = x.1 + y.1 ∧ r.2 = x.2 + y.2 then ck_same S.2.2.2.2.1 a y.1 else none) with
      | some k => some (ck_ss S ((tag, k, []) :: st))
      | none => some (ck_new S st tag [] r (ck_rel op a b S.2.2.2.1.length x y r))
    else none
  | _, _ => none
/-- go on with a ≤ b + c learned; a dead end is no way -/
def ck_wle (a b : Nat) (c : Int) (S : ck_S) (k : ck_S → Bool) : Bool :=
  match S.2.2.2.1[a]?, S.2.2.2.1[b]? with
  | some x, some y =>
    if x.1 ≤ x.2 ∧ y.1 ≤ y.2 then
      (let p := ck_le a b c S.2.2.2.1 S.2.2.2.2.1
       ck_dead p.1 a || (ck_dead p.1 b || k (S.1, S.2.1, S.2.2.1, p.1, p.2, S.2.2.2.2.2)))
    else false
  | _, _ => false
def ck_weq (a b : Nat) (S : ck_S) (k : ck_S → Bool) : Bool := ck_wle a b 0 S (fun S => ck_wle b a 0 S k)
def ck_wne (F : Nat) (a b : Nat) (S : ck_S) (k : ck_S → Bool) : Bool :=
  if ck_ent S.2.2.2.1 S.2.2.2.2.1 F a b 0 then (ck_ent S.2.2.2.1 S.2.2.2.2.1 F b a 0 || ck_wle a b (-1) S k) else if ck_ent S.2.2.2.1 S.2.2.2.2.1 F b a 0 then ck_wle b a (-1) S k else k S
/-- both ways of a comparison of a with b -/
def ck_wc (F : Nat) (cd : ClassFile.Cond) (a b : Nat) (S : ck_S) (kt kf : ck_S → Bool) : Bool := match cd with
  | .eq => ck_weq a b S kt && ck_wne F a b S kf
  | .ne => ck_wne F a b S kt && ck_weq a b S kf
  | .lt => ck_wle a b (-1) S kt && ck_wle b a 0 S kf
  | .ge => ck_wle b a 0 S kt && ck_wle a b (-1) S kf
  | .gt => ck_wle b a (-1) S kt && ck_wle a b 0 S kf
  | .le => ck_wle a b 0 S kt && ck_wle b a (-1) S kf
def ck_tgt (pc : Nat) (off : Int) (k : Nat → Bool) : Bool := decide (0 ≤ (pc : Int) + off) && k ((pc : Int) + off).toNat
/-- put other types to a sym -/
def ck_sub (s : Nat) (w : ck_V) (v : ck_V) : ck_V := if v.2.1 = s ∧ (v.1 = 2 ∨ v.1 = 3) then w else v
def ck_subS (s : Nat) (w : ck_V) (S : ck_S) : ck_S := (S.1.map (fun q => (q.1, ck_sub s w q.2)), S.2.1.map (ck_sub s w), S.2.2.1.map (fun m => if m.1 = 0 then m else (m.1, m.2.1, ck_sub s w m.2.2)), S.2.2.2)
/-- patterns -/
def ck_tg (p v : ck_V) : Bool := match p.1 with
  | 0 => v.1 == 0
  | 1 => v.1 == 1
  | 2 => v.1 == 2 && v.2.2.all (fun t => p.2.2.contains t)
  | 3 => v.1 == 4 || ((v.1 == 2 || v.1 == 3) && v.2.2.all (fun t => p.2.2.contains t))
  | 4 => v.1 == 4
  | 5 => v.1 == 5
  | _ => false
def ck_mv (g : List Nat) (p v : ck_V) : Option (List Nat) :=
  if ck_tg p v then (if p.2.1 = g.length then some (g ++ [v.2.1]) else if g[p.2.1]? = some v.2.1 then some g else none) else none
def ck_mvs (g : List Nat) : List ck_V → List ck_V → Option (List Nat)
  | [], [] => some g
  | p :: ps, v :: vs => match ck_mv g p v with
    | some g1 => ck_mvs g1 ps vs
    | none => none
  | _, _ => none
def ck_eq2 (F : Nat) (E : ck_E) (R : List ck_R) (a b : Nat) : Bool := a == b || (ck_ent E R F a b 0 && ck_ent E R F b a 0)
def ck_nl (F : Nat) (E : ck_E) (R : List ck_R) (g : List Nat) : List Nat → List Nat → Option (List Nat)
  | [], [] => some g
  | x :: xs, y :: ys => if x = g.length then ck_nl F E R (g ++ [y]) xs ys else match g[x]? with
    | some a => if ck_eq2 F E R a y = true then ck_nl F E R g xs ys else none
    | none => none
  | _, _ => none
/-- a note says as much as is asked -/
def ck_ntg (F : Nat) (E : ck_E) (R : List ck_R) (tag : Nat) (v : ck_V) : Bool := tag == v.1 || (decide (tag < 30 ∧ v.1 < 30)) && (decide (tag ≤ v.1) || ((tag == 21 && ck_ent E R F v.2.1 0 0) || (tag == 22 && (v.1 == 21 && (ck_ent E R F 0 v.2.1 (-1) && match v.2.2 with
  | [_, o] => ck_ent E R F o 0 0
  | _ => false)))))
def ck_nm (F : Nat) (E : ck_E) (R : List ck_R) (g : List Nat) (p m : ck_M) : Option (List Nat) :=
  if m.1 == p.1 && (m.2.1 == 0 && (p.2.1 == 0 && (decide (20 ≤ m.2.2.1) && ck_ntg F E R p.2.2.1 m.2.2))) then ck_nl F E R g (p.2.2.2.1 :: p.2.2.2.2) (m.2.2.2.1 :: m.2.2.2.2) else none
def ck_mms (F : Nat) (E : ck_E) (R : List ck_R) (mem : List ck_M) (g : List Nat) : List ck_M → Option (List Nat)
  | [] => some g
  | p :: ps => if 20 ≤ p.2.2.1 then (match mem.findSome? (fun m => ck_nm F E R g p m) with
      | some g1 => ck_mms F E R mem g1 ps
      | none => none) else match mem.find? (fun m => m.1 == p.1 && (m.2.1 == p.2.1 && !(m.1 == 0))) with
    | some m => match ck_mv g p.2.2 m.2.2 with
      | some g1 => ck_mms F E R mem g1 ps
      | none => none
    | none => none
def ck_ce (F : Nat) (E : ck_E) (R : List ck_R) : List Nat → ck_E → Bool
  | _, [] => true
  | [], _ :: _ => false
  | s :: g, x :: l => (decide (x.2 < x.1) || (ck_ent E R F s 0 x.2 && ck_ent E R F 0 s (-x.1))) && ck_ce F E R g l
def ck_cr (F : Nat) (E : ck_E) (R : List ck_R) (g : List Nat) (rs : List ck_R) : Bool :=
  rs.all (fun r => match g[r.1]?, g[r.2.1]? with
    | some a, some b => ck_ent E R F a b r.2.2
    | _, _ => false)
def ck_mt (F : Nat) (S : ck_S) (g0 : List Nat) (vs : List ck_V) (P : ck_P) : Option (List Nat) :=
  match ck_mvs g0 P.1 vs with
  | some g1 => match ck_mms F S.2.2.2.1 S.2.2.2.2.1 S.2.2.1 g1 P.2.1 with
    | some g => if ck_ce F S.2.2.2.1 S.2.2.2.2.1 g P.2.2.1 && ck_cr F S.2.2.2.1 S.2.2.2.2.1 g P.2.2.2 then some g else none
    | none => none
  | none => none
def ck_ren (g : List Nat) (N k : Nat) : Nat := if k < g.length then g.getD k 0 else N + (k - g.length)
def ck_renV (g : List Nat) (N : Nat) (v : ck_V) : ck_V := (v.1, ck_ren g N v.2.1, if 20 ≤ v.1 then v.2.2.map (ck_ren g N) else v.2.2)
def ck_okm (m : ck_M) : Bool := !(m.1 == 0) && (decide (m.2.2.1 < 5) || decide (20 ≤ m.2.2.1))
/-- notes of arrays that are written are forgotten -/
def ck_fS (ts : List Nat) (S : ck_S) : ck_S := (S.1, S.2.1, S.2.2.1.filter (fun m => decide (m.2.2.1 < 20) || !(ts.contains m.1)), S.2.2.2)
def ck_wles (g : List Nat) (N : Nat) : List ck_R → ck_S → (ck_S → Bool) → Bool
  | [], S, k => k S
  | r :: rs, S, k => ck_wle (ck_ren g N r.1) (ck_ren g N r.2.1) r.2.2 S (fun S => ck_wles g N rs S k)
/-- behind a call: what was written is forgotten, the case is learned -/
def ck_aft (S : ck_S) (st : List ck_V) (g : List Nat) (wr : List (Nat × Nat)) (mc ms : Nat) (P : ck_P) (k : ck_S → Bool) : Bool :=
  ck_wles g S.2.2.2.1.length P.2.2.2
    (S.1, P.1.map (ck_renV g S.2.2.2.1.length) ++ st, P.2.1.map (fun m => (m.1, m.2.1, ck_renV g S.2.2.2.1.length m.2.2)) ++ S.2.2.1.filter (fun m => m.1 == 0 || !(wr.contains (m.1, m.2.1))),
      S.2.2.2.1 ++ P.2.2.1.drop g.length, S.2.2.2.2.1, S.2.2.2.2.2.1 + mc, S.2.2.2.2.2.2 + ms) k
def ck_call (F : Nat) (Wr : List (Nat × Nat)) (Rm : Nat × Nat) (S : ck_S) (na : Nat) (C : ck_C) (k : ck_S → Bool) : Bool :=
  (decide (na ≤ S.2.1.length) && (decide (S.2.2.2.2.2.1 + C.2.2.2.1 ≤ Rm.1) && (decide (S.2.2.2.2.2.2 + C.2.2.2.2 ≤ Rm.2) && decide (((S.2.1.drop na).map ck_cat).sum ≤ 8)))) && ((C.2.2.1.all (fun x => Wr.contains x)) &&
  match ck_mt F S [0] (S.2.1.take na).reverse C.1 with
  | some g => decide (g.length = C.1.2.2.1.length) && (C.2.1.all (fun P => (P.1.all (fun v => decide (v.1 < 5)) && P.2.1.all ck_okm) && ck_aft S (S.2.1.drop na) g C.2.2.1 C.2.2.2.1 C.2.2.2.2 P k))
  | none => false)
/-- the tables of a method: fuel; types; single types; locals; getfield (index, class, field); putfield (index, class, field, 0 int 1 truth 2 reference); new (index, class, type, fields); constants (index, tag, value); instanceof (index, class, answer); casts that go (index, class); stores of objects that go (array class, class); calls (index, receiver's type or 0, arguments, contract); writes; room; statics (index) -/
abbrev ck_Me : Type := Nat × List ck_D × List Nat × Nat × List (Nat × Nat × Nat) × List (Nat × Nat × Nat × Nat) × List (Nat × Nat × Nat × Nat) × List (Nat × Nat × Int) × List (Nat × Nat × Nat) × List (Nat × Nat) × List (Nat × Nat) × List (Nat × Nat × Nat × ck_C) × List (Nat × Nat) × (Nat × Nat) × List Nat
def mF (M : ck_Me) := M.1
def mTT (M : ck_Me) := M.2.1
def mSG (M : ck_Me) := M.2.2.1
def mnL (M : ck_Me) := M.2.2.2.1
def mfl (M : ck_Me) := M.2.2.2.2.1
def mpl (M : ck_Me) := M.2.2.2.2.2.1
def mnw (M : ck_Me) := M.2.2.2.2.2.2.1
def mkl (M : ck_Me) := M.2.2.2.2.2.2.2.1
def mil (M : ck_Me) := M.2.2.2.2.2.2.2.2.1
def mxl (M : ck_Me) := M.2.2.2.2.2.2.2.2.2.1
def mal (M : ck_Me) := M.2.2.2.2.2.2.2.2.2.2.1
def mvl (M : ck_Me) := M.2.2.2.2.2.2.2.2.2.2.2.1
def mWr (M : ck_Me) := M.2.2.2.2.2.2.2.2.2.2.2.2.1
def mRm (M : ck_Me) := M.2.2.2.2.2.2.2.2.2.2.2.2.2.1
def mgl (M : ck_Me) := M.2.2.2.2.2.2.2.2.2.2.2.2.2.2
def ck_ld (S : ck_S) (i : Nat) (ok : ck_V → Bool) (k : ck_S → Bool) : Bool := match ck_look S.1 i with
  | some v => ok v && k (ck_ss S (v :: S.2.1))
  | none => false
def ck_sto (nL : Nat) (S : ck_S) (i : Nat) (ok : ck_V → Bool) (k : ck_S → Bool) : Bool := match S.2.1 with
  | v :: st => ok v && (decide (i < nL) && k (ck_st1 S.1 i v, st, S.2.2))
  | [] => false
def ck_sto2 (nL : Nat) (S : ck_S) (i : Nat) (k : ck_S → Bool) : Bool := match S.2.1 with
  | v :: st => v.1 == 1 && (decide (i + 1 < nL) && k (ck_st2 S.1 i v, st, S.2.2))
  | [] => false
def ck_b2 (w op tag : Nat) (S : ck_S) (k : ck_S → Bool) : Bool := match S.2.1 with
  | b :: a :: st => b.1 == tag && (a.1 == tag && match ck_binS w op S st tag a.2.1 b.2.1 with
    | some S' => k S'
    | none => false)
  | _ => false
/-- the place's number is within these bounds; none is: no way -/
def ck_iv (a : Nat) (lo hi : Int) (S : ck_S) (k : ck_S → Bool) : Bool := match S.2.2.2.1[a]? with
  | some x => if x.1 ≤ x.2 then (if ck_min x.2 hi < ck_max x.1 lo then true else k (S.1, S.2.1, S.2.2.1, S.2.2.2.1.set a (ck_max x.1 lo, ck_min x.2 hi), S.2.2.2.2)) else false
  | none => false
def ck_sw (a : Nat) (lo : Int) (S : ck_S) (pc : Nat) (k : ck_cont) : List Int → Bool
  | [] => true
  | o :: os => ck_iv a lo lo S (fun S => ck_tgt pc o (k S)) && ck_sw a (lo + 1) S pc k os
/-- what a field of a type holds -/
def ck_ft (M : ck_Me) (i t : Nat) : Option (Nat × ck_T) := match (mTT M)[t]? with
  | some td => if td.1 = 0 then (match (mfl M).find? (fun x => x.1 == i && x.2.1 == td.2.1) with
    | some x => (td.2.2.2[x.2.2]?).map (fun y => (x.2.2, y))
    | none => none) else none
  | none => none
def ck_jt (a b : ck_T) : Option ck_T := if a.1 = 0 ∧ b.1 = 0 then some (0, ck_min a.2.1 b.2.1, ck_max a.2.2.1 b.2.2.1, []) else if a = b then some a else none
def ck_jts (f : Nat → Option ck_T) : List Nat → Option ck_T
  | [] => none
  | [t] => f t
  | t :: ts => match f t, ck_jts f ts with
    | some a, some b => ck_jt a b
    | _, _ => none
/-- a value of that kind, new, on the stack -/
def ck_pt (S : ck_S) (st : List ck_V) (t : ck_T) : Option ck_S := match t.1 with
  | 0 => some (ck_new S st 0 [] (t.2.1, t.2.2.1) [])
  | 1 => some (ck_new S st 1 [] (ck_top 64) [])
  | 2 => some (ck_new S st 2 t.2.2.2 (1, 0) [])
  | 3 => some (ck_new S st 3 t.2.2.2 (1, 0) [])
  | _ => none
def ck_mfind (mem : List ck_M) (t k : Nat) : Option ck_V := (mem.find? (fun m => m.1 == t && (m.2.1 == k && !(m.1 == 0)))).map (fun m => m.2.2)
def ck_get (M : ck_Me) (i : Nat) (S : ck_S) (k : ck_S → Bool) : Bool := match S.2.1 with
  | v :: st => v.1 == 2 && (match ck_jts (fun t => (ck_ft M i t).map Prod.snd) v.2.2 with
    | some T => (match v.2.2 with
      | [t] => (match ck_ft M i t with
        | some x => (match ck_mfind S.2.2.1 t x.1 with
          | some w => k (ck_ss S (w :: st))
          | none => (match ck_pt S st T with
            | some S' => if (mSG M).contains t && !(t == 0) then (match S'.2.1 with
                | w :: _ => k (S'.1, S'.2.1, (t, x.1, w) :: S'.2.2.1, S'.2.2.2)
                | [] => false) else k S'
            | none => false))
        | none => false)
      | _ => (match ck_pt S st T with
        | some S' => k S'
        | none => false))
    | none => false)
  | [] => false
/-- a value goes into a place of that kind -/
def ck_fit (F : Nat) (S : ck_S) (t : ck_T) (v : ck_V) : Bool := match t.1 with
  | 0 => v.1 == 0 && (ck_ent S.2.2.2.1 S.2.2.2.2.1 F v.2.1 0 t.2.2.1 && ck_ent S.2.2.2.1 S.2.2.2.2.1 F 0 v.2.1 (-t.2.1))
  | 1 => v.1 == 1
  | 2 => v.1 == 2 && v.2.2.all (fun x => t.2.2.2.contains x)
  | 3 => v.1 == 4 || ((v.1 == 2 || v.1 == 3) && v.2.2.all (fun x => t.2.2.2.contains x))
  | _ => false
def ck_putT (M : ck_Me) (i t : Nat) : Option (Nat × Nat × ck_T) := match (mTT M)[t]? with
  | some td => if td.1 = 0 then (match (mpl M).find? (fun x => x.1 == i && x.2.1 == td.2.1) with
    | some x => (td.2.2.2[x.2.2.1]?).map (fun y => (x.2.2.1, x.2.2.2, y))
    | none => none) else none
  | none => none
def ck_put (M : ck_Me) (i : Nat) (S : ck_S) (k : ck_S → Bool) : Bool := match S.2.1 with
  | v :: r :: st => r.1 == 2 && (r.2.2.all (fun t => match ck_putT M i t with
      | some x => (mWr M).contains (t, x.1) && (ck_fit (mF M) S x.2.2 v && (match x.2.1 with
        | 0 => x.2.2.1 == 0
        | 1 => x.2.2.1 == 0 && (decide (0 ≤ x.2.2.2.1) && decide (x.2.2.2.2.1 ≤ 1))
        | _ => x.2.2.1 == 2 || x.2.2.1 == 3))
      | none => false) &&
    k (S.1, st, (match r.2.2 with
        | [t] => if (mSG M).contains t && !(t == 0) && !(v.1 == 5) && !(v.1 == 6) && !(v.1 == 7) then (match ck_putT M i t with
          | some x => [(t, x.1, v)]
          | none => []) else []
        | _ => []) ++ S.2.2.1.filter (fun m => m.1 == 0 || !(r.2.2.any (fun t => t == m.1 && ((ck_putT M i t).map Prod.fst) == some m.2.1))), S.2.2.2))
  | _ => false
/-- the index is one of a row's -/
def ck_bd (M : ck_Me) (S : ck_S) (i n : Nat) : Bool := ck_ent S.2.2.2.1 S.2.2.2.2.1 (mF M) 0 i 0 && ck_ent S.2.2.2.1 S.2.2.2.2.1 (mF M) i 0 ((n : Int) - 1)
/-- the elements of a row's type, by its kind, the index being one of its -/
def ck_el (M : ck_Me) (S : ck_S) (kd i t : Nat) : Option ck_T := match (mTT M)[t]? with
  | some td => if td.1 = kd ∧ ck_bd M S i td.2.1 = true then (if kd = 2 then some (1, 0, 0, []) else if kd = 4 then some (0, 0, 1, []) else td.2.2.2[0]?) else none
  | none => none
def ck_ald (M : ck_Me) (kd : Nat) (S : ck_S) (k : ck_S → Bool) : Bool := match S.2.1 with
  | i :: r :: st => i.1 == 0 && (r.1 == 2 && (match ck_jts (ck_el M S kd i.2.1) r.2.2 with
    | some T => (match ck_pt S st T with
      | some S' => k S'
      | none => false)
    | none => false))
  | _ => false
def ck_ast (M : ck_Me) (kd : Nat) (S : ck_S) (k : ck_S → Bool) : Bool := match S.2.1 with
  | v :: i :: r :: st => i.1 == 0 && (r.1 == 2 && (r.2.2.all (fun t => match ck_el M S kd i.2.1 t with
      | some T => (mWr M).contains (t, 0) && (if kd = 4 then v.1 == 0 else ck_fit (mF M) S T v)
      | none => false) && k (ck_fS r.2.2 (ck_ss S st))))
  | _ => false
end
