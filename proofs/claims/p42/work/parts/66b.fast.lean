noncomputable section
/-! the step with its dispatch outermost: a function for each instruction -/
abbrev ck_stp : Type := ck_Me → (Nat → ck_S → Bool) → ck_cont → ck_S → Nat → Nat → Bool
/-- what a relation adds, by the numbers' forms -/
noncomputable def ck_lset {α : Type} (l : List α) : Nat → α → List α := @List.rec α (fun _ => Nat → α → List α) (fun _ _ => []) (fun x t ih n v => @Nat.rec (fun _ => List α) (v :: t) (fun m _ => x :: ih m v) n) l
theorem ck_lset_eq {α : Type} : ∀ {l : List α} {n : Nat} {v : α}, ck_lset l n v = l.set n v
  | [], _, _ => by
    rw [List.set_nil]
    rfl
  | x :: t, 0, v => by
    rw [List.set_cons_zero]
    rfl
  | x :: t, n + 1, v => by
    rw [List.set_cons_succ, ← ck_lset_eq (l := t) (n := n) (v := v)]
    rfl
theorem ck_set_same {α : Type} {l : List α} {i : Nat} {x : α} (h : l[i]? = some x) : l.set i x = l := by
  apply List.ext_getElem?
  intro j
  rw [List.getElem?_set]
  by_cases e : i = j
  · subst e
    rw [if_pos rfl, if_pos (List.getElem?_eq_some_iff.mp h).1, h]
  · rw [if_neg e]
def ck_ie (a b : Int) : Bool := ck_il a b && ck_il b a
theorem ck_ie_iff {a b : Int} : ck_ie a b = true ↔ a = b := by
  unfold ck_ie
  rw [Bool.and_eq_true, ck_il_iff, ck_il_iff]
  omega
def ck_rG (x y : Int × Int) (r : ck_R) (R : List ck_R) : List ck_R := match ck_ie x.1 x.2 || ck_ie y.1 y.2 with
  | true => R
  | false => r :: R
theorem ck_rG_eq {x y : Int × Int} {r : ck_R} {R : List ck_R} : ck_rG x y r R = if x.1 = x.2 ∨ y.1 = y.2 then R else r :: R := by
  unfold ck_rG
  by_cases h : x.1 = x.2 ∨ y.1 = y.2
  · have e : (ck_ie x.1 x.2 || ck_ie y.1 y.2) = true := by
      rw [Bool.or_eq_true, ck_ie_iff, ck_ie_iff]
      exact h
    rw [e, if_pos h]
  · have e : (ck_ie x.1 x.2 || ck_ie y.1 y.2) = false := by
      rw [Bool.eq_false_iff]
      intro z
      rw [Bool.or_eq_true, ck_ie_iff, ck_ie_iff] at z
      exact h z
    rw [e, if_neg h]
def ck_wl2 (a b : Nat) (c : Int) (S : ck_S) (k : ck_S → Bool) (x y : Int × Int) : Bool :=
  match ck_il x.2 (y.2 + c) with
  | true => (match ck_il (x.1 - c) y.1 with
    | true => k (S.1, S.2.1, S.2.2.1, S.2.2.2.1, ck_rG x y (a, b, c) S.2.2.2.2.1, S.2.2.2.2.2)
    | false => (match ck_il (x.1 - c) y.2 with
      | true => k (S.1, S.2.1, S.2.2.1, ck_lset S.2.2.2.1 b (x.1 - c, y.2), ck_rG x y (a, b, c) S.2.2.2.2.1, S.2.2.2.2.2)
      | false => true))
  | false => (match ck_il x.1 (y.2 + c) with
    | true => (match ck_il (x.1 - c) y.1 with
      | true => k (S.1, S.2.1, S.2.2.1, ck_lset S.2.2.2.1 a (x.1, y.2 + c), ck_rG x y (a, b, c) S.2.2.2.2.1, S.2.2.2.2.2)
      | false => (match ck_il (x.1 - c) y.2 with
        | true => k (S.1, S.2.1, S.2.2.1, ck_lset (ck_lset S.2.2.2.1 a (x.1, y.2 + c)) b (x.1 - c, y.2), ck_rG x y (a, b, c) S.2.2.2.2.1, S.2.2.2.2.2)
        | false => true))
    | false => true)
def ck_wle0 (a b : Nat) (c : Int) (S : ck_S) (k : ck_S → Bool) : Bool := ck_wle a b c S k
def ck_wleG (a b : Nat) (c : Int) (S : ck_S) (k : ck_S → Bool) : Bool :=
  match ck_nth S.2.2.2.1 a, ck_nth S.2.2.2.1 b with
  | some x, some y => (match ck_il x.1 x.2 && ck_il y.1 y.2 with
    | true => (match Nat.beq a b with
      | true => ck_wle0 a b c S k
      | false => ck_wl2 a b c S k x y)
    | false => false)
  | _, _ => false
theorem ck_il_t {a b : Int} (h : a ≤ b) : ck_il a b = true := ck_il_iff.mpr h
theorem ck_il_f {a b : Int} (h : ¬ a ≤ b) : ck_il a b = false := Bool.eq_false_iff.mpr (fun z => h (ck_il_iff.mp z))
theorem ck_wl2_eq {a b : Nat} {c : Int} {S : ck_S} {k : ck_S → Bool} {x y : Int × Int} (hx : S.2.2.2.1[a]? = some x) (hy : S.2.2.2.1[b]? = some y) (h1 : x.1 ≤ x.2 ∧ y.1 ≤ y.2) (h2 : ¬ a = b) : ck_wl2 a b c S k x y = ck_wle a b c S k := by
  have la : a < S.2.2.2.1.length := (List.getElem?_eq_some_iff.mp hx).1
  have lb : b < S.2.2.2.1.length := (List.getElem?_eq_some_iff.mp hy).1
  have hp : ck_le a b c S.2.2.2.1 S.2.2.2.2.1 = ((S.2.2.2.1.set a (x.1, ck_min x.2 (y.2 + c))).set b (ck_max y.1 (x.1 - c), y.2), ck_rG x y (a, b, c) S.2.2.2.2.1) := by
    rw [ck_rG_eq]
    unfold ck_le
    rw [hx, hy]
    dsimp only
    rw [if_pos h1, if_neg h2]
  have e0 : ck_wle a b c S k = (ck_dead (ck_le a b c S.2.2.2.1 S.2.2.2.2.1).1 a || (ck_dead (ck_le a b c S.2.2.2.1 S.2.2.2.2.1).1 b || k (S.1, S.2.1, S.2.2.1, (ck_le a b c S.2.2.2.1 S.2.2.2.2.1).1, (ck_le a b c S.2.2.2.1 S.2.2.2.2.1).2, S.2.2.2.2.2))) := by
    unfold ck_wle
    rw [hx, hy]
    exact if_pos h1
  have da : ck_dead ((S.2.2.2.1.set a (x.1, ck_min x.2 (y.2 + c))).set b (ck_max y.1 (x.1 - c), y.2)) a = decide (ck_min x.2 (y.2 + c) < x.1) := by
    unfold ck_dead
    rw [List.getElem?_set, if_neg (fun z => h2 z.symm), List.getElem?_set, if_pos rfl, if_pos la]
  have db : ck_dead ((S.2.2.2.1.set a (x.1, ck_min x.2 (y.2 + c))).set b (ck_max y.1 (x.1 - c), y.2)) b = decide (y.2 < ck_max y.1 (x.1 - c)) := by
    unfold ck_dead
    rw [List.getElem?_set, if_pos rfl, if_pos (by rw [List.length_set]; exact lb)]
  rw [e0, hp]
  dsimp only
  rw [da, db]
  unfold ck_wl2
  simp only [ck_lset_eq]
  by_cases c1 : x.2 ≤ y.2 + c
  · have m1 : ck_min x.2 (y.2 + c) = x.2 := if_pos c1
    rw [ck_il_t c1, m1, decide_eq_false (by omega : ¬ x.2 < x.1), ck_set_same (x := (x.1, x.2)) hx]
    by_cases c2 : x.1 - c ≤ y.1
    · have m2 : ck_max y.1 (x.1 - c) = y.1 := by
        unfold ck_max
        split <;> omega
      rw [ck_il_t c2, m2, decide_eq_false (by omega : ¬ y.2 < y.1), ck_set_same (x := (y.1, y.2)) hy]
      rfl
    · have m2 : ck_max y.1 (x.1 - c) = x.1 - c := by
        unfold ck_max
        split <;> omega
      rw [ck_il_f c2, m2]
      by_cases c3 : x.1 - c ≤ y.2
      · rw [ck_il_t c3, decide_eq_false (by omega : ¬ y.2 < x.1 - c)]
        rfl
      · rw [ck_il_f c3, decide_eq_true (by omega : y.2 < x.1 - c)]
        rfl
  · have m1 : ck_min x.2 (y.2 + c) = y.2 + c := if_neg c1
    rw [ck_il_f c1, m1]
    by_cases c4 : x.1 ≤ y.2 + c
    · rw [ck_il_t c4, decide_eq_false (by omega : ¬ y.2 + c < x.1)]
      by_cases c2 : x.1 - c ≤ y.1
      · have m2 : ck_max y.1 (x.1 - c) = y.1 := by
          unfold ck_max
          split <;> omega
        have hy' : (S.2.2.2.1.set a (x.1, y.2 + c))[b]? = some (y.1, y.2) := by
          rw [List.getElem?_set, if_neg h2]
          exact hy
        rw [ck_il_t c2, m2, decide_eq_false (by omega : ¬ y.2 < y.1), ck_set_same hy']
        rfl
      · have m2 : ck_max y.1 (x.1 - c) = x.1 - c := by
          unfold ck_max
          split <;> omega
        rw [ck_il_f c2, m2]
        by_cases c3 : x.1 - c ≤ y.2
        · rw [ck_il_t c3, decide_eq_false (by omega : ¬ y.2 < x.1 - c)]
          rfl
        · rw [ck_il_f c3, decide_eq_true (by omega : y.2 < x.1 - c)]
          rfl
    · rw [ck_il_f c4, decide_eq_true (by omega : y.2 + c < x.1)]
      rfl
theorem ck_wleG_f : @ck_wleG = @ck_wle := by
  funext a b c S k
  unfold ck_wleG
  rw [ck_nth_eq, ck_nth_eq]
  cases hx : S.2.2.2.1[a]? with
  | none =>
    have e : ck_wle a b c S k = false := by
      unfold ck_wle
      rw [hx]
      try rfl
    exact e.symm
  | some x =>
    cases hy : S.2.2.2.1[b]? with
    | none =>
      have e : ck_wle a b c S k = false := by
        unfold ck_wle
        rw [hx, hy]
        try rfl
      exact e.symm
    | some y =>
      dsimp only
      by_cases h1 : x.1 ≤ x.2 ∧ y.1 ≤ y.2
      · have e1 : (ck_il x.1 x.2 && ck_il y.1 y.2) = true := by
          rw [Bool.and_eq_true]
          exact ⟨ck_il_t h1.1, ck_il_t h1.2⟩
        rw [e1]
        dsimp only
        by_cases h2 : a = b
        · have e2 : Nat.beq a b = true := by
            rw [Nat.beq_eq]
            exact h2
          rw [e2]
          rfl
        · have e2 : Nat.beq a b = false := Bool.eq_false_iff.mpr (fun z => h2 (Nat.eq_of_beq_eq_true z))
          rw [e2]
          exact ck_wl2_eq hx hy h1 h2
      · have e1 : (ck_il x.1 x.2 && ck_il y.1 y.2) = false := by
          rw [Bool.eq_false_iff]
          intro z
          rw [Bool.and_eq_true] at z
          exact h1 ⟨ck_il_iff.mp z.1, ck_il_iff.mp z.2⟩
        have e : ck_wle a b c S k = false := by
          unfold ck_wle
          rw [hx, hy]
          exact if_neg h1
        rw [e1]
        exact e.symm
def ck_weqG (a b : Nat) (S : ck_S) (k : ck_S → Bool) : Bool := ck_wleG a b 0 S (fun S => ck_wleG b a 0 S k)
theorem ck_weqG_f : @ck_weqG = @ck_weq := by
  funext a b S k
  unfold ck_weqG ck_weq
  rw [ck_wleG_f]
  try rfl
def ck_wneG (F : Nat) (a b : Nat) (S : ck_S) (k : ck_S → Bool) : Bool :=
  if ck_ent S.2.2.2.1 S.2.2.2.2.1 F a b 0 then (ck_ent S.2.2.2.1 S.2.2.2.2.1 F b a 0 || ck_wleG a b (-1) S k) else if ck_ent S.2.2.2.1 S.2.2.2.2.1 F b a 0 then ck_wleG b a (-1) S k else k S
theorem ck_wneG_f : @ck_wneG = @ck_wne := by
  funext F a b S k
  unfold ck_wneG ck_wne
  rw [ck_wleG_f]
  try rfl
def ck_wcG (F : Nat) (cd : ClassFile.Cond) (a b : Nat) (S : ck_S) (kt kf : ck_S → Bool) : Bool := match cd with
  | .eq => ck_weqG a b S kt && ck_wneG F a b S kf
  | .ne => ck_wneG F a b S kt && ck_weqG a b S kf
  | .lt => ck_wleG a b (-1) S kt && ck_wleG b a 0 S kf
  | .ge => ck_wleG b a 0 S kt && ck_wleG a b (-1) S kf
  | .gt => ck_wleG b a (-1) S kt && ck_wleG a b 0 S kf
  | .le => ck_wleG a b 0 S kt && ck_wleG b a (-1) S kf
theorem ck_wcG_f : @ck_wcG = @ck_wc := by
  funext F cd a b S kt kf
  cases cd <;> (show _ = _; unfold ck_wcG ck_wc; dsimp only; simp only [ck_weqG_f, ck_wneG_f, ck_wleG_f])
def ck_wlesG (g : List Nat) (N : Nat) : List ck_R → ck_S → (ck_S → Bool) → Bool
  | [], S, k => k S
  | r :: rs, S, k => ck_wleG (ck_ren g N r.1) (ck_ren g N r.2.1) r.2.2 S (fun S => ck_wlesG g N rs S k)
theorem ck_wlesG_f : @ck_wlesG = @ck_wles := by
  funext g N rs
  induction rs with
  | nil => rfl
  | cons r rs ih =>
    funext S k
    show ck_wleG (ck_ren g N r.1) (ck_ren g N r.2.1) r.2.2 S (fun S => ck_wlesG g N rs S k) = ck_wle (ck_ren g N r.1) (ck_ren g N r.2.1) r.2.2 S (fun S => ck_wles g N rs S k)
    rw [ck_wleG_f, ih]
def ck_aftG (S : ck_S) (st : List ck_V) (g : List Nat) (wr : List (Nat × Nat)) (mc ms : Nat) (P : ck_P) (k : ck_S → Bool) : Bool :=
  ck_wlesG g S.2.2.2.1.length P.2.2.2
    (S.1, P.1.map (ck_renV g S.2.2.2.1.length) ++ st, P.2.1.map (fun m => (m.1, m.2.1, ck_renV g S.2.2.2.1.length m.2.2)) ++ S.2.2.1.filter (fun m => m.1 == 0 || !(wr.contains (m.1, m.2.1))),
      S.2.2.2.1 ++ P.2.2.1.drop g.length, S.2.2.2.2.1, S.2.2.2.2.2.1 + mc, S.2.2.2.2.2.2 + ms) k
theorem ck_aftG_f : @ck_aftG = @ck_aft := by
  funext S st g wr mc ms P k
  unfold ck_aftG ck_aft
  rw [ck_wlesG_f]
  try rfl
def ck_callG (F : Nat) (Wr : List (Nat × Nat)) (Rm : Nat × Nat) (S : ck_S) (na : Nat) (C : ck_C) (k : ck_S → Bool) : Bool :=
  (decide (na ≤ S.2.1.length) && (decide (S.2.2.2.2.2.1 + C.2.2.2.1 ≤ Rm.1) && (decide (S.2.2.2.2.2.2 + C.2.2.2.2 ≤ Rm.2) && decide (((S.2.1.drop na).map ck_cat).sum ≤ 8)))) && ((C.2.2.1.all (fun x => Wr.contains x)) &&
  match ck_mt F S [0] (S.2.1.take na).reverse C.1 with
  | some g => decide (g.length = C.1.2.2.1.length) && (C.2.1.all (fun P => (P.1.all (fun v => decide (v.1 < 5)) && P.2.1.all ck_okm) && ck_aftG S (S.2.1.drop na) g C.2.2.1 C.2.2.2.1 C.2.2.2.2 P k))
  | none => false)
theorem ck_callG_f : @ck_callG = @ck_call := by
  funext F Wr Rm S na C k
  unfold ck_callG ck_call
  rw [ck_aftG_f]
  try rfl
def ck_invG (M : ck_Me) (i : Nat) (S : ck_S) (k : ck_S → Bool) : Bool := match (mvl M).find? (fun x => x.1 == i) with
  | some x => if x.2.1 = 0 then (mvl M).any (fun y => y.1 == i && (y.2.1 == 0 && ck_callG (mF M) (mWr M) (mRm M) S y.2.2.1 y.2.2.2 k)) else
      decide (1 ≤ x.2.2.1) && (match S.2.1[x.2.2.1 - 1]? with
        | some r => r.1 == 2 && r.2.2.all (fun t => (mvl M).any (fun y => (y.1 == i && y.2.1 == t) && (y.2.2.1 == x.2.2.1 && (!(t == 0) && ck_callG (mF M) (mWr M) (mRm M) (if r.2.2 = [t] then S else ck_subS r.2.1 (2, r.2.1, [t]) S) x.2.2.1 y.2.2.2 k))))
        | none => false)
  | none => false
theorem ck_invG_f : @ck_invG = @ck_inv := by
  funext M i S k
  unfold ck_invG ck_inv
  rw [ck_callG_f]
  try rfl
def cf_iconst (v : Int) (_ : ck_Me) (_ : Nat → ck_S → Bool) (k : ck_cont) (S : ck_S) (pc : Nat) (len : Nat) : Bool := len == 1 && (decide (-2147483648 ≤ v ∧ v < 2147483648) && k (ck_cst S 0 v) (pc + 1))
def cf_bipush (v : Int) (_ : ck_Me) (_ : Nat → ck_S → Bool) (k : ck_cont) (S : ck_S) (pc : Nat) (len : Nat) : Bool := len == 2 && (decide (-128 ≤ v ∧ v < 128) && k (ck_cst S 0 v) (pc + 2))
def cf_sipush (v : Int) (_ : ck_Me) (_ : Nat → ck_S → Bool) (k : ck_cont) (S : ck_S) (pc : Nat) (len : Nat) : Bool := len == 3 && (decide (-32768 ≤ v ∧ v < 32768) && k (ck_cst S 0 v) (pc + 3))
def cf_lconst (v : Fin 2) (_ : ck_Me) (_ : Nat → ck_S → Bool) (k : ck_cont) (S : ck_S) (pc : Nat) (len : Nat) : Bool := len == 1 && k (ck_cst S 1 (v : Nat)) (pc + 1)
def cf_ldc (i : Nat) (M : ck_Me) (_ : Nat → ck_S → Bool) (k : ck_cont) (S : ck_S) (pc : Nat) (len : Nat) : Bool := len == 2 && (match (mkl M).find? (fun x => x.1 == i && x.2.1 == 0) with
  | some x => k (ck_cst S 0 x.2.2) (pc + 2)
  | none => false)
def cf_ldc_w (i : Nat) (M : ck_Me) (_ : Nat → ck_S → Bool) (k : ck_cont) (S : ck_S) (pc : Nat) (len : Nat) : Bool := len == 3 && (match (mkl M).find? (fun x => x.1 == i && x.2.1 == 0) with
  | some x => k (ck_cst S 0 x.2.2) (pc + 3)
  | none => false)
def cf_ldc2_w (i : Nat) (M : ck_Me) (_ : Nat → ck_S → Bool) (k : ck_cont) (S : ck_S) (pc : Nat) (len : Nat) : Bool := len == 3 && (match (mkl M).find? (fun x => x.1 == i && x.2.1 == 1) with
  | some x => k (ck_cst S 1 x.2.2) (pc + 3)
  | none => false)
def cf_iload_n (i : Fin 4) (_ : ck_Me) (_ : Nat → ck_S → Bool) (k : ck_cont) (S : ck_S) (pc : Nat) (len : Nat) : Bool := len == 1 && ck_ld S i (fun v => v.1 == 0) (fun S => k S (pc + 1))
def cf_iload (i : Nat) (_ : ck_Me) (_ : Nat → ck_S → Bool) (k : ck_cont) (S : ck_S) (pc : Nat) (len : Nat) : Bool := len == 2 && ck_ld S i (fun v => v.1 == 0) (fun S => k S (pc + 2))
def cf_lload_n (i : Fin 4) (_ : ck_Me) (_ : Nat → ck_S → Bool) (k : ck_cont) (S : ck_S) (pc : Nat) (len : Nat) : Bool := len == 1 && ck_ld S i (fun v => v.1 == 1) (fun S => k S (pc + 1))
def cf_lload (i : Nat) (_ : ck_Me) (_ : Nat → ck_S → Bool) (k : ck_cont) (S : ck_S) (pc : Nat) (len : Nat) : Bool := len == 2 && ck_ld S i (fun v => v.1 == 1) (fun S => k S (pc + 2))
def cf_aload_n (i : Fin 4) (_ : ck_Me) (_ : Nat → ck_S → Bool) (k : ck_cont) (S : ck_S) (pc : Nat) (len : Nat) : Bool := len == 1 && ck_ld S i ck_isr (fun S => k S (pc + 1))
def cf_aload (i : Nat) (_ : ck_Me) (_ : Nat → ck_S → Bool) (k : ck_cont) (S : ck_S) (pc : Nat) (len : Nat) : Bool := len == 2 && ck_ld S i ck_isr (fun S => k S (pc + 2))
def cf_istore_n (i : Fin 4) (M : ck_Me) (_ : Nat → ck_S → Bool) (k : ck_cont) (S : ck_S) (pc : Nat) (len : Nat) : Bool := len == 1 && ck_sto (mnL M) S i (fun v => v.1 == 0) (fun S => k S (pc + 1))
def cf_istore (i : Nat) (M : ck_Me) (_ : Nat → ck_S → Bool) (k : ck_cont) (S : ck_S) (pc : Nat) (len : Nat) : Bool := len == 2 && ck_sto (mnL M) S i (fun v => v.1 == 0) (fun S => k S (pc + 2))
def cf_astore_n (i : Fin 4) (M : ck_Me) (_ : Nat → ck_S → Bool) (k : ck_cont) (S : ck_S) (pc : Nat) (len : Nat) : Bool := len == 1 && ck_sto (mnL M) S i ck_isr (fun S => k S (pc + 1))
def cf_astore (i : Nat) (M : ck_Me) (_ : Nat → ck_S → Bool) (k : ck_cont) (S : ck_S) (pc : Nat) (len : Nat) : Bool := len == 2 && ck_sto (mnL M) S i ck_isr (fun S => k S (pc + 2))
def cf_lstore_n (i : Fin 4) (M : ck_Me) (_ : Nat → ck_S → Bool) (k : ck_cont) (S : ck_S) (pc : Nat) (len : Nat) : Bool := len == 1 && ck_sto2 (mnL M) S i (fun S => k S (pc + 1))
def cf_lstore (i : Nat) (M : ck_Me) (_ : Nat → ck_S → Bool) (k : ck_cont) (S : ck_S) (pc : Nat) (len : Nat) : Bool := len == 2 && ck_sto2 (mnL M) S i (fun S => k S (pc + 2))
def cf_iinc (i : Nat) (c : Int) (M : ck_Me) (_ : Nat → ck_S → Bool) (k : ck_cont) (S : ck_S) (pc : Nat) (len : Nat) : Bool := len == 3 && (decide (-32768 ≤ c ∧ c < 32768) && (decide (i < mnL M) && match ck_look S.1 i with
  | some v => v.1 == 0 && (let S1 := ck_cst S 0 c
      match ck_binS 32 0 S1 S.2.1 0 v.2.1 S.2.2.2.1.length with
      | some S' => (match S'.2.1 with
        | w :: _ => k (ck_st1 S.1 i w, S.2.1, S'.2.2) (pc + 3)
        | [] => false)
      | none => false)
  | none => false))
def cf_iadd (_ : ck_Me) (_ : Nat → ck_S → Bool) (k : ck_cont) (S : ck_S) (pc : Nat) (len : Nat) : Bool := len == 1 && ck_b2 32 0 0 S (fun S => k S (pc + 1))
def cf_isub (_ : ck_Me) (_ : Nat → ck_S → Bool) (k : ck_cont) (S : ck_S) (pc : Nat) (len : Nat) : Bool := len == 1 && ck_b2 32 1 0 S (fun S => k S (pc + 1))
def cf_imul (_ : ck_Me) (_ : Nat → ck_S → Bool) (k : ck_cont) (S : ck_S) (pc : Nat) (len : Nat) : Bool := len == 1 && ck_b2 32 2 0 S (fun S => k S (pc + 1))
def cf_iand (_ : ck_Me) (_ : Nat → ck_S → Bool) (k : ck_cont) (S : ck_S) (pc : Nat) (len : Nat) : Bool := len == 1 && ck_b2 32 3 0 S (fun S => k S (pc + 1))
def cf_ior (_ : ck_Me) (_ : Nat → ck_S → Bool) (k : ck_cont) (S : ck_S) (pc : Nat) (len : Nat) : Bool := len == 1 && ck_b2 32 4 0 S (fun S => k S (pc + 1))
def cf_ixor (_ : ck_Me) (_ : Nat → ck_S → Bool) (k : ck_cont) (S : ck_S) (pc : Nat) (len : Nat) : Bool := len == 1 && ck_b2 32 5 0 S (fun S => k S (pc + 1))
def cf_ishl (_ : ck_Me) (_ : Nat → ck_S → Bool) (k : ck_cont) (S : ck_S) (pc : Nat) (len : Nat) : Bool := len == 1 && ck_b2 32 6 0 S (fun S => k S (pc + 1))
def cf_ishr (_ : ck_Me) (_ : Nat → ck_S → Bool) (k : ck_cont) (S : ck_S) (pc : Nat) (len : Nat) : Bool := len == 1 && ck_b2 32 7 0 S (fun S => k S (pc + 1))
def cf_ladd (_ : ck_Me) (_ : Nat → ck_S → Bool) (k : ck_cont) (S : ck_S) (pc : Nat) (len : Nat) : Bool := len == 1 && ck_b2 64 0 1 S (fun S => k S (pc + 1))
def cf_lsub (_ : ck_Me) (_ : Nat → ck_S → Bool) (k : ck_cont) (S : ck_S) (pc : Nat) (len : Nat) : Bool := len == 1 && ck_b2 64 1 1 S (fun S => k S (pc + 1))
def cf_lmul (_ : ck_Me) (_ : Nat → ck_S → Bool) (k : ck_cont) (S : ck_S) (pc : Nat) (len : Nat) : Bool := len == 1 && ck_b2 64 2 1 S (fun S => k S (pc + 1))
def cf_land (_ : ck_Me) (_ : Nat → ck_S → Bool) (k : ck_cont) (S : ck_S) (pc : Nat) (len : Nat) : Bool := len == 1 && ck_b2 64 3 1 S (fun S => k S (pc + 1))
def cf_lor (_ : ck_Me) (_ : Nat → ck_S → Bool) (k : ck_cont) (S : ck_S) (pc : Nat) (len : Nat) : Bool := len == 1 && ck_b2 64 4 1 S (fun S => k S (pc + 1))
def cf_lxor (_ : ck_Me) (_ : Nat → ck_S → Bool) (k : ck_cont) (S : ck_S) (pc : Nat) (len : Nat) : Bool := len == 1 && ck_b2 64 5 1 S (fun S => k S (pc + 1))
def cf_idiv (_ : ck_Me) (_ : Nat → ck_S → Bool) (k : ck_cont) (S : ck_S) (pc : Nat) (len : Nat) : Bool := len == 1 && ck_un S (fun b _ => match S.2.2.2.1[b.2.1]? with
  | some x => (decide (0 < x.1) && decide (x.1 ≤ x.2)) && ck_b2 32 9 0 S (fun S => k S (pc + 1))
  | none => false)
def cf_irem (_ : ck_Me) (_ : Nat → ck_S → Bool) (k : ck_cont) (S : ck_S) (pc : Nat) (len : Nat) : Bool := len == 1 && ck_un S (fun b _ => match S.2.2.2.1[b.2.1]? with
  | some x => (decide (0 < x.1) && decide (x.1 ≤ x.2)) && ck_b2 32 10 0 S (fun S => k S (pc + 1))
  | none => false)
def cf_iushr (_ : ck_Me) (_ : Nat → ck_S → Bool) (k : ck_cont) (S : ck_S) (pc : Nat) (len : Nat) : Bool := len == 1 && (match S.2.1 with
  | b :: a :: st => b.1 == 0 && (a.1 == 0 && k (ck_new S st 0 [] (ck_top 32) []) (pc + 1))
  | _ => false)
def cf_lushr (_ : ck_Me) (_ : Nat → ck_S → Bool) (k : ck_cont) (S : ck_S) (pc : Nat) (len : Nat) : Bool := len == 1 && (match S.2.1 with
  | b :: a :: st => b.1 == 0 && (a.1 == 1 && k (ck_new S st 1 [] (ck_top 64) []) (pc + 1))
  | _ => false)
def cf_lshr (_ : ck_Me) (_ : Nat → ck_S → Bool) (k : ck_cont) (S : ck_S) (pc : Nat) (len : Nat) : Bool := len == 1 && (match S.2.1 with
  | b :: a :: st => b.1 == 0 && (a.1 == 1 && k (ck_new S st 1 [] (ck_top 64) []) (pc + 1))
  | _ => false)
def cf_lshl (_ : ck_Me) (_ : Nat → ck_S → Bool) (k : ck_cont) (S : ck_S) (pc : Nat) (len : Nat) : Bool := len == 1 && (match S.2.1 with
  | b :: a :: st => b.1 == 0 && (a.1 == 1 && (match S.2.2.2.1[a.2.1]?, S.2.2.2.1[b.2.1]? with
    | some x, some y => decide (x.1 ≤ x.2 ∧ y.1 ≤ y.2) && k (ck_new S st 1 [] (ck_bin 64 6 x y) []) (pc + 1)
    | _, _ => false))
  | _ => false)
def cf_ineg (_ : ck_Me) (_ : Nat → ck_S → Bool) (k : ck_cont) (S : ck_S) (pc : Nat) (len : Nat) : Bool := len == 1 && (match S.2.1 with
  | a :: st => a.1 == 0 && (match S.2.2.2.1[a.2.1]? with
    | some x => decide (x.1 ≤ x.2) && k (ck_new S st 0 [] (ck_cl 32 (-x.2, -x.1)) []) (pc + 1)
    | none => false)
  | _ => false)
def cf_i2l (_ : ck_Me) (_ : Nat → ck_S → Bool) (k : ck_cont) (S : ck_S) (pc : Nat) (len : Nat) : Bool := len == 1 && ck_un S (fun v st => v.1 == 0 && k (ck_ss S ((1, v.2.1, []) :: st)) (pc + 1))
def cf_l2i (_ : ck_Me) (_ : Nat → ck_S → Bool) (k : ck_cont) (S : ck_S) (pc : Nat) (len : Nat) : Bool := len == 1 && ck_un S (fun v st => v.1 == 1 && (match S.2.2.2.1[v.2.1]? with
  | some x => decide (x.1 ≤ x.2) && k (if -2147483648 ≤ x.1 ∧ x.2 < 2147483648 then ck_ss S ((0, v.2.1, []) :: st) else ck_new S st 0 [] (ck_top 32) []) (pc + 1)
  | none => false))
def cf_i2b (_ : ck_Me) (_ : Nat → ck_S → Bool) (k : ck_cont) (S : ck_S) (pc : Nat) (len : Nat) : Bool := len == 1 && ck_un S (fun v st => v.1 == 0 && k (ck_new S st 0 [] (-128, 127) []) (pc + 1))
def cf_i2s (_ : ck_Me) (_ : Nat → ck_S → Bool) (k : ck_cont) (S : ck_S) (pc : Nat) (len : Nat) : Bool := len == 1 && ck_un S (fun v st => v.1 == 0 && k (ck_new S st 0 [] (-32768, 32767) []) (pc + 1))
def cf_lcmp (_ : ck_Me) (_ : Nat → ck_S → Bool) (k : ck_cont) (S : ck_S) (pc : Nat) (len : Nat) : Bool := len == 1 && (match S.2.1 with
  | b :: a :: st => b.1 == 1 && (a.1 == 1 && k (ck_ss S ((7, a.2.1, [b.2.1]) :: st)) (pc + 1))
  | _ => false)
def cf_aconst_null (_ : ck_Me) (_ : Nat → ck_S → Bool) (k : ck_cont) (S : ck_S) (pc : Nat) (len : Nat) : Bool := len == 1 && k (ck_new S S.2.1 4 [] (1, 0) []) (pc + 1)
def cf_dup (_ : ck_Me) (_ : Nat → ck_S → Bool) (k : ck_cont) (S : ck_S) (pc : Nat) (len : Nat) : Bool := len == 1 && ck_un S (fun v st => ck_cat v == 1 && k (ck_ss S (v :: v :: st)) (pc + 1))
def cf_pop (_ : ck_Me) (_ : Nat → ck_S → Bool) (k : ck_cont) (S : ck_S) (pc : Nat) (len : Nat) : Bool := len == 1 && ck_un S (fun v st => ck_cat v == 1 && k (ck_ss S st) (pc + 1))
def cf_pop2 (_ : ck_Me) (_ : Nat → ck_S → Bool) (k : ck_cont) (S : ck_S) (pc : Nat) (len : Nat) : Bool := len == 1 && ck_un S (fun v st => v.1 == 1 && k (ck_ss S st) (pc + 1))
def cf_dup2 (_ : ck_Me) (_ : Nat → ck_S → Bool) (k : ck_cont) (S : ck_S) (pc : Nat) (len : Nat) : Bool := len == 1 && (match S.2.1 with
  | a :: b :: st => ck_cat a == 1 && (ck_cat b == 1 && k (ck_ss S (a :: b :: a :: b :: st)) (pc + 1))
  | _ => false)
def cf_goto (o : Int) (_ : ck_Me) (_ : Nat → ck_S → Bool) (k : ck_cont) (S : ck_S) (pc : Nat) (len : Nat) : Bool := len == 3 && ck_tgt pc o (k S)
def cf_ifCond (cd : ClassFile.Cond) (o : Int) (M : ck_Me) (_ : Nat → ck_S → Bool) (k : ck_cont) (S : ck_S) (pc : Nat) (len : Nat) : Bool := len == 3 && decide (0 ≤ (pc : Int) + o) && ck_un S (fun v st => if v.1 = 7 then (match v.2.2 with
    | [b] => ck_wcG (mF M) cd v.2.1 b (ck_ss S st) (fun S => ck_tgt pc o (k S)) (fun S => k S (pc + 3))
    | _ => false) else v.1 == 0 && ck_wcG (mF M) cd v.2.1 0 (ck_ss S st) (fun S => ck_tgt pc o (k S)) (fun S => k S (pc + 3)))
def cf_if_icmp (cd : ClassFile.Cond) (o : Int) (M : ck_Me) (_ : Nat → ck_S → Bool) (k : ck_cont) (S : ck_S) (pc : Nat) (len : Nat) : Bool := len == 3 && decide (0 ≤ (pc : Int) + o) && (match S.2.1 with
  | b :: a :: st => b.1 == 0 && (a.1 == 0 && ck_wcG (mF M) cd a.2.1 b.2.1 (ck_ss S st) (fun S => ck_tgt pc o (k S)) (fun S => k S (pc + 3)))
  | _ => false)
def cf_ifnull (o : Int) (_ : ck_Me) (_ : Nat → ck_S → Bool) (k : ck_cont) (S : ck_S) (pc : Nat) (len : Nat) : Bool := len == 3 && ck_nul S (fun S => ck_tgt pc o (k S)) (fun S => k S (pc + 3))
def cf_ifnonnull (o : Int) (_ : ck_Me) (_ : Nat → ck_S → Bool) (k : ck_cont) (S : ck_S) (pc : Nat) (len : Nat) : Bool := len == 3 && ck_nul S (fun S => k S (pc + 3)) (fun S => ck_tgt pc o (k S))
def cf_tableswitch (d : Int) (lo : Int) (hi : Int) (os : Array Int) (_ : ck_Me) (_ : Nat → ck_S → Bool) (k : ck_cont) (S : ck_S) (pc : Nat) (_ : Nat) : Bool := ck_un S (fun v st => v.1 == 0 && (decide (hi = lo + (os.size : Int) - 1) && (ck_sw v.2.1 lo (ck_ss S st) pc k os.toList &&
    (ck_iv v.2.1 (-2147483648) (lo - 1) (ck_ss S st) (fun S => ck_tgt pc d (k S)) && ck_iv v.2.1 (hi + 1) 2147483647 (ck_ss S st) (fun S => ck_tgt pc d (k S))))))
def cf_getfield (i : Nat) (M : ck_Me) (_ : Nat → ck_S → Bool) (k : ck_cont) (S : ck_S) (pc : Nat) (len : Nat) : Bool := len == 3 && ck_get M i S (fun S => k S (pc + 3))
def cf_putfield (i : Nat) (M : ck_Me) (_ : Nat → ck_S → Bool) (k : ck_cont) (S : ck_S) (pc : Nat) (len : Nat) : Bool := len == 3 && ck_put M i S (fun S => k S (pc + 3))
def cf_getstatic (i : Nat) (M : ck_Me) (_ : Nat → ck_S → Bool) (k : ck_cont) (S : ck_S) (pc : Nat) (len : Nat) : Bool := len == 3 && ((mgl M).contains i && k (ck_new S S.2.1 6 [] (1, 0) []) (pc + 3))
def cf_iaload (M : ck_Me) (_ : Nat → ck_S → Bool) (k : ck_cont) (S : ck_S) (pc : Nat) (len : Nat) : Bool := len == 1 && (match S.2.1 with
  | _ :: r :: _ => if r.1 = 5 then ck_sld M S (fun S => k S (pc + 1)) else ck_ald M 1 S (fun S => k S (pc + 1))
  | _ => false)
def cf_laload (M : ck_Me) (_ : Nat → ck_S → Bool) (k : ck_cont) (S : ck_S) (pc : Nat) (len : Nat) : Bool := len == 1 && (match S.2.1 with
  | _ :: r :: _ => if r.1 = 6 then ck_wld M S (fun S => k S (pc + 1)) else ck_ald M 2 S (fun S => k S (pc + 1))
  | _ => false)
def cf_baload (M : ck_Me) (_ : Nat → ck_S → Bool) (k : ck_cont) (S : ck_S) (pc : Nat) (len : Nat) : Bool := len == 1 && ck_ald M 4 S (fun S => k S (pc + 1))
def cf_aaload (M : ck_Me) (_ : Nat → ck_S → Bool) (k : ck_cont) (S : ck_S) (pc : Nat) (len : Nat) : Bool := len == 1 && (match S.2.1 with
  | _ :: r :: _ => (match r.2.2 with
    | t :: _ => (match (mTT M)[t]? with
      | some td => if td.1 = 3 then ck_ald M 3 S (fun S => k S (pc + 1)) else ck_ald M 5 S (fun S => k S (pc + 1))
      | none => false)
    | [] => false)
  | _ => false)
def cf_iastore (M : ck_Me) (_ : Nat → ck_S → Bool) (k : ck_cont) (S : ck_S) (pc : Nat) (len : Nat) : Bool := len == 1 && ck_ast M 1 S (fun S => k S (pc + 1))
def cf_lastore (M : ck_Me) (_ : Nat → ck_S → Bool) (k : ck_cont) (S : ck_S) (pc : Nat) (len : Nat) : Bool := len == 1 && ck_ast M 2 S (fun S => k S (pc + 1))
def cf_bastore (M : ck_Me) (_ : Nat → ck_S → Bool) (k : ck_cont) (S : ck_S) (pc : Nat) (len : Nat) : Bool := len == 1 && ck_ast M 4 S (fun S => k S (pc + 1))
def cf_aastore (M : ck_Me) (_ : Nat → ck_S → Bool) (k : ck_cont) (S : ck_S) (pc : Nat) (len : Nat) : Bool := len == 1 && ck_aast M S (fun S => k S (pc + 1))
def cf_arraylength (M : ck_Me) (_ : Nat → ck_S → Bool) (k : ck_cont) (S : ck_S) (pc : Nat) (len : Nat) : Bool := len == 1 && ck_len M S (fun S => k S (pc + 1))
def cf_new (i : Nat) (M : ck_Me) (_ : Nat → ck_S → Bool) (k : ck_cont) (S : ck_S) (pc : Nat) (len : Nat) : Bool := len == 3 && ck_mk M i S (fun S => k S (pc + 3))
def cf_instanceof (i : Nat) (M : ck_Me) (_ : Nat → ck_S → Bool) (k : ck_cont) (S : ck_S) (pc : Nat) (len : Nat) : Bool := len == 3 && ck_ins M i S (fun S => k S (pc + 3))
def cf_checkcast (i : Nat) (M : ck_Me) (_ : Nat → ck_S → Bool) (k : ck_cont) (S : ck_S) (pc : Nat) (len : Nat) : Bool := len == 3 && ck_cas M i S (fun S => k S (pc + 3))
def cf_invokevirtual (i : Nat) (M : ck_Me) (_ : Nat → ck_S → Bool) (k : ck_cont) (S : ck_S) (pc : Nat) (len : Nat) : Bool := len == 3 && ck_invG M (3 * i) S (fun S => k S (pc + 3))
def cf_invokestatic (i : Nat) (M : ck_Me) (_ : Nat → ck_S → Bool) (k : ck_cont) (S : ck_S) (pc : Nat) (len : Nat) : Bool := len == 3 && ck_invG M (3 * i + 1) S (fun S => k S (pc + 3))
def cf_invokespecial (i : Nat) (M : ck_Me) (_ : Nat → ck_S → Bool) (k : ck_cont) (S : ck_S) (pc : Nat) (len : Nat) : Bool := len == 3 && ck_invG M (3 * i + 2) S (fun S => k S (pc + 3))
def cf_return (_ : ck_Me) (kr : Nat → ck_S → Bool) (_ : ck_cont) (S : ck_S) (_ : Nat) (len : Nat) : Bool := len == 1 && (match S.2.1 with
  | [] => kr 0 S
  | _ => false)
def cf_ireturn (_ : ck_Me) (kr : Nat → ck_S → Bool) (_ : ck_cont) (S : ck_S) (_ : Nat) (len : Nat) : Bool := len == 1 && (match S.2.1 with
  | [v] => v.1 == 0 && kr 1 S
  | _ => false)
def cf_lreturn (_ : ck_Me) (kr : Nat → ck_S → Bool) (_ : ck_cont) (S : ck_S) (_ : Nat) (len : Nat) : Bool := len == 1 && (match S.2.1 with
  | [v] => v.1 == 1 && kr 2 S
  | _ => false)
def cf_areturn (_ : ck_Me) (kr : Nat → ck_S → Bool) (_ : ck_cont) (S : ck_S) (_ : Nat) (len : Nat) : Bool := len == 1 && (match S.2.1 with
  | [v] => (v.1 == 2 || (v.1 == 3 || v.1 == 4)) && kr 3 S
  | _ => false)
def ck_stepG (ins : Instr) : ck_stp := match ins with
  | .iconst v => cf_iconst v
  | .bipush v => cf_bipush v
  | .sipush v => cf_sipush v
  | .lconst v => cf_lconst v
  | .ldc i => cf_ldc i
  | .ldc_w i => cf_ldc_w i
  | .ldc2_w i => cf_ldc2_w i
  | .iload_n i => cf_iload_n i
  | .iload i => cf_iload i
  | .lload_n i => cf_lload_n i
  | .lload i => cf_lload i
  | .aload_n i => cf_aload_n i
  | .aload i => cf_aload i
  | .istore_n i => cf_istore_n i
  | .istore i => cf_istore i
  | .astore_n i => cf_astore_n i
  | .astore i => cf_astore i
  | .lstore_n i => cf_lstore_n i
  | .lstore i => cf_lstore i
  | .iinc i c => cf_iinc i c
  | .iadd => cf_iadd
  | .isub => cf_isub
  | .imul => cf_imul
  | .iand => cf_iand
  | .ior => cf_ior
  | .ixor => cf_ixor
  | .ishl => cf_ishl
  | .ishr => cf_ishr
  | .ladd => cf_ladd
  | .lsub => cf_lsub
  | .lmul => cf_lmul
  | .land => cf_land
  | .lor => cf_lor
  | .lxor => cf_lxor
  | .idiv => cf_idiv
  | .irem => cf_irem
  | .iushr => cf_iushr
  | .lushr => cf_lushr
  | .lshr => cf_lshr
  | .lshl => cf_lshl
  | .ineg => cf_ineg
  | .i2l => cf_i2l
  | .l2i => cf_l2i
  | .i2b => cf_i2b
  | .i2s => cf_i2s
  | .lcmp => cf_lcmp
  | .aconst_null => cf_aconst_null
  | .dup => cf_dup
  | .pop => cf_pop
  | .pop2 => cf_pop2
  | .dup2 => cf_dup2
  | .goto o => cf_goto o
  | .ifCond cd o => cf_ifCond cd o
  | .if_icmp cd o => cf_if_icmp cd o
  | .ifnull o => cf_ifnull o
  | .ifnonnull o => cf_ifnonnull o
  | .tableswitch d lo hi os => cf_tableswitch d lo hi os
  | .getfield i => cf_getfield i
  | .putfield i => cf_putfield i
  | .getstatic i => cf_getstatic i
  | .iaload => cf_iaload
  | .laload => cf_laload
  | .baload => cf_baload
  | .aaload => cf_aaload
  | .iastore => cf_iastore
  | .lastore => cf_lastore
  | .bastore => cf_bastore
  | .aastore => cf_aastore
  | .arraylength => cf_arraylength
  | .new i => cf_new i
  | .instanceof i => cf_instanceof i
  | .checkcast i => cf_checkcast i
  | .invokevirtual i => cf_invokevirtual i
  | .invokestatic i => cf_invokestatic i
  | .invokespecial i => cf_invokespecial i
  | .return_ => cf_return
  | .ireturn => cf_ireturn
  | .lreturn => cf_lreturn
  | .areturn => cf_areturn
  | _ => fun _ _ _ _ _ _ => false
theorem cfe_ifCond {M : ck_Me} {kr : Nat → ck_S → Bool} {k : ck_cont} {S : ck_S} {pc len : Nat} {cd : ClassFile.Cond} {o : Int} : cf_ifCond cd o M kr k S pc len = ck_step M kr k S pc (.ifCond cd o) len := by
  unfold cf_ifCond
  rw [ck_wcG_f]
  rfl
theorem cfe_if_icmp {M : ck_Me} {kr : Nat → ck_S → Bool} {k : ck_cont} {S : ck_S} {pc len : Nat} {cd : ClassFile.Cond} {o : Int} : cf_if_icmp cd o M kr k S pc len = ck_step M kr k S pc (.if_icmp cd o) len := by
  unfold cf_if_icmp
  rw [ck_wcG_f]
  rfl
theorem cfe_invokevirtual {M : ck_Me} {kr : Nat → ck_S → Bool} {k : ck_cont} {S : ck_S} {pc len : Nat} {i : Nat} : cf_invokevirtual i M kr k S pc len = ck_step M kr k S pc (.invokevirtual i) len := by
  unfold cf_invokevirtual
  rw [ck_invG_f]
  rfl
theorem cfe_invokestatic {M : ck_Me} {kr : Nat → ck_S → Bool} {k : ck_cont} {S : ck_S} {pc len : Nat} {i : Nat} : cf_invokestatic i M kr k S pc len = ck_step M kr k S pc (.invokestatic i) len := by
  unfold cf_invokestatic
  rw [ck_invG_f]
  rfl
theorem cfe_invokespecial {M : ck_Me} {kr : Nat → ck_S → Bool} {k : ck_cont} {S : ck_S} {pc len : Nat} {i : Nat} : cf_invokespecial i M kr k S pc len = ck_step M kr k S pc (.invokespecial i) len := by
  unfold cf_invokespecial
  rw [ck_invG_f]
  rfl
theorem ck_stepG_eq {M : ck_Me} {kr : Nat → ck_S → Bool} {k : ck_cont} {S : ck_S} {pc len : Nat} {ins : Instr} : ck_stepG ins M kr k S pc len = ck_step M kr k S pc ins len := by
  cases ins with
  | ifCond cd o => exact cfe_ifCond
  | if_icmp cd o => exact cfe_if_icmp
  | invokevirtual i => exact cfe_invokevirtual
  | invokestatic i => exact cfe_invokestatic
  | invokespecial i => exact cfe_invokespecial
  | _ => rfl
abbrev ck_cdG : Type := List (Nat × ck_stp × Nat)
def ck_gG (y : Nat × Instr × Nat) : Nat × ck_stp × Nat := (y.1, ck_stepG y.2.1, y.2.2)
theorem ck_nb (a b : Nat) : Nat.beq a b = (a == b) := Bool.eq_iff_iff.mpr (by rw [Nat.beq_eq, beq_iff_eq])
def ck_fndG (code : ck_cdG) (pc : Nat) : Option (ck_stp × Nat × ck_cdG) := @List.rec (Nat × ck_stp × Nat) (fun _ => Option (ck_stp × Nat × ck_cdG)) none (fun y t ih => match Nat.beq y.1 pc with
  | true => some (y.2.1, y.2.2, t)
  | false => ih) code
def ck_sfxG (code suf : ck_cdG) (pc : Nat) : Option (ck_stp × Nat × ck_cdG) := match suf with
  | y :: t => (match Nat.beq y.1 pc with
    | true => some (y.2.1, y.2.2, t)
    | false => ck_fndG code pc)
  | [] => ck_fndG code pc
def ck_fdG (sp : ck_spc) (pc : Nat) : Option (Nat × Nat × (ck_S → Option (List ck_S))) := @List.rec (Nat × Nat × (ck_S → Option (List ck_S))) (fun _ => Option (Nat × Nat × (ck_S → Option (List ck_S)))) none (fun x _ ih => match Nat.beq x.1 pc with
  | true => some x
  | false => ih) sp
theorem ck_fdG_eq {pc : Nat} : ∀ {sp : ck_spc}, ck_fdG sp pc = sp.find? (fun x => x.1 == pc)
  | [] => rfl
  | x :: t => by
    have ih := ck_fdG_eq (pc := pc) (sp := t)
    rw [List.find?_cons, ← ck_nb, ← ih]
    show (match Nat.beq x.1 pc with
      | true => some x
      | false => ck_fdG t pc) = _
    cases Nat.beq x.1 pc <;> rfl
abbrev ck_yG (y : Instr × Nat × ck_cd) : ck_stp × Nat × ck_cdG := (ck_stepG y.1, y.2.1, y.2.2.map ck_gG)
theorem ck_fnd_c {y : Nat × Instr × Nat} {t : ck_cd} {pc : Nat} : ck_fnd (y :: t) pc = match Nat.beq y.1 pc with
    | true => some (y.2.1, y.2.2, t)
    | false => ck_fnd t pc := by
  by_cases h : y.1 = pc
  · have hb : Nat.beq y.1 pc = true := by
      rw [Nat.beq_eq]
      exact h
    have e : (y :: t).dropWhile (fun y => !(y.1 == pc)) = y :: t := by
      rw [List.dropWhile_cons, ← ck_nb, hb]
      rfl
    rw [hb]
    unfold ck_fnd
    rw [e]
    exact if_pos h
  · have hb : Nat.beq y.1 pc = false := Bool.eq_false_iff.mpr (fun z => h (Nat.eq_of_beq_eq_true z))
    have e : (y :: t).dropWhile (fun y => !(y.1 == pc)) = t.dropWhile (fun y => !(y.1 == pc)) := by
      rw [List.dropWhile_cons, ← ck_nb, hb]
      rfl
    rw [hb]
    show ck_fnd (y :: t) pc = ck_fnd t pc
    unfold ck_fnd
    rw [e]
theorem ck_fndG_eq {pc : Nat} : ∀ {l : ck_cd}, ck_fndG (l.map ck_gG) pc = (ck_fnd l pc).map ck_yG
  | [] => rfl
  | y :: t => by
    have ih := ck_fndG_eq (pc := pc) (l := t)
    rw [ck_fnd_c]
    show (match Nat.beq y.1 pc with
      | true => some (ck_stepG y.2.1, y.2.2, t.map ck_gG)
      | false => ck_fndG (t.map ck_gG) pc) = _
    rw [ih]
    cases Nat.beq y.1 pc <;> rfl
theorem ck_sfxG_eq {code suf : ck_cd} {pc : Nat} : ck_sfxG (code.map ck_gG) (suf.map ck_gG) pc = (ck_sfx code suf pc).map ck_yG := by
  cases suf with
  | nil => exact ck_fndG_eq
  | cons y t =>
    have e : ck_sfx code (y :: t) pc = match Nat.beq y.1 pc with
        | true => some (y.2.1, y.2.2, t)
        | false => ck_fnd code pc := by
      by_cases h : y.1 = pc
      · have hb : Nat.beq y.1 pc = true := by
          rw [Nat.beq_eq]
          exact h
        rw [hb]
        exact if_pos h
      · have hb : Nat.beq y.1 pc = false := Bool.eq_false_iff.mpr (fun z => h (Nat.eq_of_beq_eq_true z))
        rw [hb]
        exact if_neg h
    rw [e]
    show (match Nat.beq y.1 pc with
      | true => some (ck_stepG y.2.1, y.2.2, t.map ck_gG)
      | false => ck_fndG (code.map ck_gG) pc) = _
    rw [ck_fndG_eq]
    cases Nat.beq y.1 pc <;> rfl
def ck_doG (M : ck_Me) (kr : Nat → ck_S → Bool) (sp : ck_spc) (code suf : ck_cdG) (k : ck_cdG → ck_S → Nat → Bool) (S : ck_S) (pc : Nat) : Bool := match ck_fdG sp pc with
  | some x => (match x.2.2 S with
    | some L => L.all (fun S' => k code S' x.2.1)
    | none => false)
  | none => match ck_sfxG code suf pc with
      | some y => y.1 M kr (fun S pc => k y.2.2 S pc) S pc y.2.1
      | none => false
theorem ck_doG_eq {M : ck_Me} {kr : Nat → ck_S → Bool} {sp : ck_spc} {code suf : ck_cd} {kG : ck_cdG → ck_S → Nat → Bool} {k : ck_cd → ck_S → Nat → Bool} (hk : ∀ suf S pc, kG (suf.map ck_gG) S pc = k suf S pc) {S : ck_S} {pc : Nat} :
    ck_doG M kr sp (code.map ck_gG) (suf.map ck_gG) kG S pc = ck_do M kr sp code suf k S pc := by
  unfold ck_doG ck_do
  rw [ck_fdG_eq, ck_sfxG_eq]
  cases sp.find? (fun x => x.1 == pc) with
  | some x =>
    dsimp only
    cases x.2.2 S with
    | some L =>
      dsimp only
      have e : (fun S' => kG (code.map ck_gG) S' x.2.1) = (fun S' => k code S' x.2.1) := funext (fun _ => hk _ _ _)
      rw [e]
    | none => rfl
  | none =>
    dsimp only
    cases ck_sfx code suf pc with
    | some y =>
      have e : (fun S pc => kG (y.2.2.map ck_gG) S pc) = (fun S pc => k y.2.2 S pc) := funext (fun _ => funext (fun _ => hk _ _ _))
      show ck_stepG y.1 M kr (fun S pc => kG (y.2.2.map ck_gG) S pc) S pc y.2.1 = _
      rw [e]
      exact ck_stepG_eq
    | none => rfl
def ck_goG (M : ck_Me) (kr : Nat → ck_S → Bool) (sp : ck_spc) (code : ck_cdG) (ivs : List (Nat × ck_I)) (nE : Nat) (cur : Option ck_K) (f : Nat) : ck_cdG → ck_S → Nat → Bool :=
  @Nat.rec (fun _ => ck_cdG → ck_S → Nat → Bool) (fun _ _ _ => false) (fun _ ih suf S pc => match ck_ex1 ivs (fun x => Nat.beq x.1 pc) with
    | true => ck_ex1 ivs (fun x => Nat.beq x.1 pc && ck_to (mF M) nE cur S x.2)
    | false => ck_doG M kr sp code suf ih S pc) f
theorem ck_goG_eq {M : ck_Me} {kr : Nat → ck_S → Bool} {sp : ck_spc} {code : ck_cd} {ivs : List (Nat × ck_I)} {nE : Nat} {cur : Option ck_K} : ∀ (f : Nat) (suf : ck_cd) (S : ck_S) (pc : Nat),
    ck_goG M kr sp (code.map ck_gG) ivs nE cur f (suf.map ck_gG) S pc = ck_go M kr sp code ivs nE cur f suf S pc
  | 0, _, _, _ => rfl
  | f + 1, suf, S, pc => by
    have e1 : ck_ex1 ivs (fun x => Nat.beq x.1 pc) = ivs.any (fun x => x.1 == pc) := by
      rw [ck_ex1_eq]
      exact congrArg ivs.any (funext (fun x => ck_nb x.1 pc))
    have e2 : ck_ex1 ivs (fun x => Nat.beq x.1 pc && ck_to (mF M) nE cur S x.2) = ivs.any (fun x => x.1 == pc && ck_to (mF M) nE cur S x.2) := by
      rw [ck_ex1_eq]
      refine congrArg ivs.any (funext (fun x => ?_))
      rw [ck_nb]
    show (match ck_ex1 ivs (fun x => Nat.beq x.1 pc) with
      | true => ck_ex1 ivs (fun x => Nat.beq x.1 pc && ck_to (mF M) nE cur S x.2)
      | false => ck_doG M kr sp (code.map ck_gG) (suf.map ck_gG) (fun suf S pc => ck_goG M kr sp (code.map ck_gG) ivs nE cur f suf S pc) S pc) = _
    rw [ck_doG_eq (fun suf S pc => ck_goG_eq f suf S pc), e1, e2, ck_go]
    cases ivs.any (fun x => x.1 == pc) <;> rfl
def ck_oneG (M : ck_Me) (kr : Nat → ck_S → Bool) (sp : ck_spc) (code : ck_cdG) (ivs : List (Nat × ck_I)) (nE f : Nat) (x : Nat × ck_I) : Bool := ck_okI nE x.2 && ck_doG M kr sp code code (fun suf S pc => ck_goG M kr sp code ivs nE (some x.2.2) f suf S pc) (ck_si nE x.2) x.1
def ck_chkG (M : ck_Me) (kr : Nat → ck_S → Bool) (sp : ck_spc) (code : ck_cdG) (ivs : List (Nat × ck_I)) (nE f : Nat) (S : ck_S) : Bool := ck_goG M kr sp code ivs nE none f code S 0 && ivs.all (ck_oneG M kr sp code ivs nE f)
theorem ck_chkG_ok {M : ck_Me} {kr : Nat → ck_S → Bool} {sp : ck_spc} {code : ck_cd} {cG : ck_cdG} (hc : code.map ck_gG = cG) {ivs : List (Nat × ck_I)} {nE f : Nat} {S : ck_S} (h : ck_chkG M kr sp cG ivs nE f S = true) : ck_chk M kr sp code ivs nE f S = true := by
  subst hc
  unfold ck_chkG at h
  unfold ck_chk
  rw [ck_goG_eq] at h
  have e : ck_oneG M kr sp (code.map ck_gG) ivs nE f = ck_one M kr sp code ivs nE f := by
    funext x
    unfold ck_oneG ck_one
    rw [ck_doG_eq (fun suf S pc => ck_goG_eq f suf S pc)]
  rw [e] at h
  exact h
end
