noncomputable section
/-! A CHECKER: straight-line abstract runs of a method, proved sound once over the kit's rows; methods are then checked by the kernel. Words: a value (tag, sym, types): 0 int, 1 long, 2 a cell of one of the types, 3 the same or null, 4 null, 5 the script, 7 an lcmp of two syms. -/
abbrev ck_V : Type := Nat × Nat × List Nat
abbrev ck_T : Type := Nat × Int × Int × List Nat
abbrev ck_D : Type := Nat × Nat × Nat × List ck_T
abbrev ck_R : Type := Nat × Nat × Int
abbrev ck_M : Type := Nat × Nat × ck_V
abbrev ck_E : Type := List (Int × Int)
/-- a state: locals, stack, memory, intervals, relations, cells and slots made -/
abbrev ck_S : Type := List (Nat × ck_V) × List ck_V × List ck_M × ck_E × List ck_R × Nat × Nat
/-- a pattern: values, memory, intervals, relations -/
abbrev ck_P : Type := List ck_V × List ck_M × ck_E × List ck_R
/-- a contract: entry, cases, what it may write, cells and slots made -/
abbrev ck_C : Type := ck_P × List ck_P × List (Nat × Nat) × Nat × Nat
/-- a place with a picture: locals, stack, memory, intervals, relations, made, rank -/
abbrev ck_K : Type := List (Nat × Nat × Int)
abbrev ck_I : Type := ck_S × ck_K
def ck_max (a b : Int) : Int := if a ≤ b then b else a
def ck_min (a b : Int) : Int := if a ≤ b then a else b
theorem ck_max_le {a b c : Int} : ck_max a b ≤ c ↔ a ≤ c ∧ b ≤ c := by unfold ck_max; split <;> omega
theorem ck_le_min {a b c : Int} : c ≤ ck_min a b ↔ c ≤ a ∧ c ≤ b := by unfold ck_min; split <;> omega
/-- a ≤ b, by the numbers' forms: cheap for the kernel -/
def ck_il (a b : Int) : Bool := Int.casesOn a (fun m => Int.casesOn b (fun n => Nat.ble m n) (fun _ => false)) (fun m => Int.casesOn b (fun _ => true) (fun n => Nat.ble n m))
theorem ck_il_iff {a b : Int} : ck_il a b = true ↔ a ≤ b := by
  cases a with
  | ofNat m =>
    have e1 : Int.ofNat m = (m : Int) := rfl
    cases b with
    | ofNat n =>
      have e2 : Int.ofNat n = (n : Int) := rfl
      show Nat.ble m n = true ↔ _
      rw [Nat.ble_eq, e1, e2]
      omega
    | negSucc n =>
      have e2 := Int.negSucc_eq n
      show false = true ↔ _
      rw [e1, e2]
      exact ⟨fun z => absurd z Bool.false_ne_true, fun z => by omega⟩
  | negSucc m =>
    have e1 := Int.negSucc_eq m
    cases b with
    | ofNat n =>
      have e2 : Int.ofNat n = (n : Int) := rfl
      show true = true ↔ _
      rw [e1, e2]
      exact ⟨fun _ => by omega, fun _ => rfl⟩
    | negSucc n =>
      have e2 := Int.negSucc_eq n
      show Nat.ble n m = true ↔ _
      rw [Nat.ble_eq, e1, e2]
      omega
/-- the k-th, and 'some', by the rows' own recursion -/
noncomputable def ck_nth {α : Type} (l : List α) : Nat → Option α := @List.rec α (fun _ => Nat → Option α) (fun _ => none) (fun x _ ih k => @Nat.rec (fun _ => Option α) (some x) (fun m _ => ih m) k) l
theorem ck_nth_eq {α : Type} : ∀ {l : List α} {k : Nat}, ck_nth l k = l[k]?
  | [], _ => by
    rw [List.getElem?_nil]
    rfl
  | x :: l, 0 => by
    rw [List.getElem?_cons_zero]
    rfl
  | x :: l, k + 1 => by
    rw [List.getElem?_cons_succ, ← ck_nth_eq (l := l) (k := k)]
    rfl
noncomputable def ck_ex1 {α : Type} (l : List α) (p : α → Bool) : Bool := @List.rec α (fun _ => Bool) false (fun x _ ih => @Bool.rec (fun _ => Bool) ih true (p x)) l
theorem ck_ex1_eq {α : Type} {p : α → Bool} : ∀ {l : List α}, ck_ex1 l p = l.any p
  | [] => rfl
  | x :: l => by
    rw [List.any_cons, ← ck_ex1_eq (l := l) (p := p)]
    show @Bool.rec (fun _ => Bool) (ck_ex1 l p) true (p x) = _
    cases p x <;> rfl
/-- some relation of a leads on -/
noncomputable def ck_exE (R : List ck_R) (a : Nat) (p : Nat → Int → Bool) : Bool := @List.rec ck_R (fun _ => Bool) false (fun r _ ih => @Bool.rec (fun _ => Bool) ih (@Bool.rec (fun _ => Bool) ih true (p r.2.1 r.2.2)) (Nat.beq r.1 a)) R
theorem ck_exE_eq {a : Nat} {p : Nat → Int → Bool} : ∀ {R : List ck_R}, ck_exE R a p = R.any (fun r => Nat.beq r.1 a && p r.2.1 r.2.2)
  | [] => rfl
  | r :: R => by
    rw [List.any_cons, ← ck_exE_eq (a := a) (p := p) (R := R)]
    show @Bool.rec (fun _ => Bool) (ck_exE R a p) (@Bool.rec (fun _ => Bool) (ck_exE R a p) true (p r.2.1 r.2.2)) (Nat.beq r.1 a) = _
    cases Nat.beq r.1 a <;> cases p r.2.1 r.2.2 <;> rfl
noncomputable def ck_dir (E : ck_E) (a b : Nat) (c : Int) : Bool :=
  (Nat.beq a b && ck_il 0 c) || match ck_nth E a, ck_nth E b with
    | some x, some y => ck_il x.1 x.2 && (ck_il y.1 y.2 && ck_il x.2 (Int.add y.1 c))
    | _, _ => false
noncomputable def ck_ent (E : ck_E) (R : List ck_R) (F : Nat) : Nat → Nat → Int → Bool :=
  @Nat.rec (fun _ => Nat → Nat → Int → Bool) (fun a b c => ck_dir E a b c) (fun _ ih a b c => @Bool.rec (fun _ => Bool) (ck_exE R a (fun d e => ih d b (Int.sub c e))) true (ck_dir E a b c)) F
theorem ck_ent_s {E : ck_E} {R : List ck_R} {F a b : Nat} {c : Int} : ck_ent E R (F + 1) a b c = (ck_dir E a b c || R.any (fun r => Nat.beq r.1 a && ck_ent E R F r.2.1 b (c - r.2.2))) := by
  have e : ck_exE R a (fun d e => ck_ent E R F d b (Int.sub c e)) = R.any (fun r => Nat.beq r.1 a && ck_ent E R F r.2.1 b (c - r.2.2)) := ck_exE_eq
  rw [← e]
  show @Bool.rec (fun _ => Bool) (ck_exE R a (fun d e => ck_ent E R F d b (Int.sub c e))) true (ck_dir E a b c) = _
  cases ck_dir E a b c <;> rfl
/-- the meaning -/
abbrev ck_N : Type := Nat → Int × Value
def ck_eo (E : ck_E) (n : ck_N) : Prop := ∀ (k : Nat) (x : Int × Int), E[k]? = some x → x.1 ≤ x.2 → x.1 ≤ (n k).1 ∧ (n k).1 ≤ x.2
def ck_ro (R : List ck_R) (n : ck_N) (N : Nat) : Prop := ∀ r ∈ R, r.1 < N ∧ r.2.1 < N ∧ (n r.1).1 ≤ (n r.2.1).1 + r.2.2
theorem ck_dir_ok {E : ck_E} {n : ck_N} (hE : ck_eo E n) {a b : Nat} {c : Int} (h : ck_dir E a b c = true) : (n a).1 ≤ (n b).1 + c := by
  unfold ck_dir at h
  rw [Bool.or_eq_true] at h
  rcases h with h | h
  · rw [Bool.and_eq_true] at h
    have h1 := Nat.eq_of_beq_eq_true h.1
    have h2 := ck_il_iff.mp h.2
    subst h1
    omega
  · split at h
    · rename_i x y hx hy
      rw [ck_nth_eq] at hx hy
      rw [Bool.and_eq_true, Bool.and_eq_true] at h
      have h1 := ck_il_iff.mp h.1
      have h2 := ck_il_iff.mp h.2.1
      have h3 := ck_il_iff.mp h.2.2
      have h3 : x.2 ≤ y.1 + c := h3
      have a1 := hE a x hx h1
      have a2 := hE b y hy h2
      omega
    · cases h
theorem ck_ent_ok {E : ck_E} {R : List ck_R} {n : ck_N} {N : Nat} (hE : ck_eo E n) (hR : ck_ro R n N) : ∀ (f a b : Nat) (c : Int), ck_ent E R f a b c = true → (n a).1 ≤ (n b).1 + c := by
  intro f
  induction f with
  | zero => exact fun a b c h => ck_dir_ok hE h
  | succ f ih =>
    intro a b c h
    rw [ck_ent_s, Bool.or_eq_true] at h
    rcases h with h | h
    · exact ck_dir_ok hE h
    · obtain ⟨r, hr, h⟩ := List.any_eq_true.mp h
      rw [Bool.and_eq_true] at h
      have h1 := Nat.eq_of_beq_eq_true h.1
      have h2 := ih _ _ _ h.2
      have h3 := (hR r hr).2.2
      rw [h1] at h3
      omega
/-- learn that a ≤ b + c -/
def ck_le (a b : Nat) (c : Int) (E : ck_E) (R : List ck_R) : ck_E × List ck_R :=
  match E[a]?, E[b]? with
  | some x, some y =>
    if x.1 ≤ x.2 ∧ y.1 ≤ y.2 then
      ((E.set a (x.1, ck_min x.2 (y.2 + c))).set b (ck_max y.1 (x.1 - c), if a = b then ck_min x.2 (y.2 + c) else y.2), if x.1 = x.2 ∨ y.1 = y.2 then R else (a, b, c) :: R)
    else (E, R)
  | _, _ => (E, R)
/-- no number is left for a -/
def ck_dead (E : ck_E) (a : Nat) : Bool := match E[a]? with
  | some x => decide (x.2 < x.1)
  | none => false
theorem ck_le_len (a b : Nat) (c : Int) (E : ck_E) (R : List ck_R) : (ck_le a b c E R).1.length = E.length := by
  unfold ck_le
  split
  · split <;> simp
  · rfl
theorem ck_le_ok {E : ck_E} {R : List ck_R} {n : ck_N} (hE : ck_eo E n) (hR : ck_ro R n E.length) {a b : Nat} {c : Int} (h : (n a).1 ≤ (n b).1 + c) :
    ck_eo (ck_le a b c E R).1 n ∧ ck_ro (ck_le a b c E R).2 n E.length ∧ (∀ x, E[a]? = some x → x.1 ≤ x.2 → ck_dead (ck_le a b c E R).1 a = false) ∧ (∀ x, E[b]? = some x → x.1 ≤ x.2 → ck_dead (ck_le a b c E R).1 b = false) := by
  have dead0 : ∀ (k : Nat) (x : Int × Int), E[k]? = some x → x.1 ≤ x.2 → ck_dead E k = false := by
    intro k x hx hle
    simp only [ck_dead, hx]
    exact decide_eq_false (by omega)
  unfold ck_le
  split
  · rename_i x y hx hy
    split
    · rename_i hxy
      have hla : a < E.length := (List.getElem?_eq_some_iff.mp hx).1
      have hlb : b < E.length := (List.getElem?_eq_some_iff.mp hy).1
      have ha := hE a x hx hxy.1
      have hb := hE b y hy hxy.2
      have key : ∀ (k : Nat) (z : Int × Int), ((E.set a (x.1, ck_min x.2 (y.2 + c))).set b (ck_max y.1 (x.1 - c), if a = b then ck_min x.2 (y.2 + c) else y.2))[k]? = some z → (k = a ∨ k = b ∨ z.1 ≤ z.2) → z.1 ≤ (n k).1 ∧ (n k).1 ≤ z.2 := by
        intro k z hz hk
        rw [List.getElem?_set] at hz
        by_cases e1 : b = k
        · subst e1
          rw [if_pos rfl] at hz
          simp only [List.length_set, hlb, if_true, Option.some.injEq] at hz
          subst hz
          refine ⟨ck_max_le.mpr ⟨hb.1, by omega⟩, ?_⟩
          show (n b).1 ≤ (if a = b then ck_min x.2 (y.2 + c) else y.2)
          split
          · rename_i e2
            subst e2
            exact ck_le_min.mpr ⟨ha.2, by omega⟩
          · exact hb.2
        · rw [if_neg e1, List.getElem?_set] at hz
          by_cases e2 : a = k
          · subst e2
            rw [if_pos rfl] at hz
            simp only [hla, if_true, Option.some.injEq] at hz
            subst hz
            exact ⟨ha.1, ck_le_min.mpr ⟨ha.2, by omega⟩⟩
          · rw [if_neg e2] at hz
            rcases hk with hk | hk | hk
            · exact absurd hk.symm e2
            · exact absurd hk.symm e1
            · exact hE k z hz hk
      refine ⟨fun k z hz hk => key k z hz (Or.inr (Or.inr hk)), ?_, fun _ _ _ => ?_, fun _ _ _ => ?_⟩
      · intro r hr
        dsimp only at hr
        split at hr
        · exact hR r hr
        · rcases List.mem_cons.mp hr with rfl | hr
          · exact ⟨hla, hlb, h⟩
          · exact hR r hr
      · unfold ck_dead
        split
        · rename_i z hz
          exact decide_eq_false (by have := key a z hz (Or.inl rfl); omega)
        · rfl
      · unfold ck_dead
        split
        · rename_i z hz
          exact decide_eq_false (by have := key b z hz (Or.inr (Or.inl rfl)); omega)
        · rfl
    · exact ⟨hE, hR, dead0 a, dead0 b⟩
  · exact ⟨hE, hR, dead0 a, dead0 b⟩
end
noncomputable section
/-! values and worlds under a valuation -/
/-- the script, the row of constants WITH, and the numbers that a rank began with -/
abbrev ck_sc : Type := Option (Nat × Nat × (Nat → Int32)) × Option Nat × (Nat → Int)
def ck_rf (ws : va_W) (sh : List Nat) (ts : List Nat) (v : Value) : Prop := ∃ (q : Nat) (a : Nat) (e : va_E) (t : Nat), v = .ref a ∧ ws[q]? = some (a, e) ∧ sh[q]? = some t ∧ t ∈ ts
def ck_vo (ws : va_W) (sh : List Nat) (sc : ck_sc) (n : ck_N) (N : Nat) (av : ck_V) (v : Value) : Prop :=
  av.2.1 < N ∧ match av.1 with
  | 0 => ∃ x : Int32, v = .int x ∧ x.toInt = (n av.2.1).1
  | 1 => ∃ x : Int64, v = .long x ∧ x.toInt = (n av.2.1).1
  | 2 => v = (n av.2.1).2 ∧ ck_rf ws sh av.2.2 v
  | 3 => v = (n av.2.1).2 ∧ (v = .null ∨ ck_rf ws sh av.2.2 v)
  | 4 => v = (n av.2.1).2 ∧ v = .null
  | 5 => ∃ (b L : Nat) (xs : Nat → Int32), sc.1 = some (b, L, xs) ∧ v = .ref b ∧ (n av.2.1).1 = (L : Int)
  | 6 => ∃ w : Nat, sc.2.1 = some w ∧ v = .ref w
  | 7 => ∃ k2 : Nat, av.2.2 = [k2] ∧ k2 < N ∧ ∃ x y : Int64, v = .int (lg_cmp x y) ∧ x.toInt = (n av.2.1).1 ∧ y.toInt = (n k2).1
  | _ => False
def ck_fo (ws : va_W) (sh : List Nat) (t : ck_T) (v : Value) : Prop := match t.1 with
  | 0 => ∃ x : Int32, v = .int x ∧ t.2.1 ≤ x.toInt ∧ x.toInt ≤ t.2.2.1
  | 1 => ∃ x : Int64, v = .long x
  | 2 => ck_rf ws sh t.2.2.2 v
  | 3 => v = .null ∨ ck_rf ws sh t.2.2.2 v
  | _ => False
/-- what is a type's cell: 0 an object, 1 ints, 2 longs, 3 references to objects, 4 truths, 5 references to rows of ints -/
def ck_co (tys : List (ClassId × FieldType)) (ws : va_W) (sh : List Nat) (td : ck_D) (e : va_E) : Prop := match td.1 with
  | 0 => ∃ vs : List Value, e = .inr (td.2.1, vs) ∧ vs.length = td.2.2.2.length ∧ ∀ (k : Nat) (t : ck_T), td.2.2.2[k]? = some t → ∃ v, vs[k]? = some v ∧ ck_fo ws sh t v
  | 1 => ∃ (cA : ClassId) (f : Nat → Int32), tys[td.2.2.1]? = some (cA, .int) ∧ e = .inl (cA, td.2.1, .inl f) ∧ ∀ t : ck_T, td.2.2.2[0]? = some t → t.1 = 0 ∧ ∀ i, i < td.2.1 → t.2.1 ≤ (f i).toInt ∧ (f i).toInt ≤ t.2.2.1
  | 2 => ∃ (cA : ClassId) (f : Nat → Int64), tys[td.2.2.1]? = some (cA, .long) ∧ e = .inl (cA, td.2.1, .inr (.inl f))
  | 3 => ∃ (cA : ClassId) (C : String) (f : Nat → Option Nat), tys[td.2.2.1]? = some (cA, .object C) ∧ e = .inl (cA, td.2.1, .inr (.inr (.inr (.inr f)))) ∧ ∀ t : ck_T, td.2.2.2[0]? = some t → ∀ i, i < td.2.1 → ck_fo ws sh t (va_rf (f i))
  | 4 => ∃ (cA : ClassId) (f : Nat → Int32), tys[td.2.2.1]? = some (cA, .boolean) ∧ e = .inl (cA, td.2.1, .inl f) ∧ ∀ i, i < td.2.1 → 0 ≤ (f i).toInt ∧ (f i).toInt ≤ 1
  | 5 => ∃ (cA : ClassId) (f : Nat → Option Nat), tys[td.2.2.1]? = some (cA, .array .int) ∧ e = .inl (cA, td.2.1, .inr (.inr (.inr (.inr f)))) ∧ ∀ t : ck_T, td.2.2.2[0]? = some t → ∀ i, i < td.2.1 → ck_fo ws sh t (va_rf (f i))
  | _ => False
/-- a world as its types say -/
def ck_wo (tys : List (ClassId × FieldType)) (TT : List ck_D) (SG : List Nat) (ws : va_W) (sh : List Nat) : Prop :=
  sh.length = ws.length ∧ (∀ (q : Nat) (a : Nat) (e : va_E) (t : Nat), ws[q]? = some (a, e) → sh[q]? = some t → ∃ td, TT[t]? = some td ∧ ck_co tys ws sh td e) ∧
  ∀ t ∈ SG, ∀ q r : Nat, sh[q]? = some t → sh[r]? = some t → q = r
/-- what stays of a cell -/
def ck_sm (Wr : List (Nat × Nat)) (t : Nat) (e e' : va_E) : Prop := match e, e' with
  | .inr o, .inr o' => o'.1 = o.1 ∧ ∀ k, (t, k) ∉ Wr → o'.2[k]? = o.2[k]?
  | .inl x, .inl y => (t, 0) ∉ Wr → y = x
  | _, _ => False
def ck_ex (Wr : List (Nat × Nat)) (ws : va_W) (sh : List Nat) (ws' : va_W) (sh' : List Nat) : Prop :=
  (∀ (q t : Nat), sh[q]? = some t → sh'[q]? = some t) ∧ ∀ (q a : Nat) (e : va_E) (t : Nat), ws[q]? = some (a, e) → sh[q]? = some t → ∃ e', ws'[q]? = some (a, e') ∧ ck_sm Wr t e e'
theorem ck_sm.rf {Wr : List (Nat × Nat)} {t : Nat} {e : va_E} : ck_sm Wr t e e := by
  cases e with
  | inl x => exact fun _ => rfl
  | inr o => exact ⟨rfl, fun _ _ => rfl⟩
theorem ck_sm.tr {W1 W2 : List (Nat × Nat)} {t : Nat} {e e1 e2 : va_E} (hw : ∀ x ∈ W2, x ∈ W1) (h1 : ck_sm W1 t e e1) (h2 : ck_sm W2 t e1 e2) : ck_sm W1 t e e2 := by
  cases e <;> cases e1 <;> cases e2 <;> first | exact h1.elim | exact h2.elim | skip
  · exact fun h => (h2 (fun z => h (hw _ z))).trans (h1 h)
  · exact ⟨h2.1.trans h1.1, fun k hk => (h2.2 k (fun z => hk (hw _ z))).trans (h1.2 k hk)⟩
theorem ck_ex.rf {Wr : List (Nat × Nat)} {ws : va_W} {sh : List Nat} : ck_ex Wr ws sh ws sh := ⟨fun _ _ h => h, fun _ _ e _ h _ => ⟨e, h, ck_sm.rf⟩⟩
theorem ck_ex.tr {W1 W2 : List (Nat × Nat)} {ws ws1 ws2 : va_W} {sh sh1 sh2 : List Nat} (hw : ∀ x ∈ W2, x ∈ W1) (h1 : ck_ex W1 ws sh ws1 sh1) (h2 : ck_ex W2 ws1 sh1 ws2 sh2) : ck_ex W1 ws sh ws2 sh2 := by
  refine ⟨fun q t h => h2.1 q t (h1.1 q t h), fun q a e t h ht => ?_⟩
  obtain ⟨e1, a1, b1⟩ := h1.2 q a e t h ht
  obtain ⟨e2, a2, b2⟩ := h2.2 q a e1 t a1 (h1.1 q t ht)
  exact ⟨e2, a2, b1.tr hw b2⟩
theorem ck_rf.mv {Wr : List (Nat × Nat)} {ws ws' : va_W} {sh sh' : List Nat} (h : ck_ex Wr ws sh ws' sh') {ts : List Nat} {v : Value} (hv : ck_rf ws sh ts v) : ck_rf ws' sh' ts v := by
  obtain ⟨q, a, e, t, h1, h2, h3, h4⟩ := hv
  obtain ⟨e', h5, -⟩ := h.2 q a e t h2 h3
  exact ⟨q, a, e', t, h1, h5, h.1 q t h3, h4⟩
theorem ck_rf.sub {ws : va_W} {sh : List Nat} {ts us : List Nat} {v : Value} (h : ∀ t ∈ ts, t ∈ us) (hv : ck_rf ws sh ts v) : ck_rf ws sh us v := by
  obtain ⟨q, a, e, t, h1, h2, h3, h4⟩ := hv
  exact ⟨q, a, e, t, h1, h2, h3, h t h4⟩
theorem ck_fo.mv {Wr : List (Nat × Nat)} {ws ws' : va_W} {sh sh' : List Nat} (h : ck_ex Wr ws sh ws' sh') {t : ck_T} {v : Value} (hv : ck_fo ws sh t v) : ck_fo ws' sh' t v := by
  unfold ck_fo at hv ⊢
  split at hv
  · exact hv
  · exact hv
  · exact hv.mv h
  · exact hv.imp id (·.mv h)
  · exact hv.elim
theorem ck_co.mv {Wr : List (Nat × Nat)} {tys : List (ClassId × FieldType)} {ws ws' : va_W} {sh sh' : List Nat} (h : ck_ex Wr ws sh ws' sh') {td : ck_D} {e : va_E} (hv : ck_co tys ws sh td e) : ck_co tys ws' sh' td e := by
  unfold ck_co at hv ⊢
  split at hv
  · obtain ⟨vs, h1, h2, h3⟩ := hv
    refine ⟨vs, h1, h2, fun k t hk => ?_⟩
    obtain ⟨v, a1, a2⟩ := h3 k t hk
    exact ⟨v, a1, a2.mv h⟩
  · exact hv
  · exact hv
  · obtain ⟨cA, C, f, h1, h2, h3⟩ := hv
    exact ⟨cA, C, f, h1, h2, fun t ht i hi => (h3 t ht i hi).mv h⟩
  · exact hv
  · obtain ⟨cA, f, h1, h2, h3⟩ := hv
    exact ⟨cA, f, h1, h2, fun t ht i hi => (h3 t ht i hi).mv h⟩
  · exact hv.elim
theorem ck_vo.mv {Wr : List (Nat × Nat)} {ws ws' : va_W} {sh sh' : List Nat} (h : ck_ex Wr ws sh ws' sh') {sc : ck_sc} {n : ck_N} {N : Nat} {av : ck_V} {v : Value} (hv : ck_vo ws sh sc n N av v) : ck_vo ws' sh' sc n N av v := by
  unfold ck_vo at hv ⊢
  refine ⟨hv.1, ?_⟩
  have hv := hv.2
  split at hv
  · exact hv
  · exact hv
  · exact ⟨hv.1, hv.2.mv h⟩
  · exact ⟨hv.1, hv.2.imp id (·.mv h)⟩
  · exact hv
  · exact hv
  · exact hv
  · exact hv
  · exact hv.elim
theorem ck_vo.up {ws : va_W} {sh : List Nat} {sc : ck_sc} {n n' : ck_N} {N N' : Nat} (hn : ∀ k, k < N → n' k = n k) (hN : N ≤ N') {av : ck_V} {v : Value} (hv : ck_vo ws sh sc n N av v) : ck_vo ws sh sc n' N' av v := by
  unfold ck_vo at hv ⊢
  have h1 := hn _ hv.1
  refine ⟨Nat.lt_of_lt_of_le hv.1 hN, ?_⟩
  have hv := hv.2
  rw [h1]
  split at hv
  · exact hv
  · exact hv
  · exact hv
  · exact hv
  · exact hv
  · exact hv
  · exact hv
  · obtain ⟨k2, a1, a2, a3⟩ := hv
    exact ⟨k2, a1, Nat.lt_of_lt_of_le a2 hN, by rw [hn _ a2]; exact a3⟩
  · exact hv.elim
/-- the valuation with a number more -/
def ck_nx (n : ck_N) (N : Nat) (x : Int × Value) : ck_N := fun k => if k = N then x else n k
theorem ck_nx_lt {n : ck_N} {N : Nat} {x : Int × Value} : ∀ k, k < N → ck_nx n N x k = n k := fun k h => if_neg (by omega)
theorem ck_nx_eq {n : ck_N} {N : Nat} {x : Int × Value} : ck_nx n N x N = x := if_pos rfl
theorem ck_vo.cat {ws : va_W} {sh : List Nat} {sc : ck_sc} {n : ck_N} {N : Nat} {av : ck_V} {v : Value} (h : ck_vo ws sh sc n N av v) : v.category = if av.1 = 1 then 2 else 1 := by
  unfold ck_vo at h
  have h := h.2
  split at h
  · rename_i e; obtain ⟨x, rfl, -⟩ := h; rw [e]; rfl
  · rename_i e; obtain ⟨x, rfl, -⟩ := h; rw [e]; rfl
  · rename_i e; obtain ⟨-, q, a, w, t, rfl, -⟩ := h; rw [e]; rfl
  · rename_i e
    rw [e]
    rcases h.2 with rfl | ⟨q, a, w, t, rfl, -⟩ <;> rfl
  · rename_i e; obtain ⟨-, rfl⟩ := h; rw [e]; rfl
  · rename_i e; obtain ⟨b, L, xs, -, rfl, -⟩ := h; rw [e]; rfl
  · rename_i e; obtain ⟨w, -, rfl⟩ := h; rw [e]; rfl
  · rename_i e; obtain ⟨k2, -, -, x, y, rfl, -⟩ := h; rw [e]; rfl
  · exact h.elim
/-- lists side by side -/
def ck_two {α β : Type} (P : α → β → Prop) : List α → List β → Prop
  | [], [] => True
  | a :: l, b :: r => P a b ∧ ck_two P l r
  | _, _ => False
theorem ck_two.imp {α β : Type} {P P' : α → β → Prop} (h : ∀ a b, P a b → P' a b) : ∀ {l : List α} {r : List β}, ck_two P l r → ck_two P' l r
  | [], [], _ => trivial
  | _ :: _, _ :: _, hh => ⟨h _ _ hh.1, ck_two.imp h hh.2⟩
  | [], _ :: _, hh => hh.elim
  | _ :: _, [], hh => hh.elim
theorem ck_two.flt {α β : Type} {P : α → β → Prop} {f : α → Bool} {g : β → Bool} (h : ∀ a b, P a b → f a = g b) : ∀ {l : List α} {r : List β}, ck_two P l r → ck_two P (l.filter f) (r.filter g)
  | [], [], _ => trivial
  | a :: l, b :: r, hh => by
    have h1 := h a b hh.1
    have h2 := ck_two.flt h hh.2
    rw [List.filter_cons, List.filter_cons, h1]
    split
    · exact ⟨hh.1, h2⟩
    · exact h2
  | [], _ :: _, hh => hh.elim
  | _ :: _, [], hh => hh.elim
theorem ck_two.app {α β : Type} {P : α → β → Prop} : ∀ {l l2 : List α} {r r2 : List β}, ck_two P l r → ck_two P l2 r2 → ck_two P (l ++ l2) (r ++ r2)
  | [], _, [], _, _, h => h
  | _ :: _, _, _ :: _, _, hh, h => ⟨hh.1, ck_two.app hh.2 h⟩
  | [], _, _ :: _, _, hh, _ => hh.elim
  | _ :: _, _, [], _, hh, _ => hh.elim
theorem ck_two.mem {α β : Type} {P : α → β → Prop} {a : α} : ∀ {l : List α} {r : List β}, ck_two P l r → a ∈ l → ∃ b ∈ r, P a b
  | [], _, _, h => by cases h
  | x :: l, y :: r, hh, h => by
    rcases List.mem_cons.mp h with rfl | h
    · exact ⟨y, List.mem_cons_self, hh.1⟩
    · obtain ⟨b, h1, h2⟩ := ck_two.mem hh.2 h
      exact ⟨b, List.mem_cons_of_mem _ h1, h2⟩
  | _ :: _, [], hh, _ => hh.elim
theorem ck_two.map {α β γ : Type} {P : α → β → Prop} {P' : γ → β → Prop} (f : α → γ) (h : ∀ a b, P a b → P' (f a) b) : ∀ {l : List α} {r : List β}, ck_two P l r → ck_two P' (l.map f) r
  | [], [], _ => trivial
  | _ :: _, _ :: _, hh => ⟨h _ _ hh.1, ck_two.map f h hh.2⟩
  | [], _ :: _, hh => hh.elim
  | _ :: _, [], hh => hh.elim
theorem ck_two.len {α β : Type} {P : α → β → Prop} : ∀ {l : List α} {r : List β}, ck_two P l r → l.length = r.length
  | [], [], _ => rfl
  | _ :: _, _ :: _, hh => by rw [List.length_cons, List.length_cons, ck_two.len hh.2]
  | [], _ :: _, hh => hh.elim
  | _ :: _, [], hh => hh.elim
end
noncomputable section
/-! the checker's step -/
def ck_B (w : Nat) : Int := 2 ^ (w - 1)
def ck_top (w : Nat) : Int × Int := (-(ck_B w), ck_B w - 1)
def ck_cl (w : Nat) (x : Int × Int) : Int × Int := if -(ck_B w) ≤ x.1 ∧ x.2 ≤ ck_B w - 1 then x else ck_top w
def ck_msk (h : Int) : Int := 2 ^ (h.toNat.log2 + 1) - 1
/-- intervals: 0 add 1 sub 2 mul 3 and 4 or 5 xor 6 shl 7 shr 9 div 10 rem -/
def ck_bin (w op : Nat) (x y : Int × Int) : Int × Int := match op with
  | 0 => ck_cl w (x.1 + y.1, x.2 + y.2)
  | 1 => ck_cl w (x.1 - y.2, x.2 - y.1)
  | 2 => ck_cl w (ck_min (ck_min (x.1 * y.1) (x.1 * y.2)) (ck_min (x.2 * y.1) (x.2 * y.2)), ck_max (ck_max (x.1 * y.1) (x.1 * y.2)) (ck_max (x.2 * y.1) (x.2 * y.2)))
  | 3 => if 0 ≤ y.1 then (if 0 ≤ x.1 then (0, ck_min x.2 y.2) else (0, y.2)) else if 0 ≤ x.1 then (0, x.2) else ck_top w
  | 4 => if 0 ≤ x.1 ∧ 0 ≤ y.1 then ck_cl w (ck_max x.1 y.1, ck_msk (ck_max x.2 y.2)) else ck_top w
  | 5 => if 0 ≤ x.1 ∧ 0 ≤ y.1 then ck_cl w (0, ck_msk (ck_max x.2 y.2)) else ck_top w
  | 6 => if 0 ≤ x.1 ∧ 0 ≤ y.1 ∧ y.2 < w then ck_cl w (x.1 * 2 ^ y.1.toNat, x.2 * 2 ^ y.2.toNat) else ck_top w
  | 7 => if y.1 = y.2 ∧ 0 ≤ y.1 ∧ y.2 < w then (x.1 / 2 ^ y.1.toNat, x.2 / 2 ^ y.1.toNat) else if 0 ≤ x.1 then (0, x.2) else ck_top w
  | 9 => if y.1 = y.2 ∧ 0 < y.1 ∧ 0 ≤ x.1 then (x.1 / y.1, x.2 / y.1) else ck_top w
  | 10 => if y.1 = y.2 ∧ 0 < y.1 then (if 0 ≤ x.1 then (0, y.1 - 1) else (1 - y.1, y.1 - 1)) else ck_top w
  | _ => ck_top w
/-- relations of a sum with a constant to what it is a sum of; N the new sym -/
def ck_rel (op a b N : Nat) (x y r : Int × Int) : List ck_R := match op with
  | 0 => if r.1 = x.1 + y.1 ∧ r.2 = x.2 + y.2 then (if y.1 = y.2 then [(N, a, y.1), (a, N, -y.1)] else if x.1 = x.2 then [(N, b, x.1), (b, N, -x.1)] else []) else []
  | 1 => if r.1 = x.1 - y.2 ∧ r.2 = x.2 - y.1 ∧ y.1 = y.2 then [(N, a, -y.1), (a, N, y.1)] else []
  | 3 => if 0 ≤ y.1 then (if y.1 = y.2 then [] else [(N, b, 0)]) else []
  | 4 => if 0 ≤ x.1 ∧ 0 ≤ y.1 then [(a, N, 0)] else []
  | 6 => if 1 ≤ x.1 ∧ y.1 = y.2 ∧ 1 ≤ y.1 ∧ r.1 = x.1 * 2 ^ y.1.toNat ∧ r.2 = x.2 * 2 ^ y.2.toNat then [(a, N, -1)] else []
  | _ => []
/-- a sym that is a + c already -/
def ck_same (R : List ck_R) (a : Nat) (c : Int) : Option Nat := (R.find? (fun r => r.2.1 == a && (r.2.2 == c && R.any (fun q => q.1 == a && (q.2.1 == r.1 && q.2.2 == -c))))).map Prod.fst
abbrev ck_cont : Type := ck_S → Nat → Bool
def ck_ss (S : ck_S) (st : List ck_V) : ck_S := (S.1, st, S.2.2)
/-- one sym more, on the stack -/
def ck_new (S : ck_S) (st : List ck_V) (tag : Nat) (ts : List Nat) (iv : Int × Int) (rs : List ck_R) : ck_S := (S.1, (tag, S.2.2.2.1.length, ts) :: st, S.2.2.1, S.2.2.2.1 ++ [iv], rs ++ S.2.2.2.2.1, S.2.2.2.2.2)
def ck_cst (S : ck_S) (tag : Nat) (v : Int) : ck_S := ck_new S S.2.1 tag [] (v, v) []
def ck_look (loc : List (Nat × ck_V)) (i : Nat) : Option ck_V := (loc.find? (fun q => q.1 == i)).map Prod.snd
def ck_cat (v : ck_V) : Nat := if v.1 = 1 then 2 else 1
def ck_st1 (loc : List (Nat × ck_V)) (i : Nat) (v : ck_V) : List (Nat × ck_V) := (i, v) :: loc.filter (fun q => !(q.1 == i) && !(q.1 + 1 == i && ck_cat q.2 == 2))
def ck_st2 (loc : List (Nat × ck_V)) (i : Nat) (v : ck_V) : List (Nat × ck_V) := (i, v) :: loc.filter (fun q => !(q.1 == i) && (!(q.1 == i + 1) && !(q.1 + 1 == i && ck_cat q.2 == 2)))
def ck_isr (v : ck_V) : Bool := v.1 == 2 || (v.1 == 3 || (v.1 == 4 || v.1 == 5))
def ck_binS (w op : Nat) (S : ck_S) (st : List ck_V) (tag a b : Nat) : Option ck_S :=
  match S.2.2.2.1[a]?, S.2.2.2.1[b]? with
  | some x, some y =>
    if x.1 ≤ x.2 ∧ y.1 ≤ y.2 then
      let r := ck_bin w op x y
      match (if op = 0 ∧ y.1 = y.2 ∧ r.1 = x.1 + y.1 ∧ r.2 = x.2 + y.2 then ck_same S.2.2.2.2.1 a y.1 else none) with
      | some k => some (ck_ss S ((tag, k, []) :: st))
      | none => some (ck_new S st tag [] r (ck_rel op a b S.2.2.2.1.length x y r))
    else none
  | _, _ => none
/-- go on with a ≤ b + c learned; a dead end is no way -/
def ck_wle (a b : Nat) (c : Int) (S : ck_S) (k : ck_S → Bool) : Bool :=
  match S.2.2.2.1[a]?, S.2.2.2.1[b]? with
  | some x, some y =>
    if x.1 ≤ x.2 ∧ y.1 ≤ y.2 then
      (let p := ck_le a b c S.2.2.2.1 S.2.2.2.2.1
       ck_dead p.1 a || (ck_dead p.1 b || k (S.1, S.2.1, S.2.2.1, p.1, p.2, S.2.2.2.2.2)))
    else false
  | _, _ => false
def ck_weq (a b : Nat) (S : ck_S) (k : ck_S → Bool) : Bool := ck_wle a b 0 S (fun S => ck_wle b a 0 S k)
def ck_wne (F : Nat) (a b : Nat) (S : ck_S) (k : ck_S → Bool) : Bool :=
  if ck_ent S.2.2.2.1 S.2.2.2.2.1 F a b 0 then (ck_ent S.2.2.2.1 S.2.2.2.2.1 F b a 0 || ck_wle a b (-1) S k) else if ck_ent S.2.2.2.1 S.2.2.2.2.1 F b a 0 then ck_wle b a (-1) S k else k S
/-- both ways of a comparison of a with b -/
def ck_wc (F : Nat) (cd : ClassFile.Cond) (a b : Nat) (S : ck_S) (kt kf : ck_S → Bool) : Bool := match cd with
  | .eq => ck_weq a b S kt && ck_wne F a b S kf
  | .ne => ck_wne F a b S kt && ck_weq a b S kf
  | .lt => ck_wle a b (-1) S kt && ck_wle b a 0 S kf
  | .ge => ck_wle b a 0 S kt && ck_wle a b (-1) S kf
  | .gt => ck_wle b a (-1) S kt && ck_wle a b 0 S kf
  | .le => ck_wle a b 0 S kt && ck_wle b a (-1) S kf
def ck_tgt (pc : Nat) (off : Int) (k : Nat → Bool) : Bool := decide (0 ≤ (pc : Int) + off) && k ((pc : Int) + off).toNat
/-- put other types to a sym -/
def ck_sub (s : Nat) (w : ck_V) (v : ck_V) : ck_V := if v.2.1 = s ∧ (v.1 = 2 ∨ v.1 = 3) then w else v
def ck_subS (s : Nat) (w : ck_V) (S : ck_S) : ck_S := (S.1.map (fun q => (q.1, ck_sub s w q.2)), S.2.1.map (ck_sub s w), S.2.2.1.map (fun m => if m.1 = 0 then m else (m.1, m.2.1, ck_sub s w m.2.2)), S.2.2.2)
/-- patterns -/
def ck_tg (p v : ck_V) : Bool := match p.1 with
  | 0 => v.1 == 0
  | 1 => v.1 == 1
  | 2 => v.1 == 2 && v.2.2.all (fun t => p.2.2.contains t)
  | 3 => v.1 == 4 || ((v.1 == 2 || v.1 == 3) && v.2.2.all (fun t => p.2.2.contains t))
  | 4 => v.1 == 4
  | 5 => v.1 == 5
  | _ => false
def ck_mv (g : List Nat) (p v : ck_V) : Option (List Nat) :=
  if ck_tg p v then (if p.2.1 = g.length then some (g ++ [v.2.1]) else if g[p.2.1]? = some v.2.1 then some g else none) else none
def ck_mvs (g : List Nat) : List ck_V → List ck_V → Option (List Nat)
  | [], [] => some g
  | p :: ps, v :: vs => match ck_mv g p v with
    | some g1 => ck_mvs g1 ps vs
    | none => none
  | _, _ => none
def ck_eq2 (F : Nat) (E : ck_E) (R : List ck_R) (a b : Nat) : Bool := a == b || (ck_ent E R F a b 0 && ck_ent E R F b a 0)
def ck_nl (F : Nat) (E : ck_E) (R : List ck_R) (g : List Nat) : List Nat → List Nat → Option (List Nat)
  | [], [] => some g
  | x :: xs, y :: ys => if x = g.length then ck_nl F E R (g ++ [y]) xs ys else match g[x]? with
    | some a => if ck_eq2 F E R a y = true then ck_nl F E R g xs ys else none
    | none => none
  | _, _ => none
/-- a note says as much as is asked -/
def ck_ntg (F : Nat) (E : ck_E) (R : List ck_R) (tag : Nat) (v : ck_V) : Bool := tag == v.1 || (decide (tag < 30 ∧ v.1 < 30)) && (decide (tag ≤ v.1) || ((tag == 21 && ck_ent E R F v.2.1 0 0) || (tag == 22 && (v.1 == 21 && (ck_ent E R F 0 v.2.1 (-1) && match v.2.2 with
  | [_, o] => ck_ent E R F o 0 0
  | _ => false)))))
def ck_nm (F : Nat) (E : ck_E) (R : List ck_R) (g : List Nat) (p m : ck_M) : Option (List Nat) :=
  if m.1 == p.1 && (m.2.1 == 0 && (p.2.1 == 0 && (decide (20 ≤ m.2.2.1) && ck_ntg F E R p.2.2.1 m.2.2))) then ck_nl F E R g (p.2.2.2.1 :: p.2.2.2.2) (m.2.2.2.1 :: m.2.2.2.2) else none
def ck_mms (F : Nat) (E : ck_E) (R : List ck_R) (mem : List ck_M) (g : List Nat) : List ck_M → Option (List Nat)
  | [] => some g
  | p :: ps => if 20 ≤ p.2.2.1 then (match mem.findSome? (fun m => ck_nm F E R g p m) with
      | some g1 => ck_mms F E R mem g1 ps
      | none => none) else match mem.find? (fun m => m.1 == p.1 && (m.2.1 == p.2.1 && !(m.1 == 0))) with
    | some m => match ck_mv g p.2.2 m.2.2 with
      | some g1 => ck_mms F E R mem g1 ps
      | none => none
    | none => none
def ck_ce (F : Nat) (E : ck_E) (R : List ck_R) : List Nat → ck_E → Bool
  | _, [] => true
  | [], _ :: _ => false
  | s :: g, x :: l => (decide (x.2 < x.1) || (ck_ent E R F s 0 x.2 && ck_ent E R F 0 s (-x.1))) && ck_ce F E R g l
def ck_cr (F : Nat) (E : ck_E) (R : List ck_R) (g : List Nat) (rs : List ck_R) : Bool :=
  rs.all (fun r => match g[r.1]?, g[r.2.1]? with
    | some a, some b => ck_ent E R F a b r.2.2
    | _, _ => false)
def ck_mt (F : Nat) (S : ck_S) (g0 : List Nat) (vs : List ck_V) (P : ck_P) : Option (List Nat) :=
  match ck_mvs g0 P.1 vs with
  | some g1 => match ck_mms F S.2.2.2.1 S.2.2.2.2.1 S.2.2.1 g1 P.2.1 with
    | some g => if ck_ce F S.2.2.2.1 S.2.2.2.2.1 g P.2.2.1 && ck_cr F S.2.2.2.1 S.2.2.2.2.1 g P.2.2.2 then some g else none
    | none => none
  | none => none
def ck_ren (g : List Nat) (N k : Nat) : Nat := if k < g.length then g.getD k 0 else N + (k - g.length)
def ck_renV (g : List Nat) (N : Nat) (v : ck_V) : ck_V := (v.1, ck_ren g N v.2.1, if 20 ≤ v.1 then v.2.2.map (ck_ren g N) else v.2.2)
def ck_okm (m : ck_M) : Bool := !(m.1 == 0) && (decide (m.2.2.1 < 5) || decide (20 ≤ m.2.2.1))
/-- notes of arrays that are written are forgotten -/
def ck_fS (ts : List Nat) (S : ck_S) : ck_S := (S.1, S.2.1, S.2.2.1.filter (fun m => decide (m.2.2.1 < 20) || !(ts.contains m.1)), S.2.2.2)
def ck_wles (g : List Nat) (N : Nat) : List ck_R → ck_S → (ck_S → Bool) → Bool
  | [], S, k => k S
  | r :: rs, S, k => ck_wle (ck_ren g N r.1) (ck_ren g N r.2.1) r.2.2 S (fun S => ck_wles g N rs S k)
/-- behind a call: what was written is forgotten, the case is learned -/
def ck_aft (S : ck_S) (st : List ck_V) (g : List Nat) (wr : List (Nat × Nat)) (mc ms : Nat) (P : ck_P) (k : ck_S → Bool) : Bool :=
  ck_wles g S.2.2.2.1.length P.2.2.2
    (S.1, P.1.map (ck_renV g S.2.2.2.1.length) ++ st, P.2.1.map (fun m => (m.1, m.2.1, ck_renV g S.2.2.2.1.length m.2.2)) ++ S.2.2.1.filter (fun m => m.1 == 0 || !(wr.contains (m.1, m.2.1))),
      S.2.2.2.1 ++ P.2.2.1.drop g.length, S.2.2.2.2.1, S.2.2.2.2.2.1 + mc, S.2.2.2.2.2.2 + ms) k
def ck_call (F : Nat) (Wr : List (Nat × Nat)) (Rm : Nat × Nat) (S : ck_S) (na : Nat) (C : ck_C) (k : ck_S → Bool) : Bool :=
  (decide (na ≤ S.2.1.length) && (decide (S.2.2.2.2.2.1 + C.2.2.2.1 ≤ Rm.1) && (decide (S.2.2.2.2.2.2 + C.2.2.2.2 ≤ Rm.2) && decide (((S.2.1.drop na).map ck_cat).sum ≤ 8)))) && ((C.2.2.1.all (fun x => Wr.contains x)) &&
  match ck_mt F S [0] (S.2.1.take na).reverse C.1 with
  | some g => decide (g.length = C.1.2.2.1.length) && (C.2.1.all (fun P => (P.1.all (fun v => decide (v.1 < 5)) && P.2.1.all ck_okm) && ck_aft S (S.2.1.drop na) g C.2.2.1 C.2.2.2.1 C.2.2.2.2 P k))
  | none => false)
/-- the tables of a method: fuel; types; single types; locals; getfield (index, class, field); putfield (index, class, field, 0 int 1 truth 2 reference); new (index, class, type, fields); constants (index, tag, value); instanceof (index, class, answer); casts that go (index, class); stores of objects that go (array class, class); calls (index, receiver's type or 0, arguments, contract); writes; room; statics (index) -/
abbrev ck_Me : Type := Nat × List ck_D × List Nat × Nat × List (Nat × Nat × Nat) × List (Nat × Nat × Nat × Nat) × List (Nat × Nat × Nat × Nat) × List (Nat × Nat × Int) × List (Nat × Nat × Nat) × List (Nat × Nat) × List (Nat × Nat) × List (Nat × Nat × Nat × ck_C) × List (Nat × Nat) × (Nat × Nat) × List Nat
def mF (M : ck_Me) := M.1
def mTT (M : ck_Me) := M.2.1
def mSG (M : ck_Me) := M.2.2.1
def mnL (M : ck_Me) := M.2.2.2.1
def mfl (M : ck_Me) := M.2.2.2.2.1
def mpl (M : ck_Me) := M.2.2.2.2.2.1
def mnw (M : ck_Me) := M.2.2.2.2.2.2.1
def mkl (M : ck_Me) := M.2.2.2.2.2.2.2.1
def mil (M : ck_Me) := M.2.2.2.2.2.2.2.2.1
def mxl (M : ck_Me) := M.2.2.2.2.2.2.2.2.2.1
def mal (M : ck_Me) := M.2.2.2.2.2.2.2.2.2.2.1
def mvl (M : ck_Me) := M.2.2.2.2.2.2.2.2.2.2.2.1
def mWr (M : ck_Me) := M.2.2.2.2.2.2.2.2.2.2.2.2.1
def mRm (M : ck_Me) := M.2.2.2.2.2.2.2.2.2.2.2.2.2.1
def mgl (M : ck_Me) := M.2.2.2.2.2.2.2.2.2.2.2.2.2.2
def ck_ld (S : ck_S) (i : Nat) (ok : ck_V → Bool) (k : ck_S → Bool) : Bool := match ck_look S.1 i with
  | some v => ok v && k (ck_ss S (v :: S.2.1))
  | none => false
def ck_sto (nL : Nat) (S : ck_S) (i : Nat) (ok : ck_V → Bool) (k : ck_S → Bool) : Bool := match S.2.1 with
  | v :: st => ok v && (decide (i < nL) && k (ck_st1 S.1 i v, st, S.2.2))
  | [] => false
def ck_sto2 (nL : Nat) (S : ck_S) (i : Nat) (k : ck_S → Bool) : Bool := match S.2.1 with
  | v :: st => v.1 == 1 && (decide (i + 1 < nL) && k (ck_st2 S.1 i v, st, S.2.2))
  | [] => false
def ck_b2 (w op tag : Nat) (S : ck_S) (k : ck_S → Bool) : Bool := match S.2.1 with
  | b :: a :: st => b.1 == tag && (a.1 == tag && match ck_binS w op S st tag a.2.1 b.2.1 with
    | some S' => k S'
    | none => false)
  | _ => false
/-- the place's number is within these bounds; none is: no way -/
def ck_iv (a : Nat) (lo hi : Int) (S : ck_S) (k : ck_S → Bool) : Bool := match S.2.2.2.1[a]? with
  | some x => if x.1 ≤ x.2 then (if ck_min x.2 hi < ck_max x.1 lo then true else k (S.1, S.2.1, S.2.2.1, S.2.2.2.1.set a (ck_max x.1 lo, ck_min x.2 hi), S.2.2.2.2)) else false
  | none => false
def ck_sw (a : Nat) (lo : Int) (S : ck_S) (pc : Nat) (k : ck_cont) : List Int → Bool
  | [] => true
  | o :: os => ck_iv a lo lo S (fun S => ck_tgt pc o (k S)) && ck_sw a (lo + 1) S pc k os
/-- what a field of a type holds -/
def ck_ft (M : ck_Me) (i t : Nat) : Option (Nat × ck_T) := match (mTT M)[t]? with
  | some td => if td.1 = 0 then (match (mfl M).find? (fun x => x.1 == i && x.2.1 == td.2.1) with
    | some x => (td.2.2.2[x.2.2]?).map (fun y => (x.2.2, y))
    | none => none) else none
  | none => none
def ck_jt (a b : ck_T) : Option ck_T := if a.1 = 0 ∧ b.1 = 0 then some (0, ck_min a.2.1 b.2.1, ck_max a.2.2.1 b.2.2.1, []) else if a = b then some a else none
def ck_jts (f : Nat → Option ck_T) : List Nat → Option ck_T
  | [] => none
  | [t] => f t
  | t :: ts => match f t, ck_jts f ts with
    | some a, some b => ck_jt a b
    | _, _ => none
/-- a value of that kind, new, on the stack -/
def ck_pt (S : ck_S) (st : List ck_V) (t : ck_T) : Option ck_S := match t.1 with
  | 0 => some (ck_new S st 0 [] (t.2.1, t.2.2.1) [])
  | 1 => some (ck_new S st 1 [] (ck_top 64) [])
  | 2 => some (ck_new S st 2 t.2.2.2 (1, 0) [])
  | 3 => some (ck_new S st 3 t.2.2.2 (1, 0) [])
  | _ => none
def ck_mfind (mem : List ck_M) (t k : Nat) : Option ck_V := (mem.find? (fun m => m.1 == t && (m.2.1 == k && !(m.1 == 0)))).map (fun m => m.2.2)
def ck_get (M : ck_Me) (i : Nat) (S : ck_S) (k : ck_S → Bool) : Bool := match S.2.1 with
  | v :: st => v.1 == 2 && (match ck_jts (fun t => (ck_ft M i t).map Prod.snd) v.2.2 with
    | some T => (match v.2.2 with
      | [t] => (match ck_ft M i t with
        | some x => (match ck_mfind S.2.2.1 t x.1 with
          | some w => k (ck_ss S (w :: st))
          | none => (match ck_pt S st T with
            | some S' => if (mSG M).contains t && !(t == 0) then (match S'.2.1 with
                | w :: _ => k (S'.1, S'.2.1, (t, x.1, w) :: S'.2.2.1, S'.2.2.2)
                | [] => false) else k S'
            | none => false))
        | none => false)
      | _ => (match ck_pt S st T with
        | some S' => k S'
        | none => false))
    | none => false)
  | [] => false
/-- a value goes into a place of that kind -/
def ck_fit (F : Nat) (S : ck_S) (t : ck_T) (v : ck_V) : Bool := match t.1 with
  | 0 => v.1 == 0 && (ck_ent S.2.2.2.1 S.2.2.2.2.1 F v.2.1 0 t.2.2.1 && ck_ent S.2.2.2.1 S.2.2.2.2.1 F 0 v.2.1 (-t.2.1))
  | 1 => v.1 == 1
  | 2 => v.1 == 2 && v.2.2.all (fun x => t.2.2.2.contains x)
  | 3 => v.1 == 4 || ((v.1 == 2 || v.1 == 3) && v.2.2.all (fun x => t.2.2.2.contains x))
  | _ => false
def ck_putT (M : ck_Me) (i t : Nat) : Option (Nat × Nat × ck_T) := match (mTT M)[t]? with
  | some td => if td.1 = 0 then (match (mpl M).find? (fun x => x.1 == i && x.2.1 == td.2.1) with
    | some x => (td.2.2.2[x.2.2.1]?).map (fun y => (x.2.2.1, x.2.2.2, y))
    | none => none) else none
  | none => none
def ck_put (M : ck_Me) (i : Nat) (S : ck_S) (k : ck_S → Bool) : Bool := match S.2.1 with
  | v :: r :: st => r.1 == 2 && (r.2.2.all (fun t => match ck_putT M i t with
      | some x => (mWr M).contains (t, x.1) && (ck_fit (mF M) S x.2.2 v && (match x.2.1 with
        | 0 => x.2.2.1 == 0
        | 1 => x.2.2.1 == 0 && (decide (0 ≤ x.2.2.2.1) && decide (x.2.2.2.2.1 ≤ 1))
        | _ => x.2.2.1 == 2 || x.2.2.1 == 3))
      | none => false) &&
    k (S.1, st, (match r.2.2 with
        | [t] => if (mSG M).contains t && !(t == 0) && !(v.1 == 5) && !(v.1 == 6) && !(v.1 == 7) then (match ck_putT M i t with
          | some x => [(t, x.1, v)]
          | none => []) else []
        | _ => []) ++ S.2.2.1.filter (fun m => m.1 == 0 || !(r.2.2.any (fun t => t == m.1 && ((ck_putT M i t).map Prod.fst) == some m.2.1))), S.2.2.2))
  | _ => false
/-- the index is one of a row's -/
def ck_bd (M : ck_Me) (S : ck_S) (i n : Nat) : Bool := ck_ent S.2.2.2.1 S.2.2.2.2.1 (mF M) 0 i 0 && ck_ent S.2.2.2.1 S.2.2.2.2.1 (mF M) i 0 ((n : Int) - 1)
/-- the elements of a row's type, by its kind, the index being one of its -/
def ck_el (M : ck_Me) (S : ck_S) (kd i t : Nat) : Option ck_T := match (mTT M)[t]? with
  | some td => if td.1 = kd ∧ ck_bd M S i td.2.1 = true then (if kd = 2 then some (1, 0, 0, []) else if kd = 4 then some (0, 0, 1, []) else td.2.2.2[0]?) else none
  | none => none
def ck_ald (M : ck_Me) (kd : Nat) (S : ck_S) (k : ck_S → Bool) : Bool := match S.2.1 with
  | i :: r :: st => i.1 == 0 && (r.1 == 2 && (match ck_jts (ck_el M S kd i.2.1) r.2.2 with
    | some T => (match ck_pt S st T with
      | some S' => k S'
      | none => false)
    | none => false))
  | _ => false
def ck_ast (M : ck_Me) (kd : Nat) (S : ck_S) (k : ck_S → Bool) : Bool := match S.2.1 with
  | v :: i :: r :: st => i.1 == 0 && (r.1 == 2 && (r.2.2.all (fun t => match ck_el M S kd i.2.1 t with
      | some T => (mWr M).contains (t, 0) && (if kd = 4 then v.1 == 0 else ck_fit (mF M) S T v)
      | none => false) && k (ck_fS r.2.2 (ck_ss S st))))
  | _ => false
end
noncomputable section
def ck_aso (M : ck_Me) (S : ck_S) (i : Nat) (v : ck_V) (t : Nat) : Bool := match (mTT M)[t]? with
  | some td => td.1 == 3 && (ck_bd M S i td.2.1 && ((mWr M).contains (t, 0) && match td.2.2.2 with
      | [T] => (v.1 == 4 || v.2.2.all (fun u => T.2.2.2.contains u && match (mTT M)[u]? with
          | some ud => ud.1 == 0 && (mal M).contains (td.2.2.1, ud.2.1)
          | none => false)) && (v.1 == 2 || ((v.1 == 3 || v.1 == 4) && T.1 == 3)) && (T.1 == 2 || T.1 == 3)
      | _ => false))
  | none => false
def ck_aast (M : ck_Me) (S : ck_S) (k : ck_S → Bool) : Bool := match S.2.1 with
  | v :: i :: r :: st => i.1 == 0 && (r.1 == 2 && (r.2.2.all (ck_aso M S i.2.1 v) && k (ck_ss S st)))
  | _ => false
def ck_isn (M : ck_Me) (n : Nat) (t : Nat) : Bool := match (mTT M)[t]? with
  | some td => (td.1 == 1 || (td.1 == 2 || (td.1 == 3 || (td.1 == 4 || td.1 == 5)))) && td.2.1 == n
  | none => false
def ck_len (M : ck_Me) (S : ck_S) (k : ck_S → Bool) : Bool := match S.2.1 with
  | r :: st => if r.1 = 5 then k (ck_ss S ((0, r.2.1, []) :: st)) else if r.1 = 6 then k (ck_new S st 0 [] (6, 6) []) else
    r.1 == 2 && (match r.2.2 with
      | t :: _ => (match (mTT M)[t]? with
        | some td => decide (td.2.1 < 2147483648) && (r.2.2.all (ck_isn M td.2.1) && k (ck_new S st 0 [] (td.2.1, td.2.1) []))
        | none => false)
      | [] => false)
  | [] => false
/-- the script's place i -/
def ck_sld (M : ck_Me) (S : ck_S) (k : ck_S → Bool) : Bool := match S.2.1 with
  | i :: r :: st => i.1 == 0 && (r.1 == 5 && (ck_ent S.2.2.2.1 S.2.2.2.2.1 (mF M) 0 i.2.1 0 && (ck_ent S.2.2.2.1 S.2.2.2.2.1 (mF M) i.2.1 r.2.1 (-1) &&
      (match S.2.2.1.find? (fun m => m.1 == 0 && (m.2.1 == i.2.1 && m.2.2.1 == 0)) with
        | some m => k (ck_ss S ((0, m.2.2.2.1, []) :: st))
        | none => k (S.1, (0, S.2.2.2.1.length, []) :: st, (0, i.2.1, (0, S.2.2.2.1.length, [])) :: S.2.2.1, S.2.2.2.1 ++ [ck_top 32], S.2.2.2.2)))))
  | _ => false
def ck_wld (M : ck_Me) (S : ck_S) (k : ck_S → Bool) : Bool := match S.2.1 with
  | i :: r :: st => i.1 == 0 && (r.1 == 6 && (ck_bd M S i.2.1 6 && k (ck_new S st 1 [] (ck_top 64) [])))
  | _ => false
def ck_dft (t : ck_T) : Bool := match t.1 with
  | 0 => decide (t.2.1 ≤ 0) && decide (0 ≤ t.2.2.1)
  | 3 => true
  | _ => false
def ck_mk (M : ck_Me) (i : Nat) (S : ck_S) (k : ck_S → Bool) : Bool := match (mnw M).find? (fun x => x.1 == i) with
  | some x => (match (mTT M)[x.2.2.1]? with
    | some td => td.1 == 0 && (td.2.1 == x.2.1 && (td.2.2.2.length == x.2.2.2 && (td.2.2.2.all ck_dft && (!((mSG M).contains x.2.2.1) && (decide (S.2.2.2.2.2.1 + 1 ≤ (mRm M).1) && (decide (S.2.2.2.2.2.2 + x.2.2.2 ≤ (mRm M).2) &&
        k (S.1, (2, S.2.2.2.1.length, [x.2.2.1]) :: S.2.1, S.2.2.1.filter (fun m => !(m.1 == x.2.2.1)), S.2.2.2.1 ++ [(1, 0)], S.2.2.2.2.1, S.2.2.2.2.2.1 + 1, S.2.2.2.2.2.2 + x.2.2.2)))))))
    | none => false)
  | none => false
def ck_ty0 (M : ck_Me) (t : Nat) : Option Nat := match (mTT M)[t]? with
  | some td => if td.1 = 0 then some td.2.1 else none
  | none => none
def ck_iof (M : ck_Me) (i r t : Nat) : Bool := match ck_ty0 M t with
  | some ci => (mil M).contains (i, ci, r)
  | none => false
/-- instanceof: both ways, by the types -/
def ck_ins (M : ck_Me) (i : Nat) (S : ck_S) (k : ck_S → Bool) : Bool := match S.2.1 with
  | r :: st => r.1 == 2 && (r.2.2.all (fun t => ck_iof M i 1 t || ck_iof M i 0 t) &&
      ((match r.2.2.filter (ck_iof M i 1) with
        | [] => true
        | ts => k (ck_cst (ck_subS r.2.1 (2, r.2.1, ts) (ck_ss S st)) 0 1)) &&
       (match r.2.2.filter (fun t => !(ck_iof M i 1 t)) with
        | [] => true
        | ts => k (ck_cst (ck_subS r.2.1 (2, r.2.1, ts) (ck_ss S st)) 0 0))))
  | [] => false
def ck_cas (M : ck_Me) (i : Nat) (S : ck_S) (k : ck_S → Bool) : Bool := match S.2.1 with
  | r :: _ => r.1 == 2 && (r.2.2.all (fun t => match ck_ty0 M t with
      | some ci => (mxl M).contains (i, ci)
      | none => false) && k S)
  | [] => false
def ck_nul (S : ck_S) (kt kf : ck_S → Bool) : Bool := match S.2.1 with
  | r :: st => if r.1 = 2 then kf (ck_ss S st) else if r.1 = 4 then kt (ck_ss S st) else
      r.1 == 3 && (kf (ck_subS r.2.1 (2, r.2.1, r.2.2) (ck_ss S st)) && kt (ck_subS r.2.1 (4, r.2.1, []) (ck_ss S st)))
  | [] => false
def ck_inv (M : ck_Me) (i : Nat) (S : ck_S) (k : ck_S → Bool) : Bool := match (mvl M).find? (fun x => x.1 == i) with
  | some x => if x.2.1 = 0 then (mvl M).any (fun y => y.1 == i && (y.2.1 == 0 && ck_call (mF M) (mWr M) (mRm M) S y.2.2.1 y.2.2.2 k)) else
      decide (1 ≤ x.2.2.1) && (match S.2.1[x.2.2.1 - 1]? with
        | some r => r.1 == 2 && r.2.2.all (fun t => (mvl M).any (fun y => (y.1 == i && y.2.1 == t) && (y.2.2.1 == x.2.2.1 && (!(t == 0) && ck_call (mF M) (mWr M) (mRm M) (if r.2.2 = [t] then S else ck_subS r.2.1 (2, r.2.1, [t]) S) x.2.2.1 y.2.2.2 k))))
        | none => false)
  | none => false
def ck_un (S : ck_S) (f : ck_V → List ck_V → Bool) : Bool := match S.2.1 with
  | v :: st => f v st
  | [] => false
/-- the step; kr: what is asked at the end (0 void, 1 int, 2 long, 3 reference) -/
def ck_step (M : ck_Me) (kr : Nat → ck_S → Bool) (k : ck_cont) (S : ck_S) (pc : Nat) (ins : Instr) (len : Nat) : Bool :=
  match ins with
  | .iconst v => len == 1 && (decide (-2147483648 ≤ v ∧ v < 2147483648) && k (ck_cst S 0 v) (pc + 1))
  | .bipush v => len == 2 && (decide (-128 ≤ v ∧ v < 128) && k (ck_cst S 0 v) (pc + 2))
  | .sipush v => len == 3 && (decide (-32768 ≤ v ∧ v < 32768) && k (ck_cst S 0 v) (pc + 3))
  | .lconst v => len == 1 && k (ck_cst S 1 (v : Nat)) (pc + 1)
  | .ldc i => len == 2 && (match (mkl M).find? (fun x => x.1 == i && x.2.1 == 0) with
    | some x => k (ck_cst S 0 x.2.2) (pc + 2)
    | none => false)
  | .ldc_w i => len == 3 && (match (mkl M).find? (fun x => x.1 == i && x.2.1 == 0) with
    | some x => k (ck_cst S 0 x.2.2) (pc + 3)
    | none => false)
  | .ldc2_w i => len == 3 && (match (mkl M).find? (fun x => x.1 == i && x.2.1 == 1) with
    | some x => k (ck_cst S 1 x.2.2) (pc + 3)
    | none => false)
  | .iload_n i => len == 1 && ck_ld S i (fun v => v.1 == 0) (fun S => k S (pc + 1))
  | .iload i => len == 2 && ck_ld S i (fun v => v.1 == 0) (fun S => k S (pc + 2))
  | .lload_n i => len == 1 && ck_ld S i (fun v => v.1 == 1) (fun S => k S (pc + 1))
  | .lload i => len == 2 && ck_ld S i (fun v => v.1 == 1) (fun S => k S (pc + 2))
  | .aload_n i => len == 1 && ck_ld S i ck_isr (fun S => k S (pc + 1))
  | .aload i => len == 2 && ck_ld S i ck_isr (fun S => k S (pc + 2))
  | .istore_n i => len == 1 && ck_sto (mnL M) S i (fun v => v.1 == 0) (fun S => k S (pc + 1))
  | .istore i => len == 2 && ck_sto (mnL M) S i (fun v => v.1 == 0) (fun S => k S (pc + 2))
  | .astore_n i => len == 1 && ck_sto (mnL M) S i ck_isr (fun S => k S (pc + 1))
  | .astore i => len == 2 && ck_sto (mnL M) S i ck_isr (fun S => k S (pc + 2))
  | .lstore_n i => len == 1 && ck_sto2 (mnL M) S i (fun S => k S (pc + 1))
  | .lstore i => len == 2 && ck_sto2 (mnL M) S i (fun S => k S (pc + 2))
  | .iinc i c => len == 3 && (decide (-32768 ≤ c ∧ c < 32768) && (decide (i < mnL M) && match ck_look S.1 i with
    | some v => v.1 == 0 && (let S1 := ck_cst S 0 c
        match ck_binS 32 0 S1 S.2.1 0 v.2.1 S.2.2.2.1.length with
        | some S' => (match S'.2.1 with
          | w :: _ => k (ck_st1 S.1 i w, S.2.1, S'.2.2) (pc + 3)
          | [] => false)
        | none => false)
    | none => false))
  | .iadd => len == 1 && ck_b2 32 0 0 S (fun S => k S (pc + 1))
  | .isub => len == 1 && ck_b2 32 1 0 S (fun S => k S (pc + 1))
  | .imul => len == 1 && ck_b2 32 2 0 S (fun S => k S (pc + 1))
  | .iand => len == 1 && ck_b2 32 3 0 S (fun S => k S (pc + 1))
  | .ior => len == 1 && ck_b2 32 4 0 S (fun S => k S (pc + 1))
  | .ixor => len == 1 && ck_b2 32 5 0 S (fun S => k S (pc + 1))
  | .ishl => len == 1 && ck_b2 32 6 0 S (fun S => k S (pc + 1))
  | .ishr => len == 1 && ck_b2 32 7 0 S (fun S => k S (pc + 1))
  | .ladd => len == 1 && ck_b2 64 0 1 S (fun S => k S (pc + 1))
  | .lsub => len == 1 && ck_b2 64 1 1 S (fun S => k S (pc + 1))
  | .lmul => len == 1 && ck_b2 64 2 1 S (fun S => k S (pc + 1))
  | .land => len == 1 && ck_b2 64 3 1 S (fun S => k S (pc + 1))
  | .lor => len == 1 && ck_b2 64 4 1 S (fun S => k S (pc + 1))
  | .lxor => len == 1 && ck_b2 64 5 1 S (fun S => k S (pc + 1))
  | .idiv => len == 1 && ck_un S (fun b _ => match S.2.2.2.1[b.2.1]? with
    | some x => (decide (0 < x.1) && decide (x.1 ≤ x.2)) && ck_b2 32 9 0 S (fun S => k S (pc + 1))
    | none => false)
  | .irem => len == 1 && ck_un S (fun b _ => match S.2.2.2.1[b.2.1]? with
    | some x => (decide (0 < x.1) && decide (x.1 ≤ x.2)) && ck_b2 32 10 0 S (fun S => k S (pc + 1))
    | none => false)
  | .iushr => len == 1 && (match S.2.1 with
    | b :: a :: st => b.1 == 0 && (a.1 == 0 && k (ck_new S st 0 [] (ck_top 32) []) (pc + 1))
    | _ => false)
  | .lushr => len == 1 && (match S.2.1 with
    | b :: a :: st => b.1 == 0 && (a.1 == 1 && k (ck_new S st 1 [] (ck_top 64) []) (pc + 1))
    | _ => false)
  | .lshr => len == 1 && (match S.2.1 with
    | b :: a :: st => b.1 == 0 && (a.1 == 1 && k (ck_new S st 1 [] (ck_top 64) []) (pc + 1))
    | _ => false)
  | .lshl => len == 1 && (match S.2.1 with
    | b :: a :: st => b.1 == 0 && (a.1 == 1 && (match S.2.2.2.1[a.2.1]?, S.2.2.2.1[b.2.1]? with
      | some x, some y => decide (x.1 ≤ x.2 ∧ y.1 ≤ y.2) && k (ck_new S st 1 [] (ck_bin 64 6 x y) []) (pc + 1)
      | _, _ => false))
    | _ => false)
  | .ineg => len == 1 && (match S.2.1 with
    | a :: st => a.1 == 0 && (match S.2.2.2.1[a.2.1]? with
      | some x => decide (x.1 ≤ x.2) && k (ck_new S st 0 [] (ck_cl 32 (-x.2, -x.1)) []) (pc + 1)
      | none => false)
    | _ => false)
  | .i2l => len == 1 && ck_un S (fun v st => v.1 == 0 && k (ck_ss S ((1, v.2.1, []) :: st)) (pc + 1))
  | .l2i => len == 1 && ck_un S (fun v st => v.1 == 1 && (match S.2.2.2.1[v.2.1]? with
    | some x => decide (x.1 ≤ x.2) && k (if -2147483648 ≤ x.1 ∧ x.2 < 2147483648 then ck_ss S ((0, v.2.1, []) :: st) else ck_new S st 0 [] (ck_top 32) []) (pc + 1)
    | none => false))
  | .i2b => len == 1 && ck_un S (fun v st => v.1 == 0 && k (ck_new S st 0 [] (-128, 127) []) (pc + 1))
  | .i2s => len == 1 && ck_un S (fun v st => v.1 == 0 && k (ck_new S st 0 [] (-32768, 32767) []) (pc + 1))
  | .lcmp => len == 1 && (match S.2.1 with
    | b :: a :: st => b.1 == 1 && (a.1 == 1 && k (ck_ss S ((7, a.2.1, [b.2.1]) :: st)) (pc + 1))
    | _ => false)
  | .aconst_null => len == 1 && k (ck_new S S.2.1 4 [] (1, 0) []) (pc + 1)
  | .dup => len == 1 && ck_un S (fun v st => ck_cat v == 1 && k (ck_ss S (v :: v :: st)) (pc + 1))
  | .pop => len == 1 && ck_un S (fun v st => ck_cat v == 1 && k (ck_ss S st) (pc + 1))
  | .pop2 => len == 1 && ck_un S (fun v st => v.1 == 1 && k (ck_ss S st) (pc + 1))
  | .dup2 => len == 1 && (match S.2.1 with
    | a :: b :: st => ck_cat a == 1 && (ck_cat b == 1 && k (ck_ss S (a :: b :: a :: b :: st)) (pc + 1))
    | _ => false)
  | .goto o => len == 3 && ck_tgt pc o (k S)
  | .ifCond cd o => len == 3 && decide (0 ≤ (pc : Int) + o) && ck_un S (fun v st => if v.1 = 7 then (match v.2.2 with
      | [b] => ck_wc (mF M) cd v.2.1 b (ck_ss S st) (fun S => ck_tgt pc o (k S)) (fun S => k S (pc + 3))
      | _ => false) else v.1 == 0 && ck_wc (mF M) cd v.2.1 0 (ck_ss S st) (fun S => ck_tgt pc o (k S)) (fun S => k S (pc + 3)))
  | .if_icmp cd o => len == 3 && decide (0 ≤ (pc : Int) + o) && (match S.2.1 with
    | b :: a :: st => b.1 == 0 && (a.1 == 0 && ck_wc (mF M) cd a.2.1 b.2.1 (ck_ss S st) (fun S => ck_tgt pc o (k S)) (fun S => k S (pc + 3)))
    | _ => false)
  | .ifnull o => len == 3 && ck_nul S (fun S => ck_tgt pc o (k S)) (fun S => k S (pc + 3))
  | .ifnonnull o => len == 3 && ck_nul S (fun S => k S (pc + 3)) (fun S => ck_tgt pc o (k S))
  | .tableswitch d lo hi os => ck_un S (fun v st => v.1 == 0 && (decide (hi = lo + (os.size : Int) - 1) && (ck_sw v.2.1 lo (ck_ss S st) pc k os.toList &&
      (ck_iv v.2.1 (-2147483648) (lo - 1) (ck_ss S st) (fun S => ck_tgt pc d (k S)) && ck_iv v.2.1 (hi + 1) 2147483647 (ck_ss S st) (fun S => ck_tgt pc d (k S))))))
  | .getfield i => len == 3 && ck_get M i S (fun S => k S (pc + 3))
  | .putfield i => len == 3 && ck_put M i S (fun S => k S (pc + 3))
  | .getstatic i => len == 3 && ((mgl M).contains i && k (ck_new S S.2.1 6 [] (1, 0) []) (pc + 3))
  | .iaload => len == 1 && (match S.2.1 with
    | _ :: r :: _ => if r.1 = 5 then ck_sld M S (fun S => k S (pc + 1)) else ck_ald M 1 S (fun S => k S (pc + 1))
    | _ => false)
  | .laload => len == 1 && (match S.2.1 with
    | _ :: r :: _ => if r.1 = 6 then ck_wld M S (fun S => k S (pc + 1)) else ck_ald M 2 S (fun S => k S (pc + 1))
    | _ => false)
  | .baload => len == 1 && ck_ald M 4 S (fun S => k S (pc + 1))
  | .aaload => len == 1 && (match S.2.1 with
    | _ :: r :: _ => (match r.2.2 with
      | t :: _ => (match (mTT M)[t]? with
        | some td => if td.1 = 3 then ck_ald M 3 S (fun S => k S (pc + 1)) else ck_ald M 5 S (fun S => k S (pc + 1))
        | none => false)
      | [] => false)
    | _ => false)
  | .iastore => len == 1 && ck_ast M 1 S (fun S => k S (pc + 1))
  | .lastore => len == 1 && ck_ast M 2 S (fun S => k S (pc + 1))
  | .bastore => len == 1 && ck_ast M 4 S (fun S => k S (pc + 1))
  | .aastore => len == 1 && ck_aast M S (fun S => k S (pc + 1))
  | .arraylength => len == 1 && ck_len M S (fun S => k S (pc + 1))
  | .new i => len == 3 && ck_mk M i S (fun S => k S (pc + 3))
  | .instanceof i => len == 3 && ck_ins M i S (fun S => k S (pc + 3))
  | .checkcast i => len == 3 && ck_cas M i S (fun S => k S (pc + 3))
  | .invokevirtual i => len == 3 && ck_inv M (3 * i) S (fun S => k S (pc + 3))
  | .invokestatic i => len == 3 && ck_inv M (3 * i + 1) S (fun S => k S (pc + 3))
  | .invokespecial i => len == 3 && ck_inv M (3 * i + 2) S (fun S => k S (pc + 3))
  | .return_ => len == 1 && (match S.2.1 with
    | [] => kr 0 S
    | _ => false)
  | .ireturn => len == 1 && (match S.2.1 with
    | [v] => v.1 == 0 && kr 1 S
    | _ => false)
  | .lreturn => len == 1 && (match S.2.1 with
    | [v] => v.1 == 1 && kr 2 S
    | _ => false)
  | .areturn => len == 1 && (match S.2.1 with
    | [v] => (v.1 == 2 || (v.1 == 3 || v.1 == 4)) && kr 3 S
    | _ => false)
  | _ => false
end
noncomputable section
/-! the intervals are right -/
def ck_in (x : Int × Int) (z : Int) : Prop := x.1 ≤ z ∧ z ≤ x.2
theorem ck_B_pos {w : Nat} : 0 < ck_B w := Int.pow_pos (by decide)
theorem ck_B_two {w : Nat} (hw : 0 < w) : (2 : Int) * ck_B w = 2 ^ w := by
  obtain ⟨k, rfl⟩ : ∃ k, w = k + 1 := ⟨w - 1, by omega⟩
  show (2 : Int) * 2 ^ k = 2 ^ (k + 1)
  rw [Int.pow_succ, Int.mul_comm]
theorem ck_rng {w : Nat} (hw : 0 < w) (x : BitVec w) : ck_in (ck_top w) x.toInt := by
  have h1 : 2 * x.toInt < 2 ^ w := BitVec.two_mul_toInt_lt
  have h2 : -2 ^ w ≤ 2 * x.toInt := BitVec.le_two_mul_toInt
  have h3 := ck_B_two hw
  have h4 : ((2 : Int) ^ w) = 2 * ck_B w := h3.symm
  rw [h4] at h1 h2
  exact ⟨by show -(ck_B w) ≤ _; omega, by show _ ≤ ck_B w - 1; omega⟩
theorem ck_bm {w : Nat} (hw : 0 < w) {z : Int} (h1 : -(ck_B w) ≤ z) (h2 : z ≤ ck_B w - 1) : z.bmod (2 ^ w) = z := by
  have h3 := ck_B_two hw
  have h5 : ((2 ^ w : Nat) : Int) = 2 ^ w := by simp
  refine Int.bmod_eq_of_le ?_ ?_
  · rw [h5]; omega
  · rw [h5]; omega
theorem ck_cl_ok {w : Nat} (hw : 0 < w) {r : BitVec w} {z : Int} {x : Int × Int} (hr : r.toInt = z.bmod (2 ^ w)) (h : ck_in x z) : ck_in (ck_cl w x) r.toInt := by
  unfold ck_cl
  split
  · rename_i hx
    rw [hr, ck_bm hw (by have := h.1; omega) (by have := h.2; omega)]
    exact h
  · exact ck_rng hw r
theorem ck_cl_eq {w : Nat} (hw : 0 < w) {r : BitVec w} {z : Int} {x : Int × Int} (hr : r.toInt = z.bmod (2 ^ w)) (h : ck_in x z) (he : -(ck_B w) ≤ x.1 ∧ x.2 ≤ ck_B w - 1) : r.toInt = z := by
  rw [hr]
  exact ck_bm hw (by have := h.1; omega) (by have := h.2; omega)
theorem ck_cl_in {w : Nat} {x : Int × Int} (h : (ck_cl w x).1 = x.1 ∧ (ck_cl w x).2 = x.2) : -(ck_B w) ≤ x.1 ∧ x.2 ≤ ck_B w - 1 := by
  unfold ck_cl at h
  split at h
  · assumption
  · have a := h.1
    have b := h.2
    simp only [ck_top] at a b
    omega
theorem ck_mul1 {a l h c : Int} (h1 : l ≤ a) (h2 : a ≤ h) : ck_min (l * c) (h * c) ≤ a * c ∧ a * c ≤ ck_max (l * c) (h * c) := by
  have key : (l * c ≤ a * c ∧ a * c ≤ h * c) ∨ (h * c ≤ a * c ∧ a * c ≤ l * c) := by
    rcases Int.le_total 0 c with hc | hc
    · exact Or.inl ⟨Int.mul_le_mul_of_nonneg_right h1 hc, Int.mul_le_mul_of_nonneg_right h2 hc⟩
    · exact Or.inr ⟨Int.mul_le_mul_of_nonpos_right h2 hc, Int.mul_le_mul_of_nonpos_right h1 hc⟩
  unfold ck_min ck_max
  split <;> omega
theorem ck_mul2 {a b : Int} {x y : Int × Int} (hx : ck_in x a) (hy : ck_in y b) : ck_in (ck_min (ck_min (x.1 * y.1) (x.1 * y.2)) (ck_min (x.2 * y.1) (x.2 * y.2)), ck_max (ck_max (x.1 * y.1) (x.1 * y.2)) (ck_max (x.2 * y.1) (x.2 * y.2))) (a * b) := by
  have h1 := ck_mul1 (c := b) hx.1 hx.2
  have h2 := ck_mul1 (c := x.1) hy.1 hy.2
  have h3 := ck_mul1 (c := x.2) hy.1 hy.2
  rw [Int.mul_comm y.1, Int.mul_comm y.2, Int.mul_comm b] at h2 h3
  refine ⟨?_, ?_⟩
  · show ck_min (ck_min _ _) (ck_min _ _) ≤ _
    have e1 : ck_min (ck_min (x.1 * y.1) (x.1 * y.2)) (ck_min (x.2 * y.1) (x.2 * y.2)) ≤ ck_min (x.1 * b) (x.2 * b) := by
      have p1 := ck_le_min.mp (Int.le_refl (ck_min (ck_min (x.1 * y.1) (x.1 * y.2)) (ck_min (x.2 * y.1) (x.2 * y.2))))
      exact ck_le_min.mpr ⟨Int.le_trans p1.1 h2.1, Int.le_trans p1.2 h3.1⟩
    exact Int.le_trans e1 h1.1
  · show _ ≤ ck_max (ck_max _ _) (ck_max _ _)
    have p1 := ck_max_le.mp (Int.le_refl (ck_max (ck_max (x.1 * y.1) (x.1 * y.2)) (ck_max (x.2 * y.1) (x.2 * y.2))))
    have e1 : ck_max (x.1 * b) (x.2 * b) ≤ ck_max (ck_max (x.1 * y.1) (x.1 * y.2)) (ck_max (x.2 * y.1) (x.2 * y.2)) := ck_max_le.mpr ⟨Int.le_trans h2.2 p1.1, Int.le_trans h3.2 p1.2⟩
    exact Int.le_trans h1.2 e1
theorem ck_nn {w : Nat} {x : BitVec w} (h : 0 ≤ x.toInt) : x.toInt = (x.toNat : Int) ∧ x.msb = false := by
  have hm : x.msb = false := by
    rw [BitVec.msb_eq_toInt]
    exact decide_eq_false (by omega)
  exact ⟨BitVec.toInt_eq_toNat_of_msb hm, hm⟩
theorem ck_and_r {w : Nat} {a b : BitVec w} (h : 0 ≤ b.toInt) : 0 ≤ (a &&& b).toInt ∧ (a &&& b).toInt ≤ b.toInt := by
  obtain ⟨h1, h2⟩ := ck_nn h
  have hm : (a &&& b).msb = false := by rw [BitVec.msb_and, h2, Bool.and_false]
  rw [BitVec.toInt_eq_toNat_of_msb hm, BitVec.toNat_and, h1]
  exact ⟨Int.natCast_nonneg _, Int.ofNat_le.mpr Nat.and_le_right⟩
theorem ck_and_l {w : Nat} {a b : BitVec w} (h : 0 ≤ a.toInt) : 0 ≤ (a &&& b).toInt ∧ (a &&& b).toInt ≤ a.toInt := by
  rw [BitVec.and_comm]
  exact ck_and_r h
theorem ck_msk_lt {h : Int} {n : Nat} (hn : (n : Int) ≤ h) : n < 2 ^ (h.toNat.log2 + 1) := Nat.lt_of_le_of_lt (show n ≤ h.toNat by omega) Nat.lt_log2_self
theorem ck_msk_eq {h : Int} {n : Nat} (hn : n < 2 ^ (h.toNat.log2 + 1)) : (n : Int) ≤ ck_msk h := by
  unfold ck_msk
  have h1 : ((2 ^ (h.toNat.log2 + 1) : Nat) : Int) = 2 ^ (h.toNat.log2 + 1) := by simp
  have h2 : (n : Int) < ((2 ^ (h.toNat.log2 + 1) : Nat) : Int) := Int.ofNat_lt.mpr hn
  omega
theorem ck_or_ok {w : Nat} {a b : BitVec w} {x y : Int × Int} (hx : ck_in x a.toInt) (hy : ck_in y b.toInt) (h0 : 0 ≤ x.1) (h1 : 0 ≤ y.1) : ck_in (ck_max x.1 y.1, ck_msk (ck_max x.2 y.2)) (a ||| b).toInt ∧ a.toInt ≤ (a ||| b).toInt := by
  obtain ⟨a1, a2⟩ := ck_nn (x := a) (Int.le_trans h0 hx.1)
  obtain ⟨b1, b2⟩ := ck_nn (x := b) (Int.le_trans h1 hy.1)
  have hm : (a ||| b).msb = false := by rw [BitVec.msb_or, a2, b2]; rfl
  have p1 := ck_max_le.mp (Int.le_refl (ck_max x.2 y.2))
  rw [ck_in, BitVec.toInt_eq_toNat_of_msb hm, BitVec.toNat_or, a1]
  refine ⟨⟨ck_max_le.mpr ⟨?_, ?_⟩, ck_msk_eq (Nat.or_lt_two_pow (ck_msk_lt ?_) (ck_msk_lt ?_))⟩, Int.ofNat_le.mpr Nat.left_le_or⟩
  · exact Int.le_trans (by rw [← a1]; exact hx.1) (Int.ofNat_le.mpr Nat.left_le_or)
  · exact Int.le_trans (by rw [← b1]; exact hy.1) (Int.ofNat_le.mpr Nat.right_le_or)
  · rw [← a1]; exact Int.le_trans hx.2 p1.1
  · rw [← b1]; exact Int.le_trans hy.2 p1.2
theorem ck_xor_ok {w : Nat} {a b : BitVec w} {x y : Int × Int} (hx : ck_in x a.toInt) (hy : ck_in y b.toInt) (h0 : 0 ≤ x.1) (h1 : 0 ≤ y.1) : ck_in (0, ck_msk (ck_max x.2 y.2)) (a ^^^ b).toInt := by
  obtain ⟨a1, a2⟩ := ck_nn (x := a) (Int.le_trans h0 hx.1)
  obtain ⟨b1, b2⟩ := ck_nn (x := b) (Int.le_trans h1 hy.1)
  have hm : (a ^^^ b).msb = false := by rw [BitVec.msb_xor, a2, b2]; rfl
  have p1 := ck_max_le.mp (Int.le_refl (ck_max x.2 y.2))
  rw [ck_in, BitVec.toInt_eq_toNat_of_msb hm, BitVec.toNat_xor]
  refine ⟨Int.natCast_nonneg _, ck_msk_eq (Nat.xor_lt_two_pow (ck_msk_lt ?_) (ck_msk_lt ?_))⟩
  · rw [← a1]; exact Int.le_trans hx.2 p1.1
  · rw [← b1]; exact Int.le_trans hy.2 p1.2
theorem ck_two_le {a b : Nat} (h : a ≤ b) : (2 : Int) ^ a ≤ 2 ^ b := by
  have h1 : (2 : Nat) ^ a ≤ 2 ^ b := Nat.pow_le_pow_right (by decide) h
  have e : ∀ k : Nat, (2 : Int) ^ k = ((2 ^ k : Nat) : Int) := fun k => by simp
  rw [e, e]
  exact Int.ofNat_le.mpr h1
theorem ck_two_pos {a : Nat} : (0 : Int) < 2 ^ a := Int.pow_pos (by decide)
theorem ck_shl_ok {w : Nat} (hw : 0 < w) {a : BitVec w} {n : Nat} {x y : Int × Int} (hx : ck_in x a.toInt) (hy : ck_in y n) (h0 : 0 ≤ x.1) (h1 : 0 ≤ y.1) : ck_in (ck_cl w (x.1 * 2 ^ y.1.toNat, x.2 * 2 ^ y.2.toNat)) (a <<< n).toInt := by
  obtain ⟨a1, -⟩ := ck_nn (x := a) (Int.le_trans h0 hx.1)
  have e : ((a.toNat <<< n : Nat) : Int) = a.toInt * 2 ^ n := by rw [Nat.shiftLeft_eq, a1]; simp
  refine ck_cl_ok hw (z := a.toInt * 2 ^ n) (by rw [BitVec.toInt_shiftLeft, e]) ⟨?_, ?_⟩
  · exact Int.mul_le_mul hx.1 (ck_two_le (by have := hy.1; omega)) (Int.le_of_lt ck_two_pos) (Int.le_trans h0 hx.1)
  · exact Int.mul_le_mul hx.2 (ck_two_le (by have := hy.2; omega)) (Int.le_of_lt ck_two_pos) (Int.le_trans (Int.le_trans h0 hx.1) hx.2)
theorem ck_shr_ok {w : Nat} {a : BitVec w} {n : Nat} {x : Int × Int} (hx : ck_in x a.toInt) : ck_in (x.1 / 2 ^ n, x.2 / 2 ^ n) (a.sshiftRight n).toInt := by
  rw [BitVec.toInt_sshiftRight, Int.shiftRight_eq_div_pow]
  have e : ((2 ^ n : Nat) : Int) = 2 ^ n := by simp
  rw [e]
  exact ⟨Int.ediv_le_ediv ck_two_pos hx.1, Int.ediv_le_ediv ck_two_pos hx.2⟩
theorem ck_shr_nn {w : Nat} {a : BitVec w} {n : Nat} {x : Int × Int} (hx : ck_in x a.toInt) (h0 : 0 ≤ x.1) : ck_in (0, x.2) (a.sshiftRight n).toInt := by
  rw [BitVec.toInt_sshiftRight, Int.shiftRight_eq_div_pow]
  have e : ((2 ^ n : Nat) : Int) = 2 ^ n := by simp
  rw [e]
  have h2 : 0 ≤ a.toInt := Int.le_trans h0 hx.1
  exact ⟨Int.ediv_nonneg h2 (Int.le_of_lt ck_two_pos), Int.le_trans (Int.ediv_le_self _ h2) hx.2⟩
end
noncomputable section
def ck_f32 (op : Nat) (a b : Int32) : Int32 := match op with
  | 0 => a + b
  | 1 => a - b
  | 2 => a * b
  | 3 => a &&& b
  | 4 => a ||| b
  | 5 => a ^^^ b
  | 6 => a <<< (b &&& 31)
  | 7 => a >>> (b &&& 31)
  | 9 => a / b
  | 10 => a % b
  | _ => a
def ck_f64 (op : Nat) (a b : Int64) : Int64 := match op with
  | 0 => a + b
  | 1 => a - b
  | 2 => a * b
  | 3 => a &&& b
  | 4 => a ||| b
  | 5 => a ^^^ b
  | _ => a
theorem ck_sh32 : ∀ k, k < 32 → ((Int32.ofNat k &&& 31 : Int32).toBitVec.smod 32).toNat = k := by decide +kernel
theorem ck_sh64 : ∀ k, k < 64 → (((Int32.ofNat k).toInt64 &&& 63 : Int64).toBitVec.smod 64).toNat = k := by decide +kernel
theorem ck_i32 {b : Int32} (h0 : 0 ≤ b.toInt) : b = Int32.ofNat b.toInt.toNat := by
  apply Int32.toInt_inj.mp
  have h1 := Int32.toInt_lt b
  rw [Int32.toInt_ofNat_of_lt (by omega)]
  omega
theorem ck_shl32 {a b : Int32} {k : Nat} (hb : b.toInt = k) (hk : k < 32) : (a <<< (b &&& 31)).toInt = (a.toBitVec <<< k).toInt := by
  have e : b = Int32.ofNat k := by rw [ck_i32 (b := b) (by omega), hb]; rfl
  show (a <<< (b &&& 31)).toBitVec.toInt = _
  rw [Int32.toBitVec_shiftLeft, e, BitVec.shiftLeft_eq', ck_sh32 k hk]
theorem ck_shr32 {a b : Int32} {k : Nat} (hb : b.toInt = k) (hk : k < 32) : (a >>> (b &&& 31)).toInt = (a.toBitVec.sshiftRight k).toInt := by
  have e : b = Int32.ofNat k := by rw [ck_i32 (b := b) (by omega), hb]; rfl
  show (a >>> (b &&& 31)).toBitVec.toInt = _
  rw [Int32.toBitVec_shiftRight, e]
  show (a.toBitVec.sshiftRight _).toInt = _
  rw [ck_sh32 k hk]
theorem ck_shrx {a b : Int32} : ∃ k : Nat, (a >>> (b &&& 31)).toInt = (a.toBitVec.sshiftRight k).toInt := by
  refine ⟨((b &&& 31 : Int32).toBitVec.smod 32).toNat, ?_⟩
  show (a >>> (b &&& 31)).toBitVec.toInt = _
  rw [Int32.toBitVec_shiftRight]
  rfl
theorem ck_shl64 {a : Int64} {b : Int32} {k : Nat} (hb : b.toInt = k) (hk : k < 64) : (a <<< (b.toInt64 &&& 63)).toInt = (a.toBitVec <<< k).toInt := by
  have e : b = Int32.ofNat k := by rw [ck_i32 (b := b) (by omega), hb]; rfl
  show (a <<< (b.toInt64 &&& 63)).toBitVec.toInt = _
  rw [Int64.toBitVec_shiftLeft, e, BitVec.shiftLeft_eq', ck_sh64 k hk]
theorem ck_r32 (a : Int32) : ck_in (ck_top 32) a.toInt := ck_rng (w := 32) (by decide) a.toBitVec
theorem ck_r64 (a : Int64) : ck_in (ck_top 64) a.toInt := ck_rng (w := 64) (by decide) a.toBitVec
theorem ck_bin32 (op : Nat) {a b : Int32} {x y : Int × Int} (hx : ck_in x a.toInt) (hy : ck_in y b.toInt) : ck_in (ck_bin 32 op x y) (ck_f32 op a b).toInt := by
  unfold ck_bin
  split
  · exact ck_cl_ok (w := 32) (by decide) (r := (a + b).toBitVec) (z := a.toInt + b.toInt) (Int32.toInt_add a b) ⟨Int.add_le_add hx.1 hy.1, Int.add_le_add hx.2 hy.2⟩
  · exact ck_cl_ok (w := 32) (by decide) (r := (a - b).toBitVec) (z := a.toInt - b.toInt) (Int32.toInt_sub a b) ⟨Int.sub_le_sub hx.1 hy.2, Int.sub_le_sub hx.2 hy.1⟩
  · exact ck_cl_ok (w := 32) (by decide) (r := (a * b).toBitVec) (z := a.toInt * b.toInt) (Int32.toInt_mul a b) (ck_mul2 hx hy)
  · split
    · rename_i h1
      have p := ck_and_r (a := a.toBitVec) (b := b.toBitVec) (Int.le_trans h1 hy.1)
      split
      · rename_i h2
        have p2 := ck_and_l (a := a.toBitVec) (b := b.toBitVec) (Int.le_trans h2 hx.1)
        exact ⟨p.1, ck_le_min.mpr ⟨Int.le_trans p2.2 hx.2, Int.le_trans p.2 hy.2⟩⟩
      · exact ⟨p.1, Int.le_trans p.2 hy.2⟩
    · split
      · rename_i h2
        have p2 := ck_and_l (a := a.toBitVec) (b := b.toBitVec) (Int.le_trans h2 hx.1)
        exact ⟨p2.1, Int.le_trans p2.2 hx.2⟩
      · exact ck_r32 _
  · split
    · rename_i h
      have p := (ck_or_ok (a := a.toBitVec) (b := b.toBitVec) hx hy h.1 h.2).1
      have hl := ck_rng (w := 32) (by decide) (a.toBitVec ||| b.toBitVec)
      exact ck_cl_ok (w := 32) (by decide) (r := a.toBitVec ||| b.toBitVec) (z := (a.toBitVec ||| b.toBitVec).toInt) (ck_bm (by decide) hl.1 hl.2).symm p
    · exact ck_r32 _
  · split
    · rename_i h
      have p := ck_xor_ok (a := a.toBitVec) (b := b.toBitVec) hx hy h.1 h.2
      have hl := ck_rng (w := 32) (by decide) (a.toBitVec ^^^ b.toBitVec)
      exact ck_cl_ok (w := 32) (by decide) (r := a.toBitVec ^^^ b.toBitVec) (z := (a.toBitVec ^^^ b.toBitVec).toInt) (ck_bm (by decide) hl.1 hl.2).symm p
    · exact ck_r32 _
  · split
    · rename_i h
      have h3 : y.2 < 32 := h.2.2
      have e : b.toInt = ((b.toInt.toNat : Nat) : Int) := by have := hy.1; omega
      show ck_in _ (a <<< (b &&& 31)).toInt
      rw [ck_shl32 e (by have := hy.2; omega)]
      exact ck_shl_ok (by decide) hx (by rw [← e]; exact hy) h.1 h.2.1
    · exact ck_r32 _
  · split
    · rename_i h
      have h3 : y.2 < 32 := h.2.2
      have e : b.toInt = ((y.1.toNat : Nat) : Int) := by have := hy.1; have := hy.2; omega
      show ck_in _ (a >>> (b &&& 31)).toInt
      rw [ck_shr32 e (by omega)]
      exact ck_shr_ok hx
    · split
      · rename_i h
        obtain ⟨k, e⟩ := ck_shrx (a := a) (b := b)
        show ck_in _ (a >>> (b &&& 31)).toInt
        rw [e]
        exact ck_shr_nn hx h
      · exact ck_r32 _
  · split
    · rename_i h
      have e : b.toInt = y.1 := by have := hy.1; have := hy.2; omega
      have h0 : 0 ≤ a.toInt := Int.le_trans h.2.2 hx.1
      have hne : b ≠ -1 := fun q => by rw [q] at e; have : (-1 : Int32).toInt = -1 := by decide
                                       omega
      show ck_in _ (a / b).toInt
      rw [Int32.toInt_div_of_ne_right a b hne, e, Int.tdiv_eq_ediv_of_nonneg h0]
      exact ⟨Int.ediv_le_ediv h.2.1 hx.1, Int.ediv_le_ediv h.2.1 hx.2⟩
    · exact ck_r32 _
  · split
    · rename_i h
      have e : b.toInt = y.1 := by have := hy.1; have := hy.2; omega
      show ck_in _ (a % b).toInt
      rw [Int32.toInt_mod, e]
      split
      · rename_i h0
        have h0 : 0 ≤ a.toInt := Int.le_trans h0 hx.1
        rw [Int.tmod_eq_emod_of_nonneg h0]
        have p1 := Int.emod_nonneg a.toInt (b := y.1) (by omega)
        have p2 := Int.emod_lt_of_pos a.toInt h.2
        exact ⟨p1, by show _ ≤ y.1 - 1; omega⟩
      · have p1 := Int.lt_tmod_of_pos a.toInt h.2
        have p2 := Int.tmod_lt_of_pos a.toInt h.2
        exact ⟨by show 1 - y.1 ≤ _; omega, by show _ ≤ y.1 - 1; omega⟩
    · exact ck_r32 _
  · exact ck_r32 _
theorem ck_bin64 (op : Nat) (hop : op < 6) {a b : Int64} {x y : Int × Int} (hx : ck_in x a.toInt) (hy : ck_in y b.toInt) : ck_in (ck_bin 64 op x y) (ck_f64 op a b).toInt := by
  unfold ck_bin
  split
  · exact ck_cl_ok (w := 64) (by decide) (r := (a + b).toBitVec) (z := a.toInt + b.toInt) (Int64.toInt_add a b) ⟨Int.add_le_add hx.1 hy.1, Int.add_le_add hx.2 hy.2⟩
  · exact ck_cl_ok (w := 64) (by decide) (r := (a - b).toBitVec) (z := a.toInt - b.toInt) (Int64.toInt_sub a b) ⟨Int.sub_le_sub hx.1 hy.2, Int.sub_le_sub hx.2 hy.1⟩
  · exact ck_cl_ok (w := 64) (by decide) (r := (a * b).toBitVec) (z := a.toInt * b.toInt) (Int64.toInt_mul a b) (ck_mul2 hx hy)
  · split
    · rename_i h1
      have p := ck_and_r (a := a.toBitVec) (b := b.toBitVec) (Int.le_trans h1 hy.1)
      split
      · rename_i h2
        have p2 := ck_and_l (a := a.toBitVec) (b := b.toBitVec) (Int.le_trans h2 hx.1)
        exact ⟨p.1, ck_le_min.mpr ⟨Int.le_trans p2.2 hx.2, Int.le_trans p.2 hy.2⟩⟩
      · exact ⟨p.1, Int.le_trans p.2 hy.2⟩
    · split
      · rename_i h2
        have p2 := ck_and_l (a := a.toBitVec) (b := b.toBitVec) (Int.le_trans h2 hx.1)
        exact ⟨p2.1, Int.le_trans p2.2 hx.2⟩
      · exact ck_r64 _
  · split
    · rename_i h
      have p := (ck_or_ok (a := a.toBitVec) (b := b.toBitVec) hx hy h.1 h.2).1
      have hl := ck_rng (w := 64) (by decide) (a.toBitVec ||| b.toBitVec)
      exact ck_cl_ok (w := 64) (by decide) (r := a.toBitVec ||| b.toBitVec) (z := (a.toBitVec ||| b.toBitVec).toInt) (ck_bm (by decide) hl.1 hl.2).symm p
    · exact ck_r64 _
  · split
    · rename_i h
      have p := ck_xor_ok (a := a.toBitVec) (b := b.toBitVec) hx hy h.1 h.2
      have hl := ck_rng (w := 64) (by decide) (a.toBitVec ^^^ b.toBitVec)
      exact ck_cl_ok (w := 64) (by decide) (r := a.toBitVec ^^^ b.toBitVec) (z := (a.toBitVec ^^^ b.toBitVec).toInt) (ck_bm (by decide) hl.1 hl.2).symm p
    · exact ck_r64 _
  all_goals first | omega | exact ck_r64 _
theorem ck_lshl {a : Int64} {b : Int32} {x y : Int × Int} (hx : ck_in x a.toInt) (hy : ck_in y b.toInt) : ck_in (ck_bin 64 6 x y) (a <<< (b.toInt64 &&& 63)).toInt := by
  show ck_in (if 0 ≤ x.1 ∧ 0 ≤ y.1 ∧ y.2 < (64 : Nat) then ck_cl 64 (x.1 * 2 ^ y.1.toNat, x.2 * 2 ^ y.2.toNat) else ck_top 64) _
  split
  · rename_i h
    have h3 : y.2 < 64 := h.2.2
    have e : b.toInt = ((b.toInt.toNat : Nat) : Int) := by have := hy.1; omega
    rw [ck_shl64 e (by have := hy.2; omega)]
    exact ck_shl_ok (by decide) hx (by rw [← e]; exact hy) h.1 h.2.1
  · exact ck_r64 _
/-- what ck_rel says is so: A, B, Z the three numbers -/
theorem ck_rel_ok {op a b N : Nat} {x y r : Int × Int} {A B Z : Int} (hx : ck_in x A) (hy : ck_in y B)
    (h0 : op = 0 → (r.1 = x.1 + y.1 ∧ r.2 = x.2 + y.2) → Z = A + B) (h1 : op = 1 → (r.1 = x.1 - y.2 ∧ r.2 = x.2 - y.1) → Z = A - B) (h3 : op = 3 → 0 ≤ B → Z ≤ B) (h4 : op = 4 → 0 ≤ A → 0 ≤ B → A ≤ Z) (h6 : op = 6 → (1 ≤ x.1 ∧ y.1 = y.2 ∧ 1 ≤ y.1 ∧ r.1 = x.1 * 2 ^ y.1.toNat ∧ r.2 = x.2 * 2 ^ y.2.toNat) → A + 1 ≤ Z)
    {v : Nat → Int} (va : v a = A) (vb : v b = B) (vN : v N = Z) : ∀ q ∈ ck_rel op a b N x y r, (q.1 = a ∨ q.1 = b ∨ q.1 = N) ∧ (q.2.1 = a ∨ q.2.1 = b ∨ q.2.1 = N) ∧ v q.1 ≤ v q.2.1 + q.2.2 := by
  intro q hq
  unfold ck_rel at hq
  split at hq
  · split at hq
    · rename_i h
      have hz := h0 rfl h
      split at hq
      · simp only [List.mem_cons, List.not_mem_nil, or_false] at hq
        rcases hq with rfl | rfl
        · exact ⟨Or.inr (Or.inr rfl), Or.inl rfl, by rw [vN, va, hz]; have := hy.1; have := hy.2; dsimp only; omega⟩
        · exact ⟨Or.inl rfl, Or.inr (Or.inr rfl), by rw [vN, va, hz]; have := hy.1; have := hy.2; dsimp only; omega⟩
      · split at hq
        · simp only [List.mem_cons, List.not_mem_nil, or_false] at hq
          rcases hq with rfl | rfl
          · exact ⟨Or.inr (Or.inr rfl), Or.inr (Or.inl rfl), by rw [vN, vb, hz]; have := hx.1; have := hx.2; dsimp only; omega⟩
          · exact ⟨Or.inr (Or.inl rfl), Or.inr (Or.inr rfl), by rw [vN, vb, hz]; have := hx.1; have := hx.2; dsimp only; omega⟩
        · cases hq
    · cases hq
  · split at hq
    · rename_i h
      have hz := h1 rfl ⟨h.1, h.2.1⟩
      simp only [List.mem_cons, List.not_mem_nil, or_false] at hq
      rcases hq with rfl | rfl
      · exact ⟨Or.inr (Or.inr rfl), Or.inl rfl, by rw [vN, va, hz]; have := hy.1; have := hy.2; dsimp only; omega⟩
      · exact ⟨Or.inl rfl, Or.inr (Or.inr rfl), by rw [vN, va, hz]; have := hy.1; have := hy.2; dsimp only; omega⟩
    · cases hq
  · split at hq
    · rename_i h
      split at hq
      · cases hq
      · simp only [List.mem_cons, List.not_mem_nil, or_false] at hq
        subst hq
        exact ⟨Or.inr (Or.inr rfl), Or.inr (Or.inl rfl), by rw [vN, vb]; have := h3 rfl (Int.le_trans h hy.1); dsimp only; omega⟩
    · cases hq
  · split at hq
    · rename_i h
      simp only [List.mem_cons, List.not_mem_nil, or_false] at hq
      subst hq
      exact ⟨Or.inl rfl, Or.inr (Or.inr rfl), by rw [vN, va]; have := h4 rfl (Int.le_trans h.1 hx.1) (Int.le_trans h.2 hy.1); dsimp only; omega⟩
    · cases hq
  · split at hq
    · rename_i h
      simp only [List.mem_cons, List.not_mem_nil, or_false] at hq
      subst hq
      exact ⟨Or.inl rfl, Or.inr (Or.inr rfl), by rw [vN, va]; have := h6 rfl h; dsimp only; omega⟩
    · cases hq
  · cases hq
/-- a shift that stays is a product -/
theorem ck_shl_eq {a b : Int32} {x y : Int × Int} (hx : ck_in x a.toInt) (hy : ck_in y b.toInt) (h : 1 ≤ x.1 ∧ y.1 = y.2 ∧ 1 ≤ y.1 ∧ (ck_bin 32 6 x y).1 = x.1 * 2 ^ y.1.toNat ∧ (ck_bin 32 6 x y).2 = x.2 * 2 ^ y.2.toNat) : a.toInt + 1 ≤ (ck_f32 6 a b).toInt := by
  obtain ⟨h1, h2, h3, h4, h5⟩ := h
  have hp : (2 : Int) ≤ 2 ^ y.1.toNat := by
    have := ck_two_le (a := 1) (b := y.1.toNat) (by omega)
    omega
  have ha : 1 ≤ a.toInt := Int.le_trans h1 hx.1
  have hmul : a.toInt + 1 ≤ a.toInt * 2 ^ y.1.toNat := by
    have := Int.mul_le_mul_of_nonneg_left hp (show 0 ≤ a.toInt by omega)
    omega
  have hb32 : ck_B 32 = 2147483648 := by decide
  by_cases c : 0 ≤ x.1 ∧ 0 ≤ y.1 ∧ y.2 < (32 : Nat)
  · have e0 : ck_bin 32 6 x y = ck_cl 32 (x.1 * 2 ^ y.1.toNat, x.2 * 2 ^ y.2.toNat) := if_pos c
    rw [e0] at h4 h5
    have hin := ck_cl_in ⟨h4, h5⟩
    have c3 : y.2 < 32 := c.2.2
    have e : b.toInt = ((y.1.toNat : Nat) : Int) := by have := hy.1; have := hy.2; omega
    show _ ≤ (a <<< (b &&& 31)).toInt
    rw [ck_shl32 e (by omega)]
    obtain ⟨a1, -⟩ := ck_nn (x := a.toBitVec) (show 0 ≤ a.toBitVec.toInt by have : a.toBitVec.toInt = a.toInt := rfl; omega)
    have e2 : ((a.toBitVec.toNat <<< y.1.toNat : Nat) : Int) = a.toInt * 2 ^ y.1.toNat := by
      rw [Nat.shiftLeft_eq]
      have : a.toInt = (a.toBitVec.toNat : Int) := a1
      rw [this]
      simp
    have e3 := ck_cl_eq (w := 32) (by decide) (r := a.toBitVec <<< y.1.toNat) (z := a.toInt * 2 ^ y.1.toNat) (x := (x.1 * 2 ^ y.1.toNat, x.2 * 2 ^ y.2.toNat)) (by rw [BitVec.toInt_shiftLeft, e2])
      ⟨Int.mul_le_mul_of_nonneg_right hx.1 (Int.le_of_lt ck_two_pos), by rw [← h2]; exact Int.mul_le_mul_of_nonneg_right hx.2 (Int.le_of_lt ck_two_pos)⟩ hin
    rw [e3]
    exact hmul
  · have e0 : ck_bin 32 6 x y = ck_top 32 := if_neg c
    rw [e0] at h4
    simp only [ck_top, hb32] at h4
    have : 0 ≤ x.1 * 2 ^ y.1.toNat := Int.mul_nonneg (by omega) (Int.le_of_lt ck_two_pos)
    omega
end
noncomputable section
/-! what a state says -/
/-- signs that wait: 38, 62, 124 take two values -/
def ck_b3 (x : Int32) : Bool := x == 38 || (x == 62 || x == 124)
def ck_cn (p : Int32 → Bool) (f : Nat → Int32) : Nat → Nat
  | 0 => 0
  | k + 1 => ck_cn p f k + if p (f k) then 1 else 0
/-- of the first m signs c take two values, o are open brackets -/
def ck_ng (tag : Nat) (f : Nat → Int32) (m : Int) (l : List Int) : Prop := match l with
  | [c, o] => 0 ≤ m ∧ c = (ck_cn ck_b3 f m.toNat : Int) ∧ o = (ck_cn (fun x => x == 40) f m.toNat : Int) ∧ (∀ j, j < m.toNat → ck_b3 (f j) = true ∨ f j = 40 ∨ f j = 45) ∧ (∀ j, j + 1 < m.toNat → f j = 45 → f (j + 1) = 45 ∨ f (j + 1) = 40) ∧
    (21 ≤ tag → 0 < m.toNat → f (m.toNat - 1) ≠ 45) ∧ (22 ≤ tag → 0 < m.toNat ∧ ck_b3 (f (m.toNat - 1)) = true)
  | _ => False
/-- what a note says: of the signs; of an array's content (50); of what is held (30, 33) and its numbers (31, 32, 34, 35) by a set of places -/
def ck_nt (tag : Nat) (f : Nat → Int32) (m : Int) (l : List Int) : Prop := if tag < 30 then ck_ng tag f m l else match tag, l with
  | 30, _ => ∀ i : Nat, i < 6 → (f i).toInt = 1 → m.toNat.testBit i = true
  | 31, _ => ∀ i : Nat, i < 6 → m.toNat.testBit i = true → (f i).toInt ≤ 9
  | 32, _ => (f m.toNat).toInt ≤ 9
  | 33, [w] => (f m.toNat).toInt = w
  | 34, [k] => ∀ i : Nat, i < 6 → i ≠ k.toNat → m.toNat.testBit i = true → (f i).toInt ≤ 9
  | 35, [k] => (∀ i : Nat, i < 6 → m.toNat.testBit i = true → (f i).toInt ≤ 9) ∧ m.toNat.testBit k.toNat = false
  | 50, l => ∀ (i : Nat) (z : Int), l[i]? = some z → (f i).toInt = z
  | 60, [z] => m + z ≤ 240
  | _, _ => False
def ck_mo (SG : List Nat) (ws : va_W) (sh : List Nat) (sc : ck_sc) (n : ck_N) (N : Nat) (mem : List ck_M) : Prop := ∀ x ∈ mem,
  (x.1 = 0 ∧ x.2.2.2.1 < N ∧ ((x.2.2.1 = 0 ∧ x.2.1 < N ∧ ∃ (b L : Nat) (xs : Nat → Int32), sc.1 = some (b, L, xs) ∧ (n x.2.2.2.1).1 = (xs (n x.2.1).1.toNat).toInt) ∨ (x.2.2.1 = 8 ∧ (n x.2.2.2.1).1 = sc.2.2 x.2.1))) ∨
  (x.1 ≠ 0 ∧ x.1 ∈ SG ∧ ∃ (q a : Nat) (o : Nat × List Value) (v : Value), sh[q]? = some x.1 ∧ ws[q]? = some (a, .inr o) ∧ o.2[x.2.1]? = some v ∧ ck_vo ws sh sc n N x.2.2 v) ∨
  (20 ≤ x.2.2.1 ∧ x.1 ≠ 0 ∧ x.1 ∈ SG ∧ x.2.1 = 0 ∧ x.2.2.2.1 < N ∧ (∀ j ∈ x.2.2.2.2, j < N) ∧ ∃ (q a : Nat) (cA : ClassId) (len : Nat) (f : Nat → Int32), sh[q]? = some x.1 ∧ ws[q]? = some (a, .inl (cA, len, .inl f)) ∧ ck_nt x.2.2.1 f (n x.2.2.2.1).1 (x.2.2.2.2.map (fun j => (n j).1)))
def ck_lo (ws : va_W) (sh : List Nat) (sc : ck_sc) (n : ck_N) (N nL : Nat) (loc : List (Nat × ck_V)) (ls : Array Slot) : Prop :=
  ∃ lv, lv_has ls nL lv ∧ ck_two (fun (x : Nat × ck_V) (y : Nat × Value) => x.1 = y.1 ∧ ck_vo ws sh sc n N x.2 y.2) loc lv
def ck_so (nL : Nat) (SG : List Nat) (S : ck_S) (n : ck_N) (ws : va_W) (sh : List Nat) (sc : ck_sc) (ls : Array Slot) (vs : List Value) : Prop :=
  (0 < S.2.2.2.1.length ∧ (n 0).1 = 0) ∧ ck_lo ws sh sc n S.2.2.2.1.length nL S.1 ls ∧ ck_two (ck_vo ws sh sc n S.2.2.2.1.length) S.2.1 vs ∧ ck_mo SG ws sh sc n S.2.2.2.1.length S.2.2.1 ∧ ck_eo S.2.2.2.1 n ∧ ck_ro S.2.2.2.2.1 n S.2.2.2.1.length
theorem ck_mo.up {SG : List Nat} {ws : va_W} {sh : List Nat} {sc : ck_sc} {n n' : ck_N} {N N' : Nat} {mem : List ck_M} (hn : ∀ k, k < N → n' k = n k) (hN : N ≤ N') (h : ck_mo SG ws sh sc n N mem) : ck_mo SG ws sh sc n' N' mem := by
  intro x hx
  rcases h x hx with ⟨h0, h3, ⟨h2, h1, b, L, xs, h4, h5⟩ | ⟨h2, h4⟩⟩ | ⟨h0, h1, q, a, o, v, h2, h3, h4, h5⟩ | ⟨h0, h1, h2, h3, h4, h5, q, a, cA, len, f, h6, h7, h8⟩
  · exact Or.inl ⟨h0, Nat.lt_of_lt_of_le h3 hN, Or.inl ⟨h2, Nat.lt_of_lt_of_le h1 hN, b, L, xs, h4, by rw [hn _ h1, hn _ h3]; exact h5⟩⟩
  · exact Or.inl ⟨h0, Nat.lt_of_lt_of_le h3 hN, Or.inr ⟨h2, by rw [hn _ h3]; exact h4⟩⟩
  · exact Or.inr (Or.inl ⟨h0, h1, q, a, o, v, h2, h3, h4, h5.up hn hN⟩)
  · refine Or.inr (Or.inr ⟨h0, h1, h2, h3, Nat.lt_of_lt_of_le h4 hN, fun j hj => Nat.lt_of_lt_of_le (h5 j hj) hN, q, a, cA, len, f, h6, h7, ?_⟩)
    rw [hn _ h4, List.map_congr_left (fun j hj => by rw [hn _ (h5 j hj)])]
    exact h8
theorem ck_mo.mv1 {SG : List Nat} {Wr : List (Nat × Nat)} {ws ws' : va_W} {sh sh' : List Nat} {n : ck_N} {N : Nat} {x : ck_M} (hx : ck_ex Wr ws sh ws' sh') (hw : (x.1, x.2.1) ∉ Wr)
    (h : 20 ≤ x.2.2.1 ∧ x.1 ≠ 0 ∧ x.1 ∈ SG ∧ x.2.1 = 0 ∧ x.2.2.2.1 < N ∧ (∀ j ∈ x.2.2.2.2, j < N) ∧ ∃ (q a : Nat) (cA : ClassId) (len : Nat) (f : Nat → Int32), sh[q]? = some x.1 ∧ ws[q]? = some (a, .inl (cA, len, .inl f)) ∧ ck_nt x.2.2.1 f (n x.2.2.2.1).1 (x.2.2.2.2.map (fun j => (n j).1))) :
    20 ≤ x.2.2.1 ∧ x.1 ≠ 0 ∧ x.1 ∈ SG ∧ x.2.1 = 0 ∧ x.2.2.2.1 < N ∧ (∀ j ∈ x.2.2.2.2, j < N) ∧ ∃ (q a : Nat) (cA : ClassId) (len : Nat) (f : Nat → Int32), sh'[q]? = some x.1 ∧ ws'[q]? = some (a, .inl (cA, len, .inl f)) ∧ ck_nt x.2.2.1 f (n x.2.2.2.1).1 (x.2.2.2.2.map (fun j => (n j).1)) := by
  obtain ⟨h0, h1, h2, h3, h4, h5, q, a, cA, len, f, h6, h7, h8⟩ := h
  obtain ⟨e', x1, x2⟩ := hx.2 q a _ x.1 h7 h6
  refine ⟨h0, h1, h2, h3, h4, h5, q, a, cA, len, f, hx.1 _ _ h6, ?_, h8⟩
  cases e' with
  | inr _ => exact x2.elim
  | inl y =>
    rw [h3] at hw
    rw [x2 hw] at x1
    exact x1
theorem ck_ro.up {R : List ck_R} {n n' : ck_N} {N N' : Nat} (hn : ∀ k, k < N → n' k = n k) (hN : N ≤ N') (h : ck_ro R n N) : ck_ro R n' N' := by
  intro r hr
  obtain ⟨h1, h2, h3⟩ := h r hr
  exact ⟨Nat.lt_of_lt_of_le h1 hN, Nat.lt_of_lt_of_le h2 hN, by rw [hn _ h1, hn _ h2]; exact h3⟩
theorem ck_lo.up {ws : va_W} {sh : List Nat} {sc : ck_sc} {n n' : ck_N} {N N' nL : Nat} {loc : List (Nat × ck_V)} {ls : Array Slot} (hn : ∀ k, k < N → n' k = n k) (hN : N ≤ N') (h : ck_lo ws sh sc n N nL loc ls) : ck_lo ws sh sc n' N' nL loc ls := by
  obtain ⟨lv, h1, h2⟩ := h
  exact ⟨lv, h1, h2.imp fun a b hab => ⟨hab.1, hab.2.up hn hN⟩⟩
theorem ck_lo.mv {Wr : List (Nat × Nat)} {ws ws' : va_W} {sh sh' : List Nat} (hx : ck_ex Wr ws sh ws' sh') {sc : ck_sc} {n : ck_N} {N nL : Nat} {loc : List (Nat × ck_V)} {ls : Array Slot} (h : ck_lo ws sh sc n N nL loc ls) : ck_lo ws' sh' sc n N nL loc ls := by
  obtain ⟨lv, h1, h2⟩ := h
  exact ⟨lv, h1, h2.imp fun a b hab => ⟨hab.1, hab.2.mv hx⟩⟩
theorem ck_eo.add {E : ck_E} {n : ck_N} {x : Int × Value} {iv : Int × Int} (h : ck_eo E n) (hx : iv.1 ≤ iv.2 → iv.1 ≤ x.1 ∧ x.1 ≤ iv.2) : ck_eo (E ++ [iv]) (ck_nx n E.length x) := by
  intro k y hy hle
  rcases Nat.lt_trichotomy k E.length with hk | hk | hk
  · rw [List.getElem?_append_left hk] at hy
    rw [ck_nx_lt k hk]
    exact h k y hy hle
  · subst hk
    rw [List.getElem?_append_right (Nat.le_refl _), Nat.sub_self, List.getElem?_cons_zero, Option.some.injEq] at hy
    subst hy
    rw [ck_nx_eq]
    exact hx hle
  · rw [List.getElem?_append_right (Nat.le_of_lt hk)] at hy
    have : ([iv] : List (Int × Int))[k - E.length]? = none := by
      rw [List.getElem?_eq_none]
      simp
      omega
    rw [this] at hy
    cases hy
theorem ck_so.ss {nL : Nat} {SG : List Nat} {S : ck_S} {n : ck_N} {ws : va_W} {sh : List Nat} {sc : ck_sc} {ls : Array Slot} {vs vs' : List Value} {st : List ck_V} (h : ck_so nL SG S n ws sh sc ls vs) (hs : ck_two (ck_vo ws sh sc n S.2.2.2.1.length) st vs') : ck_so nL SG (ck_ss S st) n ws sh sc ls vs' :=
  ⟨h.1, h.2.1, hs, h.2.2.2⟩
theorem ck_so.new {nL : Nat} {SG : List Nat} {S : ck_S} {n : ck_N} {ws : va_W} {sh : List Nat} {sc : ck_sc} {ls : Array Slot} {vs vs' : List Value} {st : List ck_V} (h : ck_so nL SG S n ws sh sc ls vs) (hs : ck_two (ck_vo ws sh sc n S.2.2.2.1.length) st vs')
    {tag : Nat} {ts : List Nat} {iv : Int × Int} {rs : List ck_R} {x : Int × Value} {v : Value} (hv : ck_vo ws sh sc (ck_nx n S.2.2.2.1.length x) (S.2.2.2.1.length + 1) (tag, S.2.2.2.1.length, ts) v)
    (hx : iv.1 ≤ iv.2 → iv.1 ≤ x.1 ∧ x.1 ≤ iv.2) (hr : ck_ro rs (ck_nx n S.2.2.2.1.length x) (S.2.2.2.1.length + 1)) : ck_so nL SG (ck_new S st tag ts iv rs) (ck_nx n S.2.2.2.1.length x) ws sh sc ls (v :: vs') := by
  obtain ⟨⟨h0, h00⟩, h1, h2, h3, h4, h5⟩ := h
  have hl : (S.2.2.2.1 ++ [iv]).length = S.2.2.2.1.length + 1 := by simp
  refine ⟨⟨?_, ?_⟩, ?_, ⟨?_, ?_⟩, ?_, ?_, ?_⟩
  · show 0 < (S.2.2.2.1 ++ [iv]).length
    omega
  · rw [ck_nx_lt 0 h0]; exact h00
  · show ck_lo ws sh sc _ (S.2.2.2.1 ++ [iv]).length nL S.1 ls
    rw [hl]
    exact h1.up ck_nx_lt (Nat.le_succ _)
  · show ck_vo ws sh sc _ (S.2.2.2.1 ++ [iv]).length _ v
    rw [hl]
    exact hv
  · show ck_two (ck_vo ws sh sc _ (S.2.2.2.1 ++ [iv]).length) st vs'
    rw [hl]
    exact hs.imp fun a b hab => hab.up ck_nx_lt (Nat.le_succ _)
  · show ck_mo SG ws sh sc _ (S.2.2.2.1 ++ [iv]).length S.2.2.1
    rw [hl]
    exact h3.up ck_nx_lt (Nat.le_succ _)
  · exact h4.add hx
  · show ck_ro (rs ++ S.2.2.2.2.1) _ (S.2.2.2.1 ++ [iv]).length
    rw [hl]
    intro r hq
    rcases List.mem_append.mp hq with q | q
    · exact hr r q
    · exact h5.up ck_nx_lt (Nat.le_succ _) r q
/-- learning -/
theorem ck_wle_ok {nL : Nat} {SG : List Nat} {S : ck_S} {n : ck_N} {ws : va_W} {sh : List Nat} {sc : ck_sc} {ls : Array Slot} {vs : List Value} (h : ck_so nL SG S n ws sh sc ls vs) {a b : Nat} {c : Int} {k : ck_S → Bool} (hk : ck_wle a b c S k = true) (hab : (n a).1 ≤ (n b).1 + c) :
    ∃ S' : ck_S, k S' = true ∧ ck_so nL SG S' n ws sh sc ls vs ∧ S'.1 = S.1 ∧ S'.2.1 = S.2.1 ∧ S'.2.2.1 = S.2.2.1 ∧ S'.2.2.2.1.length = S.2.2.2.1.length ∧ S'.2.2.2.2.2 = S.2.2.2.2.2 := by
  obtain ⟨h0, h1, h2, h3, h4, h5⟩ := h
  unfold ck_wle at hk
  split at hk
  · rename_i x y hx hy
    split at hk
    · rename_i hxy
      obtain ⟨q1, q2, q3, q4⟩ := ck_le_ok h4 h5 hab
      dsimp only at hk
      rw [q3 x hx hxy.1, q4 y hy hxy.2, Bool.false_or, Bool.false_or] at hk
      have hl := ck_le_len a b c S.2.2.2.1 S.2.2.2.2.1
      refine ⟨_, hk, ⟨?_, ?_, ?_, ?_, q1, ?_⟩, rfl, rfl, rfl, hl, rfl⟩
      · dsimp only; rw [hl]; exact h0
      · dsimp only; rw [hl]; exact h1
      · dsimp only; rw [hl]; exact h2
      · dsimp only; rw [hl]; exact h3
      · dsimp only; rw [hl]; exact q2
    · cases hk
  · cases hk
/-- S' is S with more known of the numbers -/
def ck_kn (S S' : ck_S) : Prop := S'.1 = S.1 ∧ S'.2.1 = S.2.1 ∧ S'.2.2.1 = S.2.2.1 ∧ S'.2.2.2.1.length = S.2.2.2.1.length ∧ S'.2.2.2.2.2 = S.2.2.2.2.2
theorem ck_kn.tr {S S1 S2 : ck_S} (h : ck_kn S S1) (h2 : ck_kn S1 S2) : ck_kn S S2 := ⟨h2.1.trans h.1, h2.2.1.trans h.2.1, h2.2.2.1.trans h.2.2.1, h2.2.2.2.1.trans h.2.2.2.1, h2.2.2.2.2.trans h.2.2.2.2⟩
theorem ck_weq_ok {nL : Nat} {SG : List Nat} {S : ck_S} {n : ck_N} {ws : va_W} {sh : List Nat} {sc : ck_sc} {ls : Array Slot} {vs : List Value} (h : ck_so nL SG S n ws sh sc ls vs) {a b : Nat} {k : ck_S → Bool} (hk : ck_weq a b S k = true) (hab : (n a).1 = (n b).1) :
    ∃ S' : ck_S, k S' = true ∧ ck_so nL SG S' n ws sh sc ls vs ∧ ck_kn S S' := by
  obtain ⟨S1, k1, o1, e1⟩ := ck_wle_ok h hk (by omega)
  obtain ⟨S2, k2, o2, e2⟩ := ck_wle_ok o1 k1 (by omega)
  exact ⟨S2, k2, o2, ck_kn.tr e1 e2⟩
theorem ck_wne_ok {nL : Nat} {SG : List Nat} {S : ck_S} {n : ck_N} {ws : va_W} {sh : List Nat} {sc : ck_sc} {ls : Array Slot} {vs : List Value} (h : ck_so nL SG S n ws sh sc ls vs) {F a b : Nat} {k : ck_S → Bool} (hk : ck_wne F a b S k = true) (hab : ¬ (n a).1 = (n b).1) :
    ∃ S' : ck_S, k S' = true ∧ ck_so nL SG S' n ws sh sc ls vs ∧ ck_kn S S' := by
  unfold ck_wne at hk
  split at hk
  · rename_i he
    have := ck_ent_ok h.2.2.2.2.1 h.2.2.2.2.2 F a b 0 he
    rw [Bool.or_eq_true] at hk
    rcases hk with hk | hk
    · have h2 := ck_ent_ok h.2.2.2.2.1 h.2.2.2.2.2 F b a 0 hk
      exact absurd (Int.le_antisymm (by omega) (by omega)) hab
    · exact ck_wle_ok h hk (by omega)
  · split at hk
    · rename_i he
      have := ck_ent_ok h.2.2.2.2.1 h.2.2.2.2.2 F b a 0 he
      exact ck_wle_ok h hk (by omega)
    · exact ⟨S, hk, h, rfl, rfl, rfl, rfl, rfl⟩
def ck_cm (cd : ClassFile.Cond) (x y : Int) : Prop := match cd with
  | .eq => x = y
  | .ne => ¬ x = y
  | .lt => x < y
  | .ge => y ≤ x
  | .gt => y < x
  | .le => x ≤ y
theorem ck_wc_ok {nL : Nat} {SG : List Nat} {S : ck_S} {n : ck_N} {ws : va_W} {sh : List Nat} {sc : ck_sc} {ls : Array Slot} {vs : List Value} (h : ck_so nL SG S n ws sh sc ls vs) {F a b : Nat} {cd : ClassFile.Cond} {kt kf : ck_S → Bool} (hk : ck_wc F cd a b S kt kf = true) :
    (ck_cm cd (n a).1 (n b).1 → ∃ S' : ck_S, kt S' = true ∧ ck_so nL SG S' n ws sh sc ls vs ∧ ck_kn S S') ∧ (¬ ck_cm cd (n a).1 (n b).1 → ∃ S' : ck_S, kf S' = true ∧ ck_so nL SG S' n ws sh sc ls vs ∧ ck_kn S S') := by
  unfold ck_wc at hk
  cases cd <;> (rw [Bool.and_eq_true] at hk; obtain ⟨k1, k2⟩ := hk; refine ⟨fun q => ?_, fun q => ?_⟩ <;> simp only [ck_cm] at q)
  · exact ck_weq_ok h k1 q
  · exact ck_wne_ok h k2 q
  · exact ck_wne_ok h k1 q
  · exact ck_weq_ok h k2 (by omega)
  · exact ck_wle_ok h k1 (by omega)
  · exact ck_wle_ok h k2 (by omega)
  · exact ck_wle_ok h k1 (by omega)
  · exact ck_wle_ok h k2 (by omega)
  · exact ck_wle_ok h k1 (by omega)
  · exact ck_wle_ok h k2 (by omega)
  · exact ck_wle_ok h k1 (by omega)
  · exact ck_wle_ok h k2 (by omega)
/-- looking up, storing -/
theorem ck_look_ok {ws : va_W} {sh : List Nat} {sc : ck_sc} {n : ck_N} {N nL : Nat} {loc : List (Nat × ck_V)} {ls : Array Slot} (h : ck_lo ws sh sc n N nL loc ls) {i : Nat} {v : ck_V} (hv : ck_look loc i = some v) : ∃ x, ls[i]? = some (.val x) ∧ ck_vo ws sh sc n N v x := by
  obtain ⟨lv, h1, h2⟩ := h
  unfold ck_look at hv
  cases hf : loc.find? (fun q => q.1 == i) with
  | none => rw [hf] at hv; cases hv
  | some q =>
    rw [hf] at hv
    have e : q.2 = v := Option.some.inj hv
    subst e
    have hm := List.mem_of_find?_eq_some hf
    have hp := List.find?_some hf
    have hi : q.1 = i := eq_of_beq hp
    obtain ⟨y, hy, e1, e2⟩ := ck_two.mem h2 hm
    exact ⟨y.2, by rw [← hi, e1]; exact h1.2.2 y hy, e2⟩
theorem ck_cat_ok {ws : va_W} {sh : List Nat} {sc : ck_sc} {n : ck_N} {N : Nat} {av : ck_V} {v : Value} (h : ck_vo ws sh sc n N av v) : v.category = ck_cat av := h.cat
theorem ck_flt1 {ws : va_W} {sh : List Nat} {sc : ck_sc} {n : ck_N} {N : Nat} {i : Nat} (x : Nat × ck_V) (y : Nat × Value) (h : x.1 = y.1 ∧ ck_vo ws sh sc n N x.2 y.2) : (!(x.1 == i) && !(x.1 + 1 == i && ck_cat x.2 == 2)) = (!(y.1 == i) && !(y.1 + 1 == i && y.2.category == 2)) := by
  rw [h.1, ck_cat_ok h.2]
theorem ck_flt2 {ws : va_W} {sh : List Nat} {sc : ck_sc} {n : ck_N} {N : Nat} {i : Nat} (x : Nat × ck_V) (y : Nat × Value) (h : x.1 = y.1 ∧ ck_vo ws sh sc n N x.2 y.2) : (!(x.1 == i) && (!(x.1 == i + 1) && !(x.1 + 1 == i && ck_cat x.2 == 2))) = (!(y.1 == i) && (!(y.1 == i + 1) && !(y.1 + 1 == i && y.2.category == 2))) := by
  rw [h.1, ck_cat_ok h.2]
end
noncomputable section
/-! patterns are met -/
def ck_pl (g : List Nat) (n : ck_N) : ck_N := fun k => n (g.getD k 0)
theorem ck_pl_pre {g t : List Nat} {n : ck_N} : ∀ k, k < g.length → ck_pl (g ++ t) n k = ck_pl g n k := by
  intro k hk
  simp only [ck_pl, List.getD_eq_getElem?_getD]
  rw [List.getElem?_append_left hk]
theorem ck_tg_ok {ws : va_W} {sh : List Nat} {sc : ck_sc} {n n' : ck_N} {N N' : Nat} {p v : ck_V} {x : Value} (h : ck_tg p v = true) (hv : ck_vo ws sh sc n N v x) (he : n' p.2.1 = n v.2.1) (hl : p.2.1 < N') : ck_vo ws sh sc n' N' p x := by
  unfold ck_tg at h
  unfold ck_vo at hv ⊢
  refine ⟨hl, ?_⟩
  have hv := hv.2
  rw [he]
  split at h
  · rename_i hp
    rw [eq_of_beq h] at hv
    rw [hp]
    exact hv
  · rename_i hp
    rw [eq_of_beq h] at hv
    rw [hp]
    exact hv
  · rename_i hp
    rw [Bool.and_eq_true] at h
    rw [eq_of_beq h.1] at hv
    rw [hp]
    exact ⟨hv.1, hv.2.sub fun t ht => by have := List.all_eq_true.mp h.2 t ht; exact List.contains_iff_mem.mp this⟩
  · rename_i hp
    rw [hp]
    rw [Bool.or_eq_true, Bool.and_eq_true, Bool.or_eq_true] at h
    rcases h with h | ⟨h | h, h2⟩
    · rw [eq_of_beq h] at hv
      exact ⟨hv.1, Or.inl hv.2⟩
    · rw [eq_of_beq h] at hv
      exact ⟨hv.1, Or.inr (hv.2.sub fun t ht => by have := List.all_eq_true.mp h2 t ht; exact List.contains_iff_mem.mp this)⟩
    · rw [eq_of_beq h] at hv
      exact ⟨hv.1, hv.2.imp id (·.sub fun t ht => by have := List.all_eq_true.mp h2 t ht; exact List.contains_iff_mem.mp this)⟩
  · rename_i hp
    rw [eq_of_beq h] at hv
    rw [hp]
    exact hv
  · rename_i hp
    rw [eq_of_beq h] at hv
    rw [hp]
    exact hv
  · cases h
theorem ck_mv_ok {ws : va_W} {sh : List Nat} {sc : ck_sc} {n : ck_N} {N : Nat} {g g1 : List Nat} {p v : ck_V} {x : Value} (h : ck_mv g p v = some g1) (hv : ck_vo ws sh sc n N v x) (hg : ∀ s ∈ g, s < N) :
    (∃ t, g1 = g ++ t) ∧ (∀ s ∈ g1, s < N) ∧ ck_vo ws sh sc (ck_pl g1 n) g1.length p x := by
  unfold ck_mv at h
  split at h
  · rename_i ht
    split at h
    · rename_i hp
      have e := Option.some.inj h
      subst e
      refine ⟨⟨_, rfl⟩, fun s hs => ?_, ck_tg_ok ht hv ?_ ?_⟩
      · rcases List.mem_append.mp hs with q | q
        · exact hg s q
        · rw [List.mem_singleton.mp q]; exact hv.1
      · simp [ck_pl, hp]
      · simp [hp]
    · split at h
      · rename_i hp
        have e := Option.some.inj h
        subst e
        refine ⟨⟨[], by simp⟩, hg, ck_tg_ok ht hv ?_ (List.getElem?_eq_some_iff.mp hp).1⟩
        simp [ck_pl, List.getD_eq_getElem?_getD, hp]
      · cases h
  · cases h
theorem ck_mvs_ok {ws : va_W} {sh : List Nat} {sc : ck_sc} {n : ck_N} {N : Nat} : ∀ {ps vs : List ck_V} {xs : List Value} {g g1 : List Nat}, ck_mvs g ps vs = some g1 → ck_two (ck_vo ws sh sc n N) vs xs → (∀ s ∈ g, s < N) →
    (∃ t, g1 = g ++ t) ∧ (∀ s ∈ g1, s < N) ∧ ck_two (ck_vo ws sh sc (ck_pl g1 n) g1.length) ps xs
  | [], [], [], g, g1, h, _, hg => by
    have e := Option.some.inj h
    subst e
    exact ⟨⟨[], by simp⟩, hg, trivial⟩
  | p :: ps, v :: vs, x :: xs, g, g1, h, hv, hg => by
    rw [ck_mvs] at h
    split at h
    · rename_i g2 h2
      obtain ⟨⟨t, rfl⟩, a2, a3⟩ := ck_mv_ok h2 hv.1 hg
      obtain ⟨⟨u, rfl⟩, b2, b3⟩ := ck_mvs_ok h hv.2 a2
      exact ⟨⟨t ++ u, by rw [List.append_assoc]⟩, b2, a3.up ck_pl_pre (by simp), b3⟩
    · cases h
  | [], [], _ :: _, _, _, _, hv, _ => hv.elim
  | [], _ :: _, _, _, _, h, _, _ => by cases h
  | _ :: _, [], _, _, _, h, _, _ => by cases h
  | _ :: _, _ :: _, [], _, _, _, hv, _ => hv.elim
theorem ck_eq2_ok {F : Nat} {E : ck_E} {R : List ck_R} {n : ck_N} {N : Nat} (hE : ck_eo E n) (hR : ck_ro R n N) {a b : Nat} (h : ck_eq2 F E R a b = true) : (n a).1 = (n b).1 := by
  unfold ck_eq2 at h
  rw [Bool.or_eq_true, Bool.and_eq_true] at h
  rcases h with h | ⟨h1, h2⟩
  · rw [eq_of_beq h]
  · have p1 := ck_ent_ok hE hR F a b _ h1
    have p2 := ck_ent_ok hE hR F b a _ h2
    omega
theorem ck_nl_ok {F : Nat} {E : ck_E} {R : List ck_R} {n : ck_N} {N : Nat} (hE : ck_eo E n) (hR : ck_ro R n N) : ∀ {l l' g g1 : List Nat}, ck_nl F E R g l l' = some g1 → (∀ s ∈ g, s < N) → (∀ s ∈ l', s < N) →
    (∃ t, g1 = g ++ t) ∧ (∀ s ∈ g1, s < N) ∧ (∀ s ∈ l, s < g1.length) ∧ l.map (fun j => (ck_pl g1 n j).1) = l'.map (fun j => (n j).1)
  | [], [], g, g1, h, hg, _ => by
    have e := Option.some.inj h
    subst e
    exact ⟨⟨[], by simp⟩, hg, fun s hs => (by cases hs), rfl⟩
  | x :: xs, y :: ys, g, g1, h, hg, hl => by
    rw [ck_nl] at h
    have hl' : ∀ s ∈ ys, s < N := fun s hs => hl s (List.mem_cons_of_mem _ hs)
    split at h
    · rename_i hx
      obtain ⟨⟨t, rfl⟩, b2, b3, b4⟩ := ck_nl_ok hE hR h (fun s hs => by
        rcases List.mem_append.mp hs with q | q
        · exact hg s q
        · rw [List.mem_singleton.mp q]; exact hl y List.mem_cons_self) hl'
      refine ⟨⟨y :: t, by simp⟩, b2, fun s hs => ?_, ?_⟩
      · rcases List.mem_cons.mp hs with rfl | hs
        · simp [hx]
        · exact b3 s hs
      · rw [List.map_cons, List.map_cons, b4]
        congr 2
        show n _ = n _
        congr 1
        rw [hx, List.getD_eq_getElem?_getD, List.append_assoc, List.getElem?_append_right (Nat.le_refl _)]
        simp
    · split at h
      · rename_i a ha
        split at h
        · rename_i he
          obtain ⟨⟨t, rfl⟩, b2, b3, b4⟩ := ck_nl_ok hE hR h hg hl'
          have hlt := (List.getElem?_eq_some_iff.mp ha).1
          refine ⟨⟨t, rfl⟩, b2, fun s hs => ?_, ?_⟩
          · rcases List.mem_cons.mp hs with rfl | hs
            · rw [List.length_append]; omega
            · exact b3 s hs
          · rw [List.map_cons, List.map_cons, b4]
            congr 1
            rw [← ck_eq2_ok hE hR he]
            show (n _).1 = _
            congr 2
            rw [List.getD_eq_getElem?_getD, List.getElem?_append_left hlt, ha]
            rfl
        · cases h
      · cases h
  | [], _ :: _, _, _, h, _, _ => by cases h
  | _ :: _, [], _, _, h, _, _ => by cases h
theorem ck_ntg_ok {F : Nat} {E : ck_E} {R : List ck_R} {n : ck_N} {N : Nat} (hE : ck_eo E n) (hR : ck_ro R n N) (h0 : (n 0).1 = 0) {tag : Nat} {v : ck_V} {f : Nat → Int32} (h : ck_ntg F E R tag v = true) (hn : ck_nt v.1 f (n v.2.1).1 (v.2.2.map (fun j => (n j).1))) : ck_nt tag f (n v.2.1).1 (v.2.2.map (fun j => (n j).1)) := by
  unfold ck_ntg at h
  rw [Bool.or_eq_true, Bool.and_eq_true, decide_eq_true_eq] at h
  rcases h with h | ⟨⟨hq1, hq2⟩, h⟩
  · rw [eq_of_beq h]
    exact hn
  unfold ck_nt at hn ⊢
  rw [if_pos hq2] at hn
  rw [if_pos hq1]
  rw [Bool.or_eq_true, decide_eq_true_eq, Bool.or_eq_true, Bool.and_eq_true] at h
  revert hn
  generalize hl : v.2.2.map (fun j => (n j).1) = l
  intro hn
  unfold ck_ng at hn ⊢
  split at hn
  · rename_i c o
    obtain ⟨n1, n2, n3, n4, n5, n6, n7⟩ := hn
    refine ⟨n1, n2, n3, n4, n5, fun ht hm => ?_, fun ht => ?_⟩
    · rcases h with h | ⟨h1, h2⟩ | h
      · exact n6 (Nat.le_trans ht h) hm
      · have p := ck_ent_ok hE hR F _ _ _ h2
        rw [h0] at p
        omega
      · simp only [Bool.and_eq_true, beq_iff_eq] at h
        exact n6 (by rw [h.2.1]; decide) hm
    · rcases h with h | ⟨h1, h2⟩ | h
      · exact n7 (Nat.le_trans ht h)
      · rw [eq_of_beq h1] at ht
        exact absurd ht (by decide)
      · simp only [Bool.and_eq_true, beq_iff_eq] at h
        obtain ⟨-, h1, h2, h3⟩ := h
        have p := ck_ent_ok hE hR F _ _ _ h2
        rw [h0] at p
        have hm : 0 < (n v.2.1).1.toNat := by omega
        refine ⟨hm, ?_⟩
        split at h3
        · rename_i a b hab
          rw [hab] at hl
          have p2 := ck_ent_ok hE hR F _ _ _ h3
          rw [h0] at p2
          have eo : (n b).1 = o := by
            have := congrArg (fun z : List Int => z[1]?) hl
            simpa using this
          have nz : ck_cn (fun x => x == 40) f (n v.2.1).1.toNat = 0 := by omega
          obtain ⟨k, hk⟩ : ∃ k, (n v.2.1).1.toNat = k + 1 := ⟨(n v.2.1).1.toNat - 1, by omega⟩
          rw [hk] at nz n4 n6 ⊢
          have n6 := n6 (by rw [h1]; decide) (Nat.succ_pos _)
          rw [Nat.add_sub_cancel] at n6 ⊢
          rcases n4 k (Nat.lt_succ_self _) with z | z | z
          · exact z
          · unfold ck_cn at nz
            rw [z] at nz
            simp at nz
          · exact absurd z n6
        · cases h3
  · exact hn.elim
theorem ck_mms_ok {SG : List Nat} {ws : va_W} {sh : List Nat} {sc : ck_sc} {n : ck_N} {N : Nat} {mem : List ck_M} {F : Nat} {E : ck_E} {R : List ck_R} (hE : ck_eo E n) (hR : ck_ro R n N) (h0 : (n 0).1 = 0) (hm : ck_mo SG ws sh sc n N mem) : ∀ {ps : List ck_M} {g g1 : List Nat}, ck_mms F E R mem g ps = some g1 → (∀ s ∈ g, s < N) →
    (∃ t, g1 = g ++ t) ∧ (∀ s ∈ g1, s < N) ∧ ck_mo SG ws sh sc (ck_pl g1 n) g1.length ps
  | [], g, g1, h, hg => by
    have e := Option.some.inj h
    subst e
    exact ⟨⟨[], by simp⟩, hg, fun x hx => by cases hx⟩
  | p :: ps, g, g1, h, hg => by
    rw [ck_mms] at h
    split at h
    · rename_i h20
      split at h
      · rename_i g2 hf
        obtain ⟨m, hmem, h2⟩ := List.exists_of_findSome?_eq_some hf
        unfold ck_nm at h2
        split at h2
        · rename_i hc
          simp only [Bool.and_eq_true, beq_iff_eq, decide_eq_true_eq] at hc
          obtain ⟨e1, e2, e3, e4, e5⟩ := hc
          rcases hm m hmem with ⟨-, -, ⟨z, -⟩ | ⟨z, -⟩⟩ | ⟨-, -, q, a', o, v, -, -, -, c4⟩ | ⟨c0, c1, c2, c3, c4, c5, q, a', cA, len, f, c6, c7, c8⟩
          · omega
          · omega
          · exfalso
            unfold ck_vo at c4
            have c4 := c4.2
            split at c4 <;> omega
          · obtain ⟨⟨t, rfl⟩, a2, a3, a4⟩ := ck_nl_ok hE hR h2 hg (fun s hs => by
              rcases List.mem_cons.mp hs with rfl | hs
              · exact c4
              · exact c5 s hs)
            obtain ⟨⟨u, rfl⟩, b2, b3⟩ := ck_mms_ok hE hR h0 hm h a2
            rw [List.map_cons, List.map_cons, List.cons.injEq] at a4
            have hlt := a3 p.2.2.2.1 List.mem_cons_self
            have a3' : ∀ j ∈ p.2.2.2.2, j < (g ++ t).length := fun j hj => a3 j (List.mem_cons_of_mem _ hj)
            have hps : (ck_pl (g ++ t ++ u) n p.2.2.2.1).1 = (n m.2.2.2.1).1 := by rw [ck_pl_pre _ hlt]; exact a4.1
            refine ⟨⟨t ++ u, by rw [List.append_assoc]⟩, b2, fun x hx => ?_⟩
            rcases List.mem_cons.mp hx with rfl | hx
            · refine Or.inr (Or.inr ⟨h20, by rw [← e1]; exact c1, by rw [← e1]; exact c2, e3, Nat.lt_of_lt_of_le hlt (by simp), fun j hj => Nat.lt_of_lt_of_le (a3' j hj) (by simp), q, a', cA, len, f, by rw [← e1]; exact c6, c7, ?_⟩)
              rw [hps, List.map_congr_left (g := fun j => (ck_pl (g ++ t) n j).1) (fun j hj => by rw [ck_pl_pre j (a3' j hj)]), a4.2]
              exact ck_ntg_ok hE hR h0 e5 c8
            · exact b3 x hx
        · cases h2
      · cases h
    split at h
    · rename_i m hf
      split at h
      · rename_i g2 h2
        have hmem := List.mem_of_find?_eq_some hf
        have hp := List.find?_some hf
        simp only [Bool.and_eq_true, Bool.not_eq_true', beq_eq_false_iff_ne, ne_eq, beq_iff_eq] at hp
        obtain ⟨e1, e2, e3⟩ := hp
        rcases hm m hmem with ⟨z, -⟩ | ⟨-, hg0, q, a, o, v, c1, c2, c3, c4⟩ | ⟨c0, -⟩
        · exact absurd z e3
        rotate_left
        · exfalso
          unfold ck_mv at h2
          split at h2
          · rename_i ht
            unfold ck_tg at ht
            split at ht <;> first | (cases ht; done) | (simp only [Bool.and_eq_true, Bool.or_eq_true, beq_iff_eq] at ht; omega)
          · cases h2
        obtain ⟨⟨t, rfl⟩, a2, a3⟩ := ck_mv_ok h2 c4 hg
        obtain ⟨⟨u, rfl⟩, b2, b3⟩ := ck_mms_ok hE hR h0 hm h a2
        refine ⟨⟨t ++ u, by rw [List.append_assoc]⟩, b2, fun x hx => ?_⟩
        rcases List.mem_cons.mp hx with rfl | hx
        · exact Or.inr (Or.inl ⟨by rw [← e1]; exact e3, by rw [← e1]; exact hg0, q, a, o, v, by rw [← e1]; exact c1, c2, by rw [← e2]; exact c3, a3.up ck_pl_pre (by simp)⟩)
        · exact b3 x hx
      · cases h
    · cases h
theorem ck_ce_ok {F : Nat} {E : ck_E} {R : List ck_R} {n : ck_N} {N : Nat} (hE : ck_eo E n) (hR : ck_ro R n N) (h0 : (n 0).1 = 0) : ∀ {g : List Nat} {l : ck_E}, ck_ce F E R g l = true → ck_eo l (ck_pl g n)
  | _, [], _ => fun k x hx => by simp at hx
  | [], _ :: _, h => by cases h
  | s :: g, y :: l, h => by
    rw [ck_ce, Bool.and_eq_true, Bool.or_eq_true, Bool.and_eq_true] at h
    intro k x hx hle
    cases k with
    | zero =>
      rw [List.getElem?_cons_zero, Option.some.injEq] at hx
      subst hx
      rcases h.1 with q | ⟨q1, q2⟩
      · exact absurd hle (by have := of_decide_eq_true q; omega)
      · have p1 := ck_ent_ok hE hR F s 0 _ q1
        have p2 := ck_ent_ok hE hR F 0 s _ q2
        rw [h0] at p1 p2
        show _ ≤ (n s).1 ∧ (n s).1 ≤ _
        omega
    | succ k =>
      rw [List.getElem?_cons_succ] at hx
      exact ck_ce_ok hE hR h0 h.2 k x hx hle
theorem ck_ce_len {F : Nat} {E : ck_E} {R : List ck_R} : ∀ {g : List Nat} {l : ck_E}, ck_ce F E R g l = true → l.length ≤ g.length
  | _, [], _ => Nat.zero_le _
  | [], _ :: _, h => by cases h
  | s :: g, y :: l, h => by
    rw [ck_ce, Bool.and_eq_true] at h
    exact Nat.succ_le_succ (ck_ce_len h.2)
theorem ck_cr_ok {F : Nat} {E : ck_E} {R : List ck_R} {n : ck_N} {N : Nat} (hE : ck_eo E n) (hR : ck_ro R n N) {g : List Nat} {rs : List ck_R} (h : ck_cr F E R g rs = true) : ck_ro rs (ck_pl g n) g.length := by
  intro r hr
  have h1 := List.all_eq_true.mp h r hr
  split at h1
  · rename_i a b ha hb
    refine ⟨(List.getElem?_eq_some_iff.mp ha).1, (List.getElem?_eq_some_iff.mp hb).1, ?_⟩
    have := ck_ent_ok hE hR F a b _ h1
    simpa [ck_pl, List.getD_eq_getElem?_getD, ha, hb] using this
  · cases h1
/-- a pattern is met by a valuation, and these values -/
def ck_po (SG : List Nat) (ws : va_W) (sh : List Nat) (sc : ck_sc) (n : ck_N) (N : Nat) (P : ck_P) (xs : List Value) : Prop :=
  ck_two (ck_vo ws sh sc n N) P.1 xs ∧ ck_mo SG ws sh sc n N P.2.1 ∧ ck_eo P.2.2.1 n ∧ ck_ro P.2.2.2 n N
theorem ck_mt_ok {nL : Nat} {SG : List Nat} {S : ck_S} {n : ck_N} {ws : va_W} {sh : List Nat} {sc : ck_sc} {ls : Array Slot} {ss : List Value} (h : ck_so nL SG S n ws sh sc ls ss) {F : Nat} {g0 g : List Nat} {vs : List ck_V} {P : ck_P} {xs : List Value} (hm : ck_mt F S g0 vs P = some g)
    (hv : ck_two (ck_vo ws sh sc n S.2.2.2.1.length) vs xs) (hg : ∀ s ∈ g0, s < S.2.2.2.1.length) :
    (∃ t, g = g0 ++ t) ∧ (∀ s ∈ g, s < S.2.2.2.1.length) ∧ ck_po SG ws sh sc (ck_pl g n) g.length P xs := by
  unfold ck_mt at hm
  split at hm
  · rename_i g1 h1
    obtain ⟨⟨t, rfl⟩, a2, a3⟩ := ck_mvs_ok h1 hv hg
    split at hm
    · rename_i g2 h2
      obtain ⟨⟨u, rfl⟩, b2, b3⟩ := ck_mms_ok h.2.2.2.2.1 h.2.2.2.2.2 h.1.2 h.2.2.2.1 h2 a2
      split at hm
      · rename_i h3
        have e := Option.some.inj hm
        subst e
        rw [Bool.and_eq_true] at h3
        exact ⟨⟨t ++ u, by rw [List.append_assoc]⟩, b2, a3.imp (fun a b hab => hab.up ck_pl_pre (by simp)), b3, ck_ce_ok h.2.2.2.2.1 h.2.2.2.2.2 h.1.2 h3.1, ck_cr_ok h.2.2.2.2.1 h.2.2.2.2.2 h3.2⟩
      · cases hm
    · cases hm
  · cases hm
/-- a sum, a difference .. -/
theorem ck_same_ok {R : List ck_R} {n : ck_N} {N : Nat} (hR : ck_ro R n N) {a k : Nat} {c : Int} (h : ck_same R a c = some k) : k < N ∧ (n k).1 = (n a).1 + c := by
  unfold ck_same at h
  cases hf : R.find? (fun r => r.2.1 == a && (r.2.2 == c && R.any (fun q => q.1 == a && (q.2.1 == r.1 && q.2.2 == -c)))) with
  | none => rw [hf] at h; cases h
  | some r =>
    rw [hf] at h
    have e : r.1 = k := Option.some.inj h
    have hm := List.mem_of_find?_eq_some hf
    have hp := List.find?_some hf
    simp only [Bool.and_eq_true, beq_iff_eq, List.any_eq_true] at hp
    obtain ⟨e1, e2, q, hq, e3, e4, e5⟩ := hp
    have h1 := hR r hm
    have h2 := (hR q hq).2.2
    rw [e3, e4, e5] at h2
    have h3 := h1.2.2
    rw [e1, e2] at h3
    subst e
    exact ⟨h1.1, by omega⟩
theorem ck_binS_ok {nL : Nat} {SG : List Nat} {S S' : ck_S} {n : ck_N} {ws : va_W} {sh : List Nat} {sc : ck_sc} {ls : Array Slot} {ss vs : List Value} {st : List ck_V} (h : ck_so nL SG S n ws sh sc ls ss) (hs : ck_two (ck_vo ws sh sc n S.2.2.2.1.length) st vs)
    {w op tag a b : Nat} (hb : ck_binS w op S st tag a b = some S') (ha : a < S.2.2.2.1.length) (hbl : b < S.2.2.2.1.length) {v : Value} {Z : Int}
    (hz : ∀ x y : Int × Int, ck_in x (n a).1 → ck_in y (n b).1 → ck_in (ck_bin w op x y) Z ∧ (op = 0 → ((ck_bin w op x y).1 = x.1 + y.1 ∧ (ck_bin w op x y).2 = x.2 + y.2) → Z = (n a).1 + (n b).1) ∧ (op = 1 → ((ck_bin w op x y).1 = x.1 - y.2 ∧ (ck_bin w op x y).2 = x.2 - y.1) → Z = (n a).1 - (n b).1) ∧ (op = 6 → (1 ≤ x.1 ∧ y.1 = y.2 ∧ 1 ≤ y.1 ∧ (ck_bin w op x y).1 = x.1 * 2 ^ y.1.toNat ∧ (ck_bin w op x y).2 = x.2 * 2 ^ y.2.toNat) → (n a).1 + 1 ≤ Z))
    (h3 : op = 3 → 0 ≤ (n b).1 → Z ≤ (n b).1) (h4 : op = 4 → 0 ≤ (n a).1 → 0 ≤ (n b).1 → (n a).1 ≤ Z) (hv : ∀ (m : ck_N) (M k : Nat), k < M → (m k).1 = Z → ck_vo ws sh sc m M (tag, k, []) v) :
    ∃ n', ck_so nL SG S' n' ws sh sc ls (v :: vs) ∧ S'.2.2.2.2.2 = S.2.2.2.2.2 ∧ (∀ k, k < S.2.2.2.1.length → n' k = n k) ∧ S.2.2.2.1.length ≤ S'.2.2.2.1.length := by
  unfold ck_binS at hb
  split at hb
  · rename_i x y hx hy
    split at hb
    · rename_i hxy
      have ix := h.2.2.2.2.1 a x hx hxy.1
      have iy := h.2.2.2.2.1 b y hy hxy.2
      obtain ⟨z1, z2, z3, z6⟩ := hz x y ix iy
      dsimp only at hb
      split at hb
      · rename_i k hk
        have e := Option.some.inj hb
        subst e
        split at hk
        · rename_i hc
          obtain ⟨q1, q2⟩ := ck_same_ok h.2.2.2.2.2 hk
          have hzz := z2 hc.1 hc.2.2
          have hbv : (n b).1 = y.1 := by have := iy.1; have := iy.2; have := hc.2.1; omega
          exact ⟨n, h.ss ⟨hv n _ k q1 (by rw [q2, hzz, hbv]), hs⟩, rfl, fun _ _ => rfl, Nat.le_refl _⟩
        · cases hk
      · have e := Option.some.inj hb
        subst e
        refine ⟨ck_nx n S.2.2.2.1.length (Z, .null), h.new hs (hv _ _ _ (Nat.lt_succ_self _) (by rw [ck_nx_eq])) (fun _ => z1) ?_, rfl, ck_nx_lt, by simp [ck_new]⟩
        intro q hq
        obtain ⟨r1, r2, r3⟩ := ck_rel_ok (v := fun k => (ck_nx n S.2.2.2.1.length (Z, .null) k).1) ix iy z2 z3 h3 h4 z6 (by rw [ck_nx_lt a ha]) (by rw [ck_nx_lt b hbl]) (by rw [ck_nx_eq]) q hq
        refine ⟨?_, ?_, r3⟩
        · rcases r1 with e | e | e <;> omega
        · rcases r2 with e | e | e <;> omega
    · cases hb
  · cases hb
end
noncomputable section
/-! traces: what a method's instructions do, one behind the other, over a world -/
/-- what a call does: arguments, world, answer, world -/
abbrev fR : Type := List Value → va_W → List Nat → Option Value → va_W → List Nat → Prop
/-- a place: instruction, locals, stack, world, types -/
abbrev fS : Type := Nat × List (Nat × Value) × List Value × va_W × List Nat
/-- fields read, fields written, objects made, constants, instanceof, calls, script -/
abbrev fT : Type := List (Nat × Nat × Nat) × List (Nat × Nat × Nat × Nat) × List (Nat × Nat × Nat × Nat) × List (Nat × Nat × Int) × List (Nat × Nat × Nat) × (Nat → Nat × fR) × Option (Nat × Nat × (Nat → Int32))
def tM (M : ck_Me) (Fc : Nat → Nat × fR) (sb : Option (Nat × Nat × (Nat → Int32))) : fT := (mfl M, mpl M, mnw M, mkl M, mil M, Fc, sb)
def fw_v : Nat → Int64
  | 0 => -6148914691236517206
  | 1 => -3689348814741910324
  | 2 => -1085102592571150096
  | 3 => -71777214294589696
  | 4 => -281470681808896
  | _ => -4294967296
def f_dj (ws : va_W) : Prop := ∀ (i j : Nat) (p q : Nat × va_E), ws[i]? = some p → ws[j]? = some q → p.1 = q.1 → i = j
def f_out (ws : va_W) (a : Nat) : Prop := ∀ (q : Nat) (e : va_E), ws[q]? ≠ some (a, e)
def f_nsc (T : fT) (a : Nat) : Prop := ∀ (L : Nat) (xs : Nat → Int32), T.2.2.2.2.2.2 ≠ some (a, L, xs)
def f_st1 (lg : List (Nat × Value)) (i : Nat) (v : Value) : List (Nat × Value) := (i, v) :: lg.filter (fun q => !(q.1 == i) && !(q.1 + 1 == i && q.2.category == 2))
def f_st2 (lg : List (Nat × Value)) (i : Nat) (v : Value) : List (Nat × Value) := (i, v) :: lg.filter (fun q => !(q.1 == i) && (!(q.1 == i + 1) && !(q.1 + 1 == i && q.2.category == 2)))
/-- a push -/
def f_ps (a : fS) (len : Nat) (st : List Value) : fS := (a.1 + len, a.2.1, st, a.2.2.2)
def f_ld (i : Nat) (len : Nat) (a b : fS) : Prop := ∃ v, (∀ w, (i, w) ∈ a.2.1 → w = v) ∧ b = f_ps a len (v :: a.2.2.1)
def f_b32 (op : Int32 → Int32 → Int32) (a b : fS) : Prop := ∃ (x y : Int32) (r : List Value), a.2.2.1 = .int y :: .int x :: r ∧ b = f_ps a 1 (.int (op x y) :: r)
def f_b64 (op : Int64 → Int64 → Int64) (a b : fS) : Prop := ∃ (x y : Int64) (r : List Value), a.2.2.1 = .long y :: .long x :: r ∧ b = f_ps a 1 (.long (op x y) :: r)
def f_call (T : fT) (key : Nat) (a b : fS) : Prop := ∃ (As rest : List Value) (rv : Option Value) (ws' : va_W) (sh' : List Nat), a.2.2.1 = As.reverse ++ rest ∧ As.length = (T.2.2.2.2.2.1 key).1 ∧ (T.2.2.2.2.2.1 key).2 As a.2.2.2.1 a.2.2.2.2 rv ws' sh' ∧ b = (a.1 + 3, a.2.1, rv.toList ++ rest, ws', sh')
/-- a branch -/
def f_br (p : Prop) (off : Int) (a : fS) (r : List Value) (b : fS) : Prop := (p ∧ ∃ t : Nat, (a.1 : Int) + off = (t : Int) ∧ b = (t, a.2.1, r, a.2.2.2)) ∨ (¬ p ∧ b = f_ps a 3 r)
def fxi (T : fT) (ins : Instr) (len : Nat) (a b : fS) : Prop := match ins with
  | .iconst v => b = f_ps a len (.int (Int32.ofInt v) :: a.2.2.1)
  | .bipush v => b = f_ps a len (.int (Int8.ofInt v).toInt32 :: a.2.2.1)
  | .sipush v => b = f_ps a len (.int (Int16.ofInt v).toInt32 :: a.2.2.1)
  | .lconst v => b = f_ps a len (.long (Int64.ofNat (v : Nat)) :: a.2.2.1)
  | .ldc i => ∃ (v : Int32), (i, 0, v.toInt) ∈ T.2.2.2.1 ∧ b = f_ps a len (.int v :: a.2.2.1)
  | .ldc_w i => ∃ (v : Int32), (i, 0, v.toInt) ∈ T.2.2.2.1 ∧ b = f_ps a len (.int v :: a.2.2.1)
  | .ldc2_w i => ∃ (v : Int64), (i, 1, v.toInt) ∈ T.2.2.2.1 ∧ b = f_ps a len (.long v :: a.2.2.1)
  | .iload_n k => f_ld k len a b
  | .iload i => f_ld i len a b
  | .lload_n k => f_ld k len a b
  | .lload i => f_ld i len a b
  | .aload_n k => f_ld k len a b
  | .aload i => f_ld i len a b
  | .istore_n k => ∃ (v : Value) (r : List Value), a.2.2.1 = v :: r ∧ v.category = 1 ∧ b = (a.1 + len, f_st1 a.2.1 k v, r, a.2.2.2)
  | .istore i => ∃ (v : Value) (r : List Value), a.2.2.1 = v :: r ∧ v.category = 1 ∧ b = (a.1 + len, f_st1 a.2.1 i v, r, a.2.2.2)
  | .astore_n k => ∃ (v : Value) (r : List Value), a.2.2.1 = v :: r ∧ v.category = 1 ∧ b = (a.1 + len, f_st1 a.2.1 k v, r, a.2.2.2)
  | .astore i => ∃ (v : Value) (r : List Value), a.2.2.1 = v :: r ∧ v.category = 1 ∧ b = (a.1 + len, f_st1 a.2.1 i v, r, a.2.2.2)
  | .lstore_n k => ∃ (v : Value) (r : List Value), a.2.2.1 = v :: r ∧ v.category = 2 ∧ b = (a.1 + len, f_st2 a.2.1 k v, r, a.2.2.2)
  | .lstore i => ∃ (v : Value) (r : List Value), a.2.2.1 = v :: r ∧ v.category = 2 ∧ b = (a.1 + len, f_st2 a.2.1 i v, r, a.2.2.2)
  | .iinc i c => ∃ x : Int32, (∀ w, (i, w) ∈ a.2.1 → w = .int x) ∧ b = (a.1 + len, f_st1 a.2.1 i (.int (x + Int32.ofInt c)), a.2.2)
  | .iadd => f_b32 (· + ·) a b
  | .isub => f_b32 (· - ·) a b
  | .imul => f_b32 (· * ·) a b
  | .iand => f_b32 (· &&& ·) a b
  | .ior => f_b32 (· ||| ·) a b
  | .ixor => f_b32 (· ^^^ ·) a b
  | .ishl => f_b32 (fun x y => x <<< (y &&& 31)) a b
  | .ishr => f_b32 (fun x y => x >>> (y &&& 31)) a b
  | .iushr => f_b32 (fun x y => (x.toUInt32 >>> (y.toUInt32 &&& Int32.toUInt32 31)).toInt32) a b
  | .idiv => f_b32 (· / ·) a b
  | .irem => f_b32 (· % ·) a b
  | .ladd => f_b64 (· + ·) a b
  | .lsub => f_b64 (· - ·) a b
  | .lmul => f_b64 (· * ·) a b
  | .land => f_b64 (· &&& ·) a b
  | .lor => f_b64 (· ||| ·) a b
  | .lxor => f_b64 (· ^^^ ·) a b
  | .lushr => ∃ (x : Int64) (y : Int32) (r : List Value), a.2.2.1 = .int y :: .long x :: r ∧ b = f_ps a 1 (.long (x.toUInt64 >>> (y.toInt64.toUInt64 &&& Int64.toUInt64 63)).toInt64 :: r)
  | .lshr => ∃ (x : Int64) (y : Int32) (r : List Value), a.2.2.1 = .int y :: .long x :: r ∧ b = f_ps a 1 (.long (x >>> (y.toInt64 &&& 63)) :: r)
  | .lshl => ∃ (x : Int64) (y : Int32) (r : List Value), a.2.2.1 = .int y :: .long x :: r ∧ b = f_ps a 1 (.long (x <<< (y.toInt64 &&& 63)) :: r)
  | .ineg => ∃ (x : Int32) (r : List Value), a.2.2.1 = .int x :: r ∧ b = f_ps a 1 (.int (-x) :: r)
  | .i2l => ∃ (x : Int32) (r : List Value), a.2.2.1 = .int x :: r ∧ b = f_ps a 1 (.long x.toInt64 :: r)
  | .l2i => ∃ (x : Int64) (r : List Value), a.2.2.1 = .long x :: r ∧ b = f_ps a 1 (.int x.toInt32 :: r)
  | .i2b => ∃ (x : Int32) (r : List Value), a.2.2.1 = .int x :: r ∧ b = f_ps a 1 (.int x.toInt8.toInt32 :: r)
  | .i2s => ∃ (x : Int32) (r : List Value), a.2.2.1 = .int x :: r ∧ b = f_ps a 1 (.int x.toInt16.toInt32 :: r)
  | .lcmp => ∃ (x y : Int64) (r : List Value), a.2.2.1 = .long y :: .long x :: r ∧ b = f_ps a 1 (.int (lg_cmp x y) :: r)
  | .aconst_null => b = f_ps a 1 (.null :: a.2.2.1)
  | .dup => ∃ (v : Value) (r : List Value), a.2.2.1 = v :: r ∧ b = f_ps a 1 (v :: v :: r)
  | .pop => ∃ (v : Value) (r : List Value), a.2.2.1 = v :: r ∧ b = f_ps a 1 r
  | .pop2 => ∃ (x : Int64) (r : List Value), a.2.2.1 = .long x :: r ∧ b = f_ps a 1 r
  | .dup2 => ∃ (v w : Value) (r : List Value), a.2.2.1 = v :: w :: r ∧ b = f_ps a 1 (v :: w :: v :: w :: r)
  | .goto off => ∃ t : Nat, (a.1 : Int) + off = (t : Int) ∧ b = (t, a.2)
  | .ifCond cd off => ∃ (x : Int32) (r : List Value), a.2.2.1 = .int x :: r ∧ f_br (ck_cm cd x.toInt 0) off a r b
  | .if_icmp cd off => ∃ (x y : Int32) (r : List Value), a.2.2.1 = .int y :: .int x :: r ∧ f_br (ck_cm cd x.toInt y.toInt) off a r b
  | .ifnull off => ∃ (v : Value) (r : List Value), a.2.2.1 = v :: r ∧ f_br (v = .null) off a r b
  | .ifnonnull off => ∃ (v : Value) (r : List Value), a.2.2.1 = v :: r ∧ f_br (¬ v = .null) off a r b
  | .tableswitch d lo hi os => ∃ (x : Int32) (r : List Value), a.2.2.1 = .int x :: r ∧ ∃ (off : Int) (t : Nat), ((x.toInt < lo ∨ hi < x.toInt) ∧ off = d ∨ (¬ x.toInt < lo ∧ ¬ hi < x.toInt ∧ os[(x.toInt - lo).toNat]? = some off)) ∧ (a.1 : Int) + off = (t : Int) ∧ b = (t, a.2.1, r, a.2.2.2)
  | .getfield i => ∃ (p : Nat) (r : List Value) (q ci k : Nat) (fs : List Value) (v : Value), a.2.2.1 = .ref p :: r ∧ a.2.2.2.1[q]? = some (p, .inr (ci, fs)) ∧ (i, ci, k) ∈ T.1 ∧ fs[k]? = some v ∧ b = f_ps a 3 (v :: r)
  | .putfield i => ∃ (u : Value) (p : Nat) (r : List Value) (q ci k d : Nat) (fs : List Value), a.2.2.1 = u :: .ref p :: r ∧ a.2.2.2.1[q]? = some (p, .inr (ci, fs)) ∧ (i, ci, k, d) ∈ T.2.1 ∧ k < fs.length ∧ b = (a.1 + 3, a.2.1, r, a.2.2.2.1.set q (p, .inr (ci, fs.set k u)), a.2.2.2.2)
  | .getstatic _ => ∃ w, f_out a.2.2.2.1 w ∧ f_nsc T w ∧ b = f_ps a 3 (.ref w :: a.2.2.1)
  | .iaload => ∃ (x : Int32) (p : Nat) (r : List Value), a.2.2.1 = .int x :: .ref p :: r ∧ ((f_nsc T p ∧ ∃ (q len : Nat) (cA : ClassId) (f : Nat → Int32), a.2.2.2.1[q]? = some (p, .inl (cA, len, .inl f)) ∧ x.toNatClampNeg < len ∧ b = f_ps a 1 (.int (f x.toNatClampNeg) :: r)) ∨ ∃ (L : Nat) (xs : Nat → Int32), T.2.2.2.2.2.2 = some (p, L, xs) ∧ b = f_ps a 1 (.int (xs x.toNatClampNeg) :: r))
  | .laload => ∃ (x : Int32) (p : Nat) (r : List Value), a.2.2.1 = .int x :: .ref p :: r ∧ ((∃ (q len : Nat) (cA : ClassId) (f : Nat → Int64), a.2.2.2.1[q]? = some (p, .inl (cA, len, .inr (.inl f))) ∧ x.toNatClampNeg < len ∧ b = f_ps a 1 (.long (f x.toNatClampNeg) :: r)) ∨ (f_out a.2.2.2.1 p ∧ b = f_ps a 1 (.long (fw_v x.toNatClampNeg) :: r)))
  | .baload => ∃ (x : Int32) (p : Nat) (r : List Value), a.2.2.1 = .int x :: .ref p :: r ∧ ∃ (q len : Nat) (cA : ClassId) (f : Nat → Int32), a.2.2.2.1[q]? = some (p, .inl (cA, len, .inl f)) ∧ x.toNatClampNeg < len ∧ b = f_ps a 1 (.int (f x.toNatClampNeg) :: r)
  | .aaload => ∃ (x : Int32) (p : Nat) (r : List Value), a.2.2.1 = .int x :: .ref p :: r ∧ ∃ (q len : Nat) (cA : ClassId) (f : Nat → Option Nat), a.2.2.2.1[q]? = some (p, .inl (cA, len, .inr (.inr (.inr (.inr f))))) ∧ x.toNatClampNeg < len ∧ b = f_ps a 1 (va_rf (f x.toNatClampNeg) :: r)
  | .iastore => ∃ (v x : Int32) (p : Nat) (r : List Value), a.2.2.1 = .int v :: .int x :: .ref p :: r ∧ ∃ (q len : Nat) (cA : ClassId) (f : Nat → Int32), a.2.2.2.1[q]? = some (p, .inl (cA, len, .inl f)) ∧ x.toNatClampNeg < len ∧ b = (a.1 + 1, a.2.1, r, a.2.2.2.1.set q (p, .inl (cA, len, .inl (upd f x.toNatClampNeg v))), a.2.2.2.2)
  | .lastore => ∃ (v : Int64) (x : Int32) (p : Nat) (r : List Value), a.2.2.1 = .long v :: .int x :: .ref p :: r ∧ ∃ (q len : Nat) (cA : ClassId) (f : Nat → Int64), a.2.2.2.1[q]? = some (p, .inl (cA, len, .inr (.inl f))) ∧ x.toNatClampNeg < len ∧ b = (a.1 + 1, a.2.1, r, a.2.2.2.1.set q (p, .inl (cA, len, .inr (.inl (vp_updL f x.toNatClampNeg v)))), a.2.2.2.2)
  | .bastore => ∃ (v x : Int32) (p : Nat) (r : List Value), a.2.2.1 = .int v :: .int x :: .ref p :: r ∧ ∃ (q len : Nat) (cA : ClassId) (f : Nat → Int32), a.2.2.2.1[q]? = some (p, .inl (cA, len, .inl f)) ∧ x.toNatClampNeg < len ∧ b = (a.1 + 1, a.2.1, r, a.2.2.2.1.set q (p, .inl (cA, len, .inl (upd f x.toNatClampNeg (vp_nar .boolean v)))), a.2.2.2.2)
  | .aastore => ∃ (w : Option Nat) (x : Int32) (p : Nat) (r : List Value), a.2.2.1 = va_rf w :: .int x :: .ref p :: r ∧ ∃ (q len : Nat) (cA : ClassId) (f : Nat → Option Nat), a.2.2.2.1[q]? = some (p, .inl (cA, len, .inr (.inr (.inr (.inr f))))) ∧ x.toNatClampNeg < len ∧ b = (a.1 + 1, a.2.1, r, a.2.2.2.1.set q (p, .inl (cA, len, .inr (.inr (.inr (.inr (va_up f x.toNatClampNeg w)))))), a.2.2.2.2)
  | .arraylength => ∃ (p : Nat) (r : List Value), a.2.2.1 = .ref p :: r ∧ ((f_nsc T p ∧ ∃ (q : Nat) (cA : ClassId) (y : vp_A), a.2.2.2.1[q]? = some (p, .inl (cA, y)) ∧ b = f_ps a 1 (.int (Int32.ofNat y.1) :: r)) ∨ (∃ (L : Nat) (xs : Nat → Int32), T.2.2.2.2.2.2 = some (p, L, xs) ∧ b = f_ps a 1 (.int (Int32.ofNat L) :: r)) ∨ (f_nsc T p ∧ f_out a.2.2.2.1 p ∧ b = f_ps a 1 (.int 6 :: r)))
  | .new i => ∃ (q ci t n : Nat) (ty : Nat → FieldType), (i, ci, t, n) ∈ T.2.2.1 ∧ f_dj (a.2.2.2.1 ++ [(q, .inr (ci, (List.range n).map fun j => defaultValue (ty j)))]) ∧ b = (a.1 + 3, a.2.1, .ref q :: a.2.2.1, a.2.2.2.1 ++ [(q, .inr (ci, (List.range n).map fun j => defaultValue (ty j)))], a.2.2.2.2 ++ [t])
  | .instanceof i => ∃ (p : Nat) (r : List Value) (q ci d : Nat) (fs : List Value), a.2.2.1 = .ref p :: r ∧ a.2.2.2.1[q]? = some (p, .inr (ci, fs)) ∧ (i, ci, d) ∈ T.2.2.2.2.1 ∧ b = f_ps a 3 (.int (Int32.ofNat d) :: r)
  | .checkcast _ => ∃ (v : Value) (r : List Value), a.2.2.1 = v :: r ∧ b = f_ps a 3 (v :: r)
  | .invokevirtual i => f_call T (3 * i) a b
  | .invokestatic i => f_call T (3 * i + 1) a b
  | .invokespecial i => f_call T (3 * i + 2) a b
  | _ => False
def fx (T : fT) (cc : ByteArray) (a b : fS) : Prop := ∃ (ins : Instr) (len : Nat), decode cc a.1 = .ok (ins, len) ∧ fxi T ins len a b
def gr (T : fT) (cc : ByteArray) (s0 a : fS) : Prop := ∀ P : fS → Prop, P s0 → (∀ a b, P a → fx T cc a b → P b) → P a
theorem gr.rf {T : fT} {cc : ByteArray} {s0 : fS} : gr T cc s0 s0 := fun _ h _ => h
theorem gr.nx {T : fT} {cc cd : ByteArray} {s0 a b : fS} (h : gr T cd s0 a) (hb : cd = cc) {ins : Instr} {len : Nat} (hdg : decode cc a.1 = .ok (ins, len)) (hx : fxi T ins len a b) : gr T cd s0 b :=
  fun P h0 hs => hs a b (h P h0 hs) ⟨ins, len, by rw [hb]; exact hdg, hx⟩
/-- the goal at a place, with the trace that came to it -/
def WG (T : fT) (s0 : fS) (p : Program) (l : Launch) (e : Env) (R : Room) (s : State) (m : MethodId) (args : Array Value) (below : List Frame) (meth : Method) (c : Code) (ws : va_W) (sh : List Nat) (H : Heap) (locs : List Loc) (cells slots : Nat) (Q : State → Prop) (g : Nat × Array Slot × List Value) : Prop :=
  ∀ lg : List (Nat × Value), lv_has g.2.1 c.maxLocals lg → gr T c.code s0 (g.1, lg, g.2.2, ws, sh) → W p l e R s m args below meth c H locs cells slots Q (F0 m g.1 g.2.1 g.2.2)
section
variable {T : fT} {s0 : fS} {p : Program} {l : Launch} {e : Env} {R : Room} {s : State} {m : MethodId} {args : Array Value} {below : List Frame} {meth : Method} {c : Code} {ws ws' : va_W} {sh sh' : List Nat} {H H' : Heap} {locs locs' : List Loc} {cells slots cells' slots' : Nat} {Q : State → Prop} {pc pc' : Nat} {ls : Array Slot} {vs vs' : List Value} {cc : ByteArray}
/-- a row that leaves the locals alone -/
theorem WG.up {ins : Instr} {len : Nat} (row : W p l e R s m args below meth c H' locs' cells' slots' Q (F0 m pc' ls vs') → W p l e R s m args below meth c H locs cells slots Q (F0 m pc ls vs)) (hb : c.code = cc) (hdg : decode cc pc = .ok (ins, len))
    (hx : ∀ lg, fxi T ins len (pc, lg, vs, ws, sh) (pc', lg, vs', ws', sh')) (k : WG T s0 p l e R s m args below meth c ws' sh' H' locs' cells' slots' Q (pc', ls, vs')) : WG T s0 p l e R s m args below meth c ws sh H locs cells slots Q (pc, ls, vs) :=
  fun lg hl hg => row (k lg hl (hg.nx hb hdg (hx lg)))
theorem WG.widen {k n : Nat} {g : Nat × Array Slot × List Value} (h1 : cells ≤ k) (h2 : slots ≤ n) (kk : WG T s0 p l e R s m args below meth c ws sh H locs k n Q g) : WG T s0 p l e R s m args below meth c ws sh H locs cells slots Q g :=
  fun lg hl hg => W.widen h1 h2 (kk lg hl hg)
/-- a load -/
theorem f_ldx {lg : List (Nat × Value)} {nL i len : Nat} {v : Value} (hl : lv_has ls nL lg) (hv : ls[i]? = some (.val v)) : f_ld i len (pc, lg, vs, ws, sh) (pc + len, lg, v :: vs, ws, sh) :=
  ⟨v, fun w hw => by
    have h1 := hl.2.2 (i, w) hw
    rw [hv] at h1
    cases h1
    rfl, rfl⟩
theorem WG.ld {ins : Instr} {i len : Nat} {v : Value} (row : W p l e R s m args below meth c H locs cells slots Q (F0 m (pc + len) ls (v :: vs)) → W p l e R s m args below meth c H locs cells slots Q (F0 m pc ls vs)) (hv : ls[i]? = some (.val v)) (hb : c.code = cc) (hdg : decode cc pc = .ok (ins, len)) (hT : ∀ a b, f_ld i len a b → fxi T ins len a b)
    (k : WG T s0 p l e R s m args below meth c ws sh H locs cells slots Q (pc + len, ls, v :: vs)) : WG T s0 p l e R s m args below meth c ws sh H locs cells slots Q (pc, ls, vs) :=
  fun lg hl hg => row (k lg hl (hg.nx hb hdg (hT _ _ (f_ldx hl hv))))
/-- stores: of the locals that are listed here, and of those that the trace lists -/
theorem lv_both {nL nL' : Nat} {lv lg : List (Nat × Value)} (h : lv_has ls nL lv) (h2 : lv_has ls nL' lg) : lv_has ls nL (lv ++ lg) :=
  ⟨h.1, h.2.1, fun q hq => by
    rcases List.mem_append.mp hq with hq | hq
    · exact h.2.2 q hq
    · exact h2.2.2 q hq⟩
theorem lv_mem {nL nL' : Nat} {lv lg : List (Nat × Value)} (h : lv_has ls nL lv) (hn : nL = nL') (hs : ∀ q ∈ lg, q ∈ lv) : lv_has ls nL' lg := ⟨h.1.trans hn, h.2.1, fun q hq => h.2.2 q (hs q hq)⟩
theorem WG.st {ins : Instr} {i len nL : Nat} {w : Value} {lv : List (Nat × Value)} {f : Nat × Value → Bool} {vs0 : List Value} (h : lv_has ls nL lv)
    (row : ∀ lv0, lv_has ls nL lv0 → (∀ q ∈ lv, q ∈ lv0) → (∀ ls' : Array Slot, lv_has ls' nL ((i, w) :: lv0.filter f) → W p l e R s m args below meth c H locs cells slots Q (F0 m (pc + len) ls' vs)) → W p l e R s m args below meth c H locs cells slots Q (F0 m pc ls vs0)) (hb : c.code = cc) (hdg : decode cc pc = .ok (ins, len))
    (hT : ∀ lg, lv_has ls c.maxLocals lg → fxi T ins len (pc, lg, vs0, ws, sh) (pc + len, (i, w) :: lg.filter f, vs, ws, sh))
    (k : ∀ ls' : Array Slot, lv_has ls' nL ((i, w) :: lv.filter f) → WG T s0 p l e R s m args below meth c ws sh H locs cells slots Q (pc + len, ls', vs)) : WG T s0 p l e R s m args below meth c ws sh H locs cells slots Q (pc, ls, vs0) := by
  intro lg hl hg
  have hn : nL = c.maxLocals := h.1.symm.trans hl.1
  refine row (lv ++ lg) (lv_both h hl) (fun q hq => List.mem_append_left _ hq) (fun ls' hls' => ?_)
  refine k ls' (lv_mem hls' rfl fun q hq => ?_) ((i, w) :: lg.filter f) (lv_mem hls' hn fun q hq => ?_) (hg.nx hb hdg (hT lg hl))
  · rcases List.mem_cons.mp hq with rfl | hq
    · exact List.mem_cons_self
    · obtain ⟨h1, h2⟩ := List.mem_filter.mp hq
      exact List.mem_cons_of_mem _ (List.mem_filter.mpr ⟨List.mem_append_left _ h1, h2⟩)
  · rcases List.mem_cons.mp hq with rfl | hq
    · exact List.mem_cons_self
    · obtain ⟨h1, h2⟩ := List.mem_filter.mp hq
      exact List.mem_cons_of_mem _ (List.mem_filter.mpr ⟨List.mem_append_right _ h1, h2⟩)
end
end
noncomputable section
/-! the step is sound: the goal at a place, and what holds all along a method -/
/-- the room that was used before: what a method's own count doesn't hold -/
def ck_oc (R : Room) (M : ck_Me) : Nat := R.cells - (mRm M).1
def ck_os (R : Room) (M : ck_Me) : Nat := R.slots - (mRm M).2
theorem ck_ocl {R : Room} {M : ck_Me} {k n : Nat} (h : (mRm M).1 ≤ R.cells) (h2 : k + n ≤ (mRm M).1) : ck_oc R M + k + n ≤ R.cells := by
  unfold ck_oc
  omega
theorem ck_osl {R : Room} {M : ck_Me} {k n : Nat} (h : (mRm M).2 ≤ R.slots) (h2 : k + n ≤ (mRm M).2) : ck_os R M + k + n ≤ R.slots := by
  unfold ck_os
  omega
def ck_g (Fc : Nat → Nat × fR) (s0 : fS) (p : Program) (l : Launch) (e : Env) (R : Room) (s : State) (m : MethodId) (args : Array Value) (below : List Frame) (meth : Method) (c : Code) (Q : State → Prop) (D : va_G) (cl : List vw_C) (tys : List (ClassId × FieldType)) (M : ck_Me) (sc : ck_sc) (A : Nat → Prop) (ws0 : va_W) (sh0 : List Nat) (S : ck_S) (pc : Nat) : Prop :=
  ∀ (n : ck_N) (ws : va_W) (sh : List Nat) (H : Heap) (locs : List Loc) (ls : Array Slot) (vs : List Value), ck_so (mnL M) (mSG M) S n ws sh sc ls vs → ck_wo tys (mTT M) (mSG M) ws sh → ck_ex (mWr M) ws0 sh0 ws sh → va_P D cl ws H → va_D A ws → va_S A s.heap H locs →
    WG (tM M Fc sc.1) s0 p l e R s m args below meth c ws sh H locs (ck_oc R M + S.2.2.2.2.2.1) (ck_os R M + S.2.2.2.2.2.2) Q (pc, ls, vs)
def ck_cx (p : Program) (l : Launch) (e : Env) (R : Room) (s : State) (m : MethodId) (args : Array Value) (below : List Frame) (meth : Method) (c : Code) (cc : ByteArray) (own : String) (D : va_G) (cl : List vw_C) (tys : List (ClassId × FieldType)) (M : ck_Me) (sc : ck_sc) (A : Nat → Prop) : Prop :=
  p.tables.exec = Jvm.exec ∧ c.code = cc ∧ s.vm.findClass own = some m.cls ∧ va_K D cl tys s ∧ (∀ q, s.heap.size ≤ q → A q) ∧ c.maxLocals = mnL M ∧ ((mRm M).1 ≤ R.cells ∧ (mRm M).2 ≤ R.slots) ∧ meth.locks = false ∧
  (∀ (b L : Nat) (xs : Nat → Int32), sc.1 = some (b, L, xs) → va_X b L xs s s.heap ∧ b < s.heap.size ∧ ¬ A b ∧ L < 2147483648) ∧
  ∀ w : Nat, sc.2.1 = some w → va_Z "ReasonDesk$Bits" "WITH" "[J" (.ref w) A s s.heap ∧ va_T .long w 6 (fun j => .long (fw_v j)) A s s.heap
section
variable {p : Program} {l : Launch} {e : Env} {R : Room} {s : State} {m : MethodId} {args : Array Value} {below : List Frame} {meth : Method} {c : Code} {Q : State → Prop} {cc : ByteArray} {own : String} {D : va_G} {cl : List vw_C} {tys : List (ClassId × FieldType)} {M : ck_Me} {sc : ck_sc} {A : Nat → Prop} {ws0 : va_W} {sh0 : List Nat} {Fc : Nat → Nat × fR} {s0 : fS} {kr : Nat → ck_S → Bool} {k : ck_S → Bool} {S : ck_S} {pc pc' : Nat}
theorem ck_lt0 {b a : ck_V} {st : List ck_V} {ws : va_W} {sh : List Nat} {n : ck_N} {N : Nat} {vs : List Value} (h : ck_two (ck_vo ws sh sc n N) (b :: st) vs) : ∃ v vs', vs = v :: vs' ∧ ck_vo ws sh sc n N b v ∧ ck_two (ck_vo ws sh sc n N) st vs' := by
  cases vs with
  | nil => exact h.elim
  | cons v vs' => exact ⟨v, vs', rfl, h.1, h.2⟩
theorem ck_hd {b : ck_V} {st : List ck_V} {ws : va_W} {sh : List Nat} {n : ck_N} {N : Nat} {vs : List Value} (h : ck_two (ck_vo ws sh sc n N) (b :: st) vs) : ∃ v vs', vs = v :: vs' ∧ ck_vo ws sh sc n N b v ∧ ck_two (ck_vo ws sh sc n N) st vs' := by
  cases vs with
  | nil => exact h.elim
  | cons v vs' => exact ⟨v, vs', rfl, h.1, h.2⟩
theorem ck_vo.i {ws : va_W} {sh : List Nat} {n : ck_N} {N : Nat} {b : ck_V} {v : Value} (h : ck_vo ws sh sc n N b v) (e : b.1 = 0) : b.2.1 < N ∧ ∃ x : Int32, v = .int x ∧ x.toInt = (n b.2.1).1 := by
  unfold ck_vo at h
  rw [e] at h
  exact h
theorem ck_vo.j {ws : va_W} {sh : List Nat} {n : ck_N} {N : Nat} {b : ck_V} {v : Value} (h : ck_vo ws sh sc n N b v) (e : b.1 = 1) : b.2.1 < N ∧ ∃ x : Int64, v = .long x ∧ x.toInt = (n b.2.1).1 := by
  unfold ck_vo at h
  rw [e] at h
  exact h
theorem ck_vo.r {ws : va_W} {sh : List Nat} {n : ck_N} {N : Nat} {b : ck_V} {v : Value} (h : ck_vo ws sh sc n N b v) (e : b.1 = 2) : b.2.1 < N ∧ v = (n b.2.1).2 ∧ ck_rf ws sh b.2.2 v := by
  unfold ck_vo at h
  rw [e] at h
  exact h
theorem ck_vo.mi {ws : va_W} {sh : List Nat} {n : ck_N} {N k : Nat} {ts : List Nat} {x : Int32} (hk : k < N) (h : x.toInt = (n k).1) : ck_vo ws sh sc n N (0, k, ts) (.int x) := ⟨hk, x, rfl, h⟩
theorem ck_vo.ml {ws : va_W} {sh : List Nat} {n : ck_N} {N k : Nat} {ts : List Nat} {x : Int64} (hk : k < N) (h : x.toInt = (n k).1) : ck_vo ws sh sc n N (1, k, ts) (.long x) := ⟨hk, x, rfl, h⟩
/-- a row that puts a number on the stack -/
theorem ck_push {st : List ck_V} {tag : Nat} {iv : Int × Int} {vs0 : List Value} {n : ck_N} {ws : va_W} {sh : List Nat} {H : Heap} {locs : List Loc} {ls : Array Slot} {vs : List Value} {v : Value} {z : Int} (hk : ck_g Fc s0 p l e R s m args below meth c Q D cl tys M sc A ws0 sh0 (ck_new S st tag [] iv []) pc)
    (o : ck_so (mnL M) (mSG M) S n ws sh sc ls vs) (hw : ck_wo tys (mTT M) (mSG M) ws sh) (hx : ck_ex (mWr M) ws0 sh0 ws sh) (hP : va_P D cl ws H) (hD : va_D A ws) (hS : va_S A s.heap H locs) (hst : ck_two (ck_vo ws sh sc n S.2.2.2.1.length) st vs0)
    (hiv : ck_in iv z) (hv : ∀ (m : ck_N) (N k : Nat), k < N → (m k).1 = z → ck_vo ws sh sc m N (tag, k, []) v) : WG (tM M Fc sc.1) s0 p l e R s m args below meth c ws sh H locs (ck_oc R M + S.2.2.2.2.2.1) (ck_os R M + S.2.2.2.2.2.2) Q (pc, ls, (v :: vs0)) :=
  hk _ ws sh H locs ls _ (o.new hst (x := (z, .null)) (hv _ _ _ (Nat.lt_succ_self _) (by rw [ck_nx_eq])) (fun _ => hiv) (fun r hr => by cases hr)) hw hx hP hD hS
theorem ck_cstI {v : Int} {x : Int32} (hx : x.toInt = v) (hk : ck_g Fc s0 p l e R s m args below meth c Q D cl tys M sc A ws0 sh0 (ck_cst S 0 v) pc') (row : ∀ (ws : va_W) (sh : List Nat) (H : Heap) (locs : List Loc) (ls : Array Slot) (vs : List Value), WG (tM M Fc sc.1) s0 p l e R s m args below meth c ws sh H locs (ck_oc R M + S.2.2.2.2.2.1) (ck_os R M + S.2.2.2.2.2.2) Q (pc', ls, (.int x :: vs)) → WG (tM M Fc sc.1) s0 p l e R s m args below meth c ws sh H locs (ck_oc R M + S.2.2.2.2.2.1) (ck_os R M + S.2.2.2.2.2.2) Q (pc, ls, vs)) : ck_g Fc s0 p l e R s m args below meth c Q D cl tys M sc A ws0 sh0 S pc :=
  fun n ws sh H locs ls vs o hw hx1 hP hD hS => row ws sh H locs ls vs (ck_push hk o hw hx1 hP hD hS o.2.2.1 ⟨Int.le_refl _, Int.le_refl _⟩ (fun _ _ _ h1 h2 => .mi h1 (by rw [h2]; exact hx)))
theorem ck_cstL {v : Int} {x : Int64} (hx : x.toInt = v) (hk : ck_g Fc s0 p l e R s m args below meth c Q D cl tys M sc A ws0 sh0 (ck_cst S 1 v) pc') (row : ∀ (ws : va_W) (sh : List Nat) (H : Heap) (locs : List Loc) (ls : Array Slot) (vs : List Value), WG (tM M Fc sc.1) s0 p l e R s m args below meth c ws sh H locs (ck_oc R M + S.2.2.2.2.2.1) (ck_os R M + S.2.2.2.2.2.2) Q (pc', ls, (.long x :: vs)) → WG (tM M Fc sc.1) s0 p l e R s m args below meth c ws sh H locs (ck_oc R M + S.2.2.2.2.2.1) (ck_os R M + S.2.2.2.2.2.2) Q (pc, ls, vs)) : ck_g Fc s0 p l e R s m args below meth c Q D cl tys M sc A ws0 sh0 S pc :=
  fun n ws sh H locs ls vs o hw hx1 hP hD hS => row ws sh H locs ls vs (ck_push hk o hw hx1 hP hD hS o.2.2.1 ⟨Int.le_refl _, Int.le_refl _⟩ (fun _ _ _ h1 h2 => .ml h1 (by rw [h2]; exact hx)))
/-- loads -/
theorem ck_ld_ok {i : Nat} {ok : ck_V → Bool} {k : ck_S → Bool} (h : ck_ld S i ok k = true) (hk : ∀ S, k S = true → ck_g Fc s0 p l e R s m args below meth c Q D cl tys M sc A ws0 sh0 S pc') (row : ∀ (H : Heap) (locs : List Loc) (ls : Array Slot) (vs : List Value) (av : ck_V) (ws : va_W) (sh : List Nat) (n : ck_N) (N : Nat) (v : Value), ok av = true → ck_vo ws sh sc n N av v → ls[i]? = some (.val v) → WG (tM M Fc sc.1) s0 p l e R s m args below meth c ws sh H locs (ck_oc R M + S.2.2.2.2.2.1) (ck_os R M + S.2.2.2.2.2.2) Q (pc', ls, (v :: vs)) → WG (tM M Fc sc.1) s0 p l e R s m args below meth c ws sh H locs (ck_oc R M + S.2.2.2.2.2.1) (ck_os R M + S.2.2.2.2.2.2) Q (pc, ls, vs)) : ck_g Fc s0 p l e R s m args below meth c Q D cl tys M sc A ws0 sh0 S pc := by
  intro n ws sh H locs ls vs o hw hx hP hD hS
  unfold ck_ld at h
  split at h
  · rename_i av hav
    rw [Bool.and_eq_true] at h
    obtain ⟨v, h1, h2⟩ := ck_look_ok o.2.1 hav
    exact row H locs ls vs av ws sh n _ v h.1 h2 h1 (hk _ h.2 n ws sh H locs ls _ (o.ss ⟨h2, o.2.2.1⟩) hw hx hP hD hS)
  · cases h
/-- stores -/
theorem ck_sto_ok {i : Nat} {ok : ck_V → Bool} {k : ck_S → Bool} (h : ck_sto (mnL M) S i ok k = true) (hok : ∀ v, ok v = true → v.1 ≠ 1) (hk : ∀ S, k S = true → ck_g Fc s0 p l e R s m args below meth c Q D cl tys M sc A ws0 sh0 S pc')
    (row : ∀ (H : Heap) (locs : List Loc) (ls : Array Slot) (vs : List Value) (av : ck_V) (ws : va_W) (sh : List Nat) (n : ck_N) (N : Nat) (v : Value) (lv : List (Nat × Value)), ok av = true → ck_vo ws sh sc n N av v → lv_has ls (mnL M) lv → i < mnL M → (∀ ls' : Array Slot, lv_has ls' (mnL M) ((i, v) :: lv.filter (fun q => !(q.1 == i) && !(q.1 + 1 == i && q.2.category == 2))) → WG (tM M Fc sc.1) s0 p l e R s m args below meth c ws sh H locs (ck_oc R M + S.2.2.2.2.2.1) (ck_os R M + S.2.2.2.2.2.2) Q (pc', ls', vs)) → WG (tM M Fc sc.1) s0 p l e R s m args below meth c ws sh H locs (ck_oc R M + S.2.2.2.2.2.1) (ck_os R M + S.2.2.2.2.2.2) Q (pc, ls, (v :: vs))) : ck_g Fc s0 p l e R s m args below meth c Q D cl tys M sc A ws0 sh0 S pc := by
  intro n ws sh H locs ls vs o hw hx hP hD hS
  unfold ck_sto at h
  split at h
  · rename_i av st hst
    rw [Bool.and_eq_true, Bool.and_eq_true] at h
    have o3 := o.2.2.1
    rw [hst] at o3
    obtain ⟨v, vs', rfl, h2, h3⟩ := ck_hd o3
    obtain ⟨lv, l1, l2⟩ := o.2.1
    refine row H locs ls vs' av ws sh n _ v lv h.1 h2 l1 (of_decide_eq_true h.2.1) (fun ls' hls' => ?_)
    exact hk _ h.2.2 n ws sh H locs ls' _ ⟨o.1, ⟨_, hls', ⟨⟨rfl, h2⟩, l2.flt ck_flt1⟩⟩, h3, o.2.2.2⟩ hw hx hP hD hS
  · cases h
theorem ck_sto2_ok {i : Nat} {k : ck_S → Bool} (h : ck_sto2 (mnL M) S i k = true) (hk : ∀ S, k S = true → ck_g Fc s0 p l e R s m args below meth c Q D cl tys M sc A ws0 sh0 S pc')
    (row : ∀ (ws : va_W) (sh : List Nat) (H : Heap) (locs : List Loc) (ls : Array Slot) (vs : List Value) (v : Int64) (lv : List (Nat × Value)), lv_has ls (mnL M) lv → i + 1 < mnL M → (∀ ls' : Array Slot, lv_has ls' (mnL M) ((i, .long v) :: lv.filter (fun q => !(q.1 == i) && (!(q.1 == i + 1) && !(q.1 + 1 == i && q.2.category == 2)))) → WG (tM M Fc sc.1) s0 p l e R s m args below meth c ws sh H locs (ck_oc R M + S.2.2.2.2.2.1) (ck_os R M + S.2.2.2.2.2.2) Q (pc', ls', vs)) → WG (tM M Fc sc.1) s0 p l e R s m args below meth c ws sh H locs (ck_oc R M + S.2.2.2.2.2.1) (ck_os R M + S.2.2.2.2.2.2) Q (pc, ls, (.long v :: vs))) : ck_g Fc s0 p l e R s m args below meth c Q D cl tys M sc A ws0 sh0 S pc := by
  intro n ws sh H locs ls vs o hw hx hP hD hS
  unfold ck_sto2 at h
  split at h
  · rename_i av st hst
    rw [Bool.and_eq_true, Bool.and_eq_true] at h
    have o3 := o.2.2.1
    rw [hst] at o3
    obtain ⟨v, vs', rfl, h2, h3⟩ := ck_hd o3
    obtain ⟨-, x, rfl, -⟩ := h2.j (eq_of_beq h.1)
    obtain ⟨lv, l1, l2⟩ := o.2.1
    refine row ws sh H locs ls vs' x lv l1 (of_decide_eq_true h.2.1) (fun ls' hls' => ?_)
    exact hk _ h.2.2 n ws sh H locs ls' _ ⟨o.1, ⟨_, hls', ⟨⟨rfl, h2⟩, l2.flt ck_flt2⟩⟩, h3, o.2.2.2⟩ hw hx hP hD hS
  · cases h
/-- two numbers make one -/
theorem ck_b2i {op : Nat} {k : ck_S → Bool} (h : ck_b2 32 op 0 S k = true) (hk : ∀ S, k S = true → ck_g Fc s0 p l e R s m args below meth c Q D cl tys M sc A ws0 sh0 S pc')
    (row : ∀ (ws : va_W) (sh : List Nat) (H : Heap) (locs : List Loc) (ls : Array Slot) (vs : List Value) (x y : Int32), (∀ b st, S.2.1 = b :: st → ∀ iv, S.2.2.2.1[b.2.1]? = some iv → iv.1 ≤ iv.2 → ck_in iv y.toInt) → WG (tM M Fc sc.1) s0 p l e R s m args below meth c ws sh H locs (ck_oc R M + S.2.2.2.2.2.1) (ck_os R M + S.2.2.2.2.2.2) Q (pc', ls, (.int (ck_f32 op x y) :: vs)) → WG (tM M Fc sc.1) s0 p l e R s m args below meth c ws sh H locs (ck_oc R M + S.2.2.2.2.2.1) (ck_os R M + S.2.2.2.2.2.2) Q (pc, ls, (.int y :: .int x :: vs))) : ck_g Fc s0 p l e R s m args below meth c Q D cl tys M sc A ws0 sh0 S pc := by
  intro n ws sh H locs ls vs o hw hx hP hD hS
  unfold ck_b2 at h
  split at h
  · rename_i b a st hst
    rw [Bool.and_eq_true, Bool.and_eq_true] at h
    have o3 := o.2.2.1
    rw [hst] at o3
    obtain ⟨v, vs1, rfl, h2, h3⟩ := ck_hd o3
    obtain ⟨u, vs2, rfl, h4, h5⟩ := ck_hd h3
    obtain ⟨lb, y, rfl, ey⟩ := h2.i (eq_of_beq h.1)
    obtain ⟨la, x, rfl, ex⟩ := h4.i (eq_of_beq h.2.1)
    have h6 := h.2.2
    split at h6
    · rename_i S' hS'
      obtain ⟨n', o', ec, -⟩ := ck_binS_ok o h5 hS' la lb (v := .int (ck_f32 op x y)) (Z := (ck_f32 op x y).toInt) (fun ix iy h1 h2 => by
          rw [← ex] at h1
          rw [← ey] at h2
          refine ⟨ck_bin32 op h1 h2, fun e he => ?_, fun e he => ?_, fun e he => by
            subst e
            rw [← ex]
            exact ck_shl_eq h1 h2 he⟩
          · subst e
            rw [← ex, ← ey]
            exact ck_cl_eq (w := 32) (by decide) (r := (x + y).toBitVec) (z := x.toInt + y.toInt) (x := (ix.1 + iy.1, ix.2 + iy.2)) (Int32.toInt_add x y) ⟨Int.add_le_add h1.1 h2.1, Int.add_le_add h1.2 h2.2⟩ (ck_cl_in he)
          · subst e
            rw [← ex, ← ey]
            exact ck_cl_eq (w := 32) (by decide) (r := (x - y).toBitVec) (z := x.toInt - y.toInt) (x := (ix.1 - iy.2, ix.2 - iy.1)) (Int32.toInt_sub x y) ⟨Int.sub_le_sub h1.1 h2.2, Int.sub_le_sub h1.2 h2.1⟩ (ck_cl_in he))
        (fun e he => by
          subst e
          rw [← ey] at he ⊢
          exact (ck_and_r (a := x.toBitVec) (b := y.toBitVec) he).2)
        (fun e he he2 => by
          subst e
          rw [← ex] at he ⊢
          rw [← ey] at he2
          exact (ck_or_ok (a := x.toBitVec) (b := y.toBitVec) (x := (x.toInt, x.toInt)) (y := (y.toInt, y.toInt)) ⟨Int.le_refl _, Int.le_refl _⟩ ⟨Int.le_refl _, Int.le_refl _⟩ he he2).2)
        (fun m N k hk hz => .mi hk hz.symm)
      refine row ws sh H locs ls vs2 x y (fun b' st' e iv hiv hle => ?_) ?_
      · rw [hst] at e
        cases e
        have := o.2.2.2.2.1 _ iv hiv hle
        rw [← ey] at this
        exact this
      · have := hk S' h6 n' ws sh H locs ls _ o' hw hx hP hD hS
        rw [ec] at this
        exact this
    · cases h6
  · cases h
theorem ck_b2l {op : Nat} (hop : op < 6) {k : ck_S → Bool} (h : ck_b2 64 op 1 S k = true) (hk : ∀ S, k S = true → ck_g Fc s0 p l e R s m args below meth c Q D cl tys M sc A ws0 sh0 S pc')
    (row : ∀ (ws : va_W) (sh : List Nat) (H : Heap) (locs : List Loc) (ls : Array Slot) (vs : List Value) (x y : Int64), WG (tM M Fc sc.1) s0 p l e R s m args below meth c ws sh H locs (ck_oc R M + S.2.2.2.2.2.1) (ck_os R M + S.2.2.2.2.2.2) Q (pc', ls, (.long (ck_f64 op x y) :: vs)) → WG (tM M Fc sc.1) s0 p l e R s m args below meth c ws sh H locs (ck_oc R M + S.2.2.2.2.2.1) (ck_os R M + S.2.2.2.2.2.2) Q (pc, ls, (.long y :: .long x :: vs))) : ck_g Fc s0 p l e R s m args below meth c Q D cl tys M sc A ws0 sh0 S pc := by
  intro n ws sh H locs ls vs o hw hx hP hD hS
  unfold ck_b2 at h
  split at h
  · rename_i b a st hst
    rw [Bool.and_eq_true, Bool.and_eq_true] at h
    have o3 := o.2.2.1
    rw [hst] at o3
    obtain ⟨v, vs1, rfl, h2, h3⟩ := ck_hd o3
    obtain ⟨u, vs2, rfl, h4, h5⟩ := ck_hd h3
    obtain ⟨lb, y, rfl, ey⟩ := h2.j (eq_of_beq h.1)
    obtain ⟨la, x, rfl, ex⟩ := h4.j (eq_of_beq h.2.1)
    have h6 := h.2.2
    split at h6
    · rename_i S' hS'
      obtain ⟨n', o', ec, -⟩ := ck_binS_ok o h5 hS' la lb (v := .long (ck_f64 op x y)) (Z := (ck_f64 op x y).toInt) (fun ix iy h1 h2 => by
          rw [← ex] at h1
          rw [← ey] at h2
          refine ⟨ck_bin64 op hop h1 h2, fun e he => ?_, fun e he => ?_, fun e he => by omega⟩
          · subst e
            rw [← ex, ← ey]
            exact ck_cl_eq (w := 64) (by decide) (r := (x + y).toBitVec) (z := x.toInt + y.toInt) (x := (ix.1 + iy.1, ix.2 + iy.2)) (Int64.toInt_add x y) ⟨Int.add_le_add h1.1 h2.1, Int.add_le_add h1.2 h2.2⟩ (ck_cl_in he)
          · subst e
            rw [← ex, ← ey]
            exact ck_cl_eq (w := 64) (by decide) (r := (x - y).toBitVec) (z := x.toInt - y.toInt) (x := (ix.1 - iy.2, ix.2 - iy.1)) (Int64.toInt_sub x y) ⟨Int.sub_le_sub h1.1 h2.2, Int.sub_le_sub h1.2 h2.1⟩ (ck_cl_in he))
        (fun e he => by
          subst e
          rw [← ey] at he ⊢
          exact (ck_and_r (a := x.toBitVec) (b := y.toBitVec) he).2)
        (fun e he he2 => by
          subst e
          rw [← ex] at he ⊢
          rw [← ey] at he2
          exact (ck_or_ok (a := x.toBitVec) (b := y.toBitVec) (x := (x.toInt, x.toInt)) (y := (y.toInt, y.toInt)) ⟨Int.le_refl _, Int.le_refl _⟩ ⟨Int.le_refl _, Int.le_refl _⟩ he he2).2)
        (fun m N k hk hz => .ml hk hz.symm)
      have := hk S' h6 n' ws sh H locs ls _ o' hw hx hP hD hS
      rw [ec] at this
      exact row ws sh H locs ls vs2 x y this
    · cases h6
  · cases h
end
end
section
section
variable {p : Program} {l : Launch} {e : Env} {R : Room} {s : State} {m : MethodId} {args : Array Value} {below : List Frame} {meth : Method} {c : Code} {Q : State → Prop} {cc : ByteArray} {own : String} {D : va_G} {cl : List vw_C} {tys : List (ClassId × FieldType)} {M : ck_Me} {sc : ck_sc} {A : Nat → Prop} {ws0 : va_W} {sh0 : List Nat} {Fc : Nat → Nat × fR} {s0 : fS} {k : ck_S → Bool} {S : ck_S} {pc pc' : Nat}
theorem ck_g.at {S S' : ck_S} {pc : Nat} {n : ck_N} {ws : va_W} {sh : List Nat} {H : Heap} {locs : List Loc} {ls : Array Slot} {vs : List Value} (h : ck_g Fc s0 p l e R s m args below meth c Q D cl tys M sc A ws0 sh0 S' pc) (o : ck_so (mnL M) (mSG M) S' n ws sh sc ls vs) (hw : ck_wo tys (mTT M) (mSG M) ws sh) (hx : ck_ex (mWr M) ws0 sh0 ws sh) (hP : va_P D cl ws H) (hD : va_D A ws) (hS : va_S A s.heap H locs)
    (ec : S'.2.2.2.2.2 = S.2.2.2.2.2) : WG (tM M Fc sc.1) s0 p l e R s m args below meth c ws sh H locs (ck_oc R M + S.2.2.2.2.2.1) (ck_os R M + S.2.2.2.2.2.2) Q (pc, ls, vs) := by
  have := h n ws sh H locs ls vs o hw hx hP hD hS
  rw [ec] at this
  exact this
theorem ck_tgt_ok {pc : Nat} {off : Int} {k : Nat → Bool} (h : ck_tgt pc off k = true) : ∃ t : Nat, (pc : Int) + off = (t : Int) ∧ k t = true := by
  unfold ck_tgt at h
  rw [Bool.and_eq_true] at h
  have h1 := of_decide_eq_true h.1
  exact ⟨((pc : Int) + off).toNat, by omega, h.2⟩
theorem ck_cmI {cd : ClassFile.Cond} {x y : Int32} : ck_cm cd x.toInt y.toInt ↔ (match cd with | .eq => x = y | .ne => ¬ x = y | .lt => x < y | .ge => y ≤ x | .gt => y < x | .le => x ≤ y) := by
  cases cd
  · exact Int32.toInt_inj
  · exact not_congr Int32.toInt_inj
  · exact Int32.lt_iff_toInt_lt.symm
  · exact Int32.le_iff_toInt_le.symm
  · exact Int32.lt_iff_toInt_lt.symm
  · exact Int32.le_iff_toInt_le.symm
theorem ck_row_icmp {T : fT} (hexec : p.tables.exec = Jvm.exec) (hb : c.code = cc) {cd : ClassFile.Cond} {off : Int} {tgt : Nat} {x y : Int32} {ws : va_W} {sh : List Nat} {H : Heap} {locs : List Loc} {ls : Array Slot} {cells slots : Nat} {rest : List Value} (hdg : decode cc pc = .ok (.if_icmp cd off, 3)) (ht : (pc : Int) + off = (tgt : Int))
    (kt : ck_cm cd x.toInt y.toInt → WG T s0 p l e R s m args below meth c ws sh H locs cells slots Q (tgt, ls, rest)) (kf : ¬ ck_cm cd x.toInt y.toInt → WG T s0 p l e R s m args below meth c ws sh H locs cells slots Q (pc + 3, ls, rest)) : WG T s0 p l e R s m args below meth c ws sh H locs cells slots Q (pc, ls, (.int y :: .int x :: rest)) := by
  intro lg hl hg
  have kt' : ck_cm cd x.toInt y.toInt → W p l e R s m args below meth c H locs cells slots Q (F0 m tgt ls rest) := fun h => kt h lg hl (hg.nx hb hdg ⟨x, y, rest, rfl, Or.inl ⟨h, tgt, ht, rfl⟩⟩)
  have kf' : ¬ ck_cm cd x.toInt y.toInt → W p l e R s m args below meth c H locs cells slots Q (F0 m (pc + 3) ls rest) := fun h => kf h lg hl (hg.nx hb hdg ⟨x, y, rest, rfl, Or.inr ⟨h, rfl⟩⟩)
  have e := @ck_cmI cd x y
  cases cd
  · exact lv_icmp_eq hexec hb hdg ht (fun h => kt' (e.mpr h)) (fun h => kf' (fun z => h (e.mp z)))
  · exact lv_icmp_ne hexec hb hdg ht (fun h => kt' (e.mpr h)) (fun h => kf' (fun z => e.mp z h))
  · exact lv_icmp_lt hexec hb hdg ht (fun h => kt' (e.mpr h)) (fun h => kf' (fun z => h (e.mp z)))
  · exact lv_icmp_ge hexec hb hdg ht (fun h => kt' (e.mpr h)) (fun h => kf' (fun z => h (e.mp z)))
  · exact lv_icmp_gt hexec hb hdg ht (fun h => kt' (e.mpr h)) (fun h => kf' (fun z => h (e.mp z)))
  · exact lv_icmp_le hexec hb hdg ht (fun h => kt' (e.mpr h)) (fun h => kf' (fun z => h (e.mp z)))
theorem ck_row_if {T : fT} (hexec : p.tables.exec = Jvm.exec) (hb : c.code = cc) {cd : ClassFile.Cond} {off : Int} {tgt : Nat} {x : Int32} {ws : va_W} {sh : List Nat} {H : Heap} {locs : List Loc} {ls : Array Slot} {cells slots : Nat} {rest : List Value} (hdg : decode cc pc = .ok (.ifCond cd off, 3)) (ht : (pc : Int) + off = (tgt : Int))
    (kt : ck_cm cd x.toInt 0 → WG T s0 p l e R s m args below meth c ws sh H locs cells slots Q (tgt, ls, rest)) (kf : ¬ ck_cm cd x.toInt 0 → WG T s0 p l e R s m args below meth c ws sh H locs cells slots Q (pc + 3, ls, rest)) : WG T s0 p l e R s m args below meth c ws sh H locs cells slots Q (pc, ls, (.int x :: rest)) := by
  intro lg hl hg
  have kt' : ck_cm cd x.toInt 0 → W p l e R s m args below meth c H locs cells slots Q (F0 m tgt ls rest) := fun h => kt h lg hl (hg.nx hb hdg ⟨x, rest, rfl, Or.inl ⟨h, tgt, ht, rfl⟩⟩)
  have kf' : ¬ ck_cm cd x.toInt 0 → W p l e R s m args below meth c H locs cells slots Q (F0 m (pc + 3) ls rest) := fun h => kf h lg hl (hg.nx hb hdg ⟨x, rest, rfl, Or.inr ⟨h, rfl⟩⟩)
  have e := @ck_cmI cd x 0
  rw [Int32.toInt_zero] at e
  cases cd
  · exact lv_if_eq hexec hb hdg ht (fun h => kt' (e.mpr h)) (fun h => kf' (fun z => h (e.mp z)))
  · exact lv_if_ne hexec hb hdg ht (fun h => kt' (e.mpr h)) (fun h => kf' (fun z => e.mp z h))
  · exact lv_if_lt hexec hb hdg ht (fun h => kt' (e.mpr h)) (fun h => kf' (fun z => h (e.mp z)))
  · exact lv_if_ge hexec hb hdg ht (fun h => kt' (e.mpr h)) (fun h => kf' (fun z => h (e.mp z)))
  · exact lv_if_gt hexec hb hdg ht (fun h => kt' (e.mpr h)) (fun h => kf' (fun z => h (e.mp z)))
  · exact lv_if_le hexec hb hdg ht (fun h => kt' (e.mpr h)) (fun h => kf' (fun z => h (e.mp z)))
theorem ck_lg {x y : Int64} : (lg_cmp x y).toInt = if x.toInt < y.toInt then -1 else if x.toInt = y.toInt then 0 else 1 := by
  unfold lg_cmp
  split
  · rename_i h
    have h1 : y.toInt < x.toInt := Int64.lt_iff_toInt_lt.mp h
    rw [if_neg (by omega), if_neg (by omega)]
    decide
  · rename_i h
    have h1 : ¬ y.toInt < x.toInt := fun z => h (Int64.lt_iff_toInt_lt.mpr z)
    split
    · rename_i h2
      rw [h2, if_neg (by omega), if_pos rfl]
      decide
    · rename_i h2
      have h3 : ¬ x.toInt = y.toInt := fun z => h2 (Int64.toInt_inj.mp z)
      rw [if_pos (by omega)]
      decide
theorem ck_cm_lg {cd : ClassFile.Cond} {x y : Int64} : ck_cm cd (lg_cmp x y).toInt 0 ↔ ck_cm cd x.toInt y.toInt := by
  rw [ck_lg]
  cases cd <;> simp only [ck_cm] <;> split <;> (try split) <;> omega
theorem ck_iv_ok {nL : Nat} {SG : List Nat} {n : ck_N} {ws : va_W} {sh : List Nat} {ls : Array Slot} {vs : List Value} (h : ck_so nL SG S n ws sh sc ls vs) {a : Nat} {lo hi : Int} {k : ck_S → Bool} (hk : ck_iv a lo hi S k = true) (h1 : lo ≤ (n a).1) (h2 : (n a).1 ≤ hi) :
    ∃ S' : ck_S, k S' = true ∧ ck_so nL SG S' n ws sh sc ls vs ∧ ck_kn S S' := by
  unfold ck_iv at hk
  split at hk
  · rename_i x hx
    split at hk
    · rename_i hle
      have hb := h.2.2.2.2.1 a x hx hle
      have hlo : ck_max x.1 lo ≤ (n a).1 := ck_max_le.mpr ⟨hb.1, h1⟩
      have hhi : (n a).1 ≤ ck_min x.2 hi := ck_le_min.mpr ⟨hb.2, h2⟩
      rw [if_neg (by omega)] at hk
      have hl : (S.2.2.2.1.set a (ck_max x.1 lo, ck_min x.2 hi)).length = S.2.2.2.1.length := by simp
      refine ⟨_, hk, ⟨?_, ?_, ?_, ?_, ?_, ?_⟩, rfl, rfl, rfl, hl, rfl⟩
      · dsimp only; rw [hl]; exact h.1
      · dsimp only; rw [hl]; exact h.2.1
      · dsimp only; rw [hl]; exact h.2.2.1
      · dsimp only; rw [hl]; exact h.2.2.2.1
      · intro j z hz hzl
        dsimp only at hz
        rw [List.getElem?_set] at hz
        by_cases e : a = j
        · subst e
          rw [if_pos rfl] at hz
          simp only [(List.getElem?_eq_some_iff.mp hx).1, if_true, Option.some.injEq] at hz
          subst hz
          exact ⟨hlo, hhi⟩
        · rw [if_neg e] at hz
          exact h.2.2.2.2.1 j z hz hzl
      · dsimp only; rw [hl]; exact h.2.2.2.2.2
    · cases hk
  · cases hk
/-- other types for a sym -/
theorem ck_sub_ok {ws : va_W} {sh : List Nat} {n : ck_N} {N s0 : Nat} {w : ck_V} (hw : ck_vo ws sh sc n N w (n s0).2) {v : ck_V} {x : Value} (h : ck_vo ws sh sc n N v x) : ck_vo ws sh sc n N (ck_sub s0 w v) x := by
  unfold ck_sub
  split
  · rename_i hc
    have e : x = (n s0).2 := by
      have h2 := h
      unfold ck_vo at h2
      rcases hc.2 with q | q
      · rw [q] at h2
        rw [h2.2.1, hc.1]
      · rw [q] at h2
        rw [h2.2.1, hc.1]
    rw [e]
    exact hw
  · exact h
theorem ck_subS_ok {nL : Nat} {SG : List Nat} {n : ck_N} {ws : va_W} {sh : List Nat} {ls : Array Slot} {vs : List Value} (h : ck_so nL SG S n ws sh sc ls vs) {s0 : Nat} {w : ck_V} (hw : ck_vo ws sh sc n S.2.2.2.1.length w (n s0).2) : ck_so nL SG (ck_subS s0 w S) n ws sh sc ls vs := by
  obtain ⟨lv, l1, l2⟩ := h.2.1
  refine ⟨h.1, ⟨lv, l1, l2.map (P' := fun (x : Nat × ck_V) (y : Nat × Value) => x.1 = y.1 ∧ ck_vo ws sh sc n S.2.2.2.1.length x.2 y.2) _ fun a b hab => ⟨hab.1, ck_sub_ok hw hab.2⟩⟩, h.2.2.1.map _ fun a b hab => ck_sub_ok hw hab, ?_, h.2.2.2.2⟩
  intro x hx
  obtain ⟨y, hy, rfl⟩ := List.mem_map.mp hx
  rcases h.2.2.2.1 y hy with q | ⟨h0, h1, q, a, o, v, h2, h3, h4, h5⟩ | hn
  · rw [if_pos q.1]
    exact Or.inl q
  · rw [if_neg h0]
    exact Or.inr (Or.inl ⟨h0, h1, q, a, o, v, h2, h3, h4, ck_sub_ok hw h5⟩)
  · have e : ck_sub s0 w y.2.2 = y.2.2 := if_neg (fun z => by have := hn.1; have := z.2; omega)
    rw [if_neg hn.2.1, e]
    exact Or.inr (Or.inr hn)
/-- the switch's cases -/
theorem ck_sw_ok {a : Nat} {S : ck_S} {pc : Nat} {k : ck_cont} : ∀ {os : List Int} {lo : Int}, ck_sw a lo S pc k os = true → ∀ (j : Nat) (off : Int), os[j]? = some off → ck_iv a (lo + j) (lo + j) S (fun S => ck_tgt pc off (k S)) = true
  | [], _, _, j, off, h => by simp at h
  | o :: os, lo, h, j, off, hj => by
    rw [ck_sw, Bool.and_eq_true] at h
    cases j with
    | zero =>
      rw [List.getElem?_cons_zero, Option.some.injEq] at hj
      subst hj
      simpa using h.1
    | succ j =>
      rw [List.getElem?_cons_succ] at hj
      have := ck_sw_ok h.2 j off hj
      have e : lo + 1 + (j : Int) = lo + ((j + 1 : Nat) : Int) := by omega
      rw [e] at this
      exact this
theorem ck_nul_ok {kt kf : ck_S → Bool} (h : ck_nul S kt kf = true) {nL : Nat} {SG : List Nat} {n : ck_N} {ws : va_W} {sh : List Nat} {ls : Array Slot} {vs : List Value} (o : ck_so nL SG S n ws sh sc ls vs) : ∃ (v : Value) (vs' : List Value) (S' : ck_S), vs = v :: vs' ∧ ck_so nL SG S' n ws sh sc ls vs' ∧ S'.2.2.2.2.2 = S.2.2.2.2.2 ∧ ((v = .null ∧ kt S' = true) ∨ ((∃ a : Nat, v = .ref a) ∧ kf S' = true)) := by
  unfold ck_nul at h
  split at h
  · rename_i r st hst
    have o3 := o.2.2.1
    rw [hst] at o3
    obtain ⟨v, vs', rfl, h2, h3⟩ := ck_hd o3
    have os : ck_so nL SG (ck_ss S st) n ws sh sc ls vs' := o.ss h3
    refine ⟨v, vs', ?_⟩
    split at h
    · rename_i e
      obtain ⟨-, -, q, a, e', t, rfl, -⟩ := h2.r e
      exact ⟨_, rfl, os, rfl, Or.inr ⟨⟨a, rfl⟩, h⟩⟩
    · split at h
      · rename_i e
        have h4 := h2
        unfold ck_vo at h4
        rw [e] at h4
        exact ⟨_, rfl, os, rfl, Or.inl ⟨h4.2.2, h⟩⟩
      · rw [Bool.and_eq_true, Bool.and_eq_true] at h
        have e := eq_of_beq h.1
        have h4 := h2
        unfold ck_vo at h4
        rw [e] at h4
        obtain ⟨hl, hv, h5⟩ := h4
        rcases h5 with h5 | h5
        · exact ⟨_, rfl, ck_subS_ok os (w := (4, r.2.1, [])) (s0 := r.2.1) ⟨hl, rfl, by rw [← hv]; exact h5⟩, rfl, Or.inl ⟨h5, h.2.2⟩⟩
        · obtain ⟨q, a, e', t, e1, -⟩ := id h5
          exact ⟨_, rfl, ck_subS_ok os (w := (2, r.2.1, r.2.2)) (s0 := r.2.1) ⟨hl, rfl, by rw [← hv]; exact h5⟩, rfl, Or.inr ⟨⟨a, e1⟩, h.2.1⟩⟩
  · cases h
end
end
noncomputable section
/-! the rows of the tables, and what they say -/
def ck_hg (s : State) (args : Array Value) (own : String) (cl : List vw_C) (x : Nat × Nat × Nat) : Prop := ∃ (C : String) (T : u_T) (N : Nat) (ref : String) (Ts : List Cond), (∀ w ∈ Ts, w.before args s = true) ∧ (∀ w ∈ u_ws C T N, w ∈ Ts) ∧ cl[x.2.1]? = some (C, T, N) ∧ x.2.2 < N ∧
  ((Cond.fieldLink own x.1 ref (T x.2.2).2.1 (T x.2.2).2.2.1).before args s = true ∨ ∃ host, (Cond.fieldLinkNest own x.1 ref (T x.2.2).2.1 (T x.2.2).2.2.1 host).before args s = true) ∧ ∀ y, s.fieldFound? (T x.2.2).1 (T x.2.2).2.1 (T x.2.2).2.2.1 = some y → s.fieldFound? ref (T x.2.2).2.1 (T x.2.2).2.2.1 = some y
def ck_hp (s : State) (args : Array Value) (own : String) (cl : List vw_C) (init : Prop) (x : Nat × Nat × Nat × Nat) : Prop := ∃ (C : String) (T : u_T) (N : Nat) (ref : String) (Ts : List Cond) (ty0 : Nat → FieldType), (∀ w ∈ Ts, w.before args s = true) ∧ (∀ w ∈ u_ws C T N, w ∈ Ts) ∧ (∀ k, k < N → parseFieldDescriptor (T k).2.2.1 = some (ty0 k)) ∧ (∀ a, a < N → ∀ b, b < N → a ≠ b → (T a).2.1 ≠ (T b).2.1) ∧ cl[x.2.1]? = some (C, T, N) ∧ x.2.2.1 < N ∧
  (((Cond.fieldLink own x.1 ref (T x.2.2.1).2.1 (T x.2.2.1).2.2.1).before args s = true ∧ ((T x.2.2.1).2.2.2 = false ∨ ((T x.2.2.1).2.2.2 = true ∧ init ∧ (T x.2.2.1).1 = own))) ∨ ((T x.2.2.1).2.2.2 = false ∧ ∃ host, (Cond.fieldLinkNest own x.1 ref (T x.2.2.1).2.1 (T x.2.2.1).2.2.1 host).before args s = true)) ∧
  (∀ y, s.fieldFound? (T x.2.2.1).1 (T x.2.2.1).2.1 (T x.2.2.1).2.2.1 = some y → s.fieldFound? ref (T x.2.2.1).2.1 (T x.2.2.1).2.2.1 = some y) ∧
  (match x.2.2.2 with
    | 0 => ty0 x.2.2.1 = .int
    | 1 => ty0 x.2.2.1 = .boolean
    | _ => (∃ C, ty0 x.2.2.1 = .object C) ∨ ∃ t, ty0 x.2.2.1 = .array t)
theorem ck_wo_set {tys : List (ClassId × FieldType)} {TT : List ck_D} {SG : List Nat} {Wr : List (Nat × Nat)} {ws : va_W} {sh : List Nat} (h : ck_wo tys TT SG ws sh) {q a t : Nat} {e e' : va_E} (hq : ws[q]? = some (a, e)) (ht : sh[q]? = some t) (hs : ck_sm Wr t e e') {td : ck_D} (hd : TT[t]? = some td) (hc : ck_co tys ws sh td e') :
    ck_wo tys TT SG (ws.set q (a, e')) sh ∧ ck_ex Wr ws sh (ws.set q (a, e')) sh := by
  have hlt : q < ws.length := (List.getElem?_eq_some_iff.mp hq).1
  have hx : ck_ex Wr ws sh (ws.set q (a, e')) sh := by
    refine ⟨fun _ _ h => h, fun r b u v hr hv => ?_⟩
    rw [List.getElem?_set]
    by_cases eq : q = r
    · subst eq
      rw [hq] at hr
      rw [ht] at hv
      cases hr
      cases hv
      exact ⟨e', by simp [hlt], hs⟩
    · exact ⟨u, by rw [if_neg eq]; exact hr, ck_sm.rf⟩
  refine ⟨⟨by rw [List.length_set]; exact h.1, fun r b u v hr hv => ?_, h.2.2⟩, hx⟩
  rw [List.getElem?_set] at hr
  by_cases eq : q = r
  · subst eq
    rw [if_pos rfl, if_pos hlt, Option.some.injEq] at hr
    rw [ht] at hv
    cases hr
    cases hv
    exact ⟨td, hd, hc.mv hx⟩
  · rw [if_neg eq] at hr
    obtain ⟨td', h1, h2⟩ := h.2.1 r b u v hr hv
    exact ⟨td', h1, h2.mv hx⟩
theorem ck_jts_ok {ws : va_W} {sh : List Nat} {f : Nat → Option ck_T} : ∀ {ts : List Nat} {T : ck_T}, ck_jts f ts = some T → ∀ t ∈ ts, ∃ y, f t = some y ∧ ∀ v, ck_fo ws sh y v → ck_fo ws sh T v
  | [], _, h, _, _ => by cases h
  | [t], T, h, u, hu => by
    rw [List.mem_singleton.mp hu]
    exact ⟨T, h, fun _ q => q⟩
  | t :: t2 :: ts, T, h, u, hu => by
    rw [ck_jts] at h
    · split at h
      · rename_i a b ha hb
        have key : (∀ v, ck_fo ws sh a v → ck_fo ws sh T v) ∧ (∀ v, ck_fo ws sh b v → ck_fo ws sh T v) := by
          unfold ck_jt at h
          split at h
          · rename_i h0
            have e := Option.some.inj h
            subst e
            refine ⟨fun v hv => ?_, fun v hv => ?_⟩
            · unfold ck_fo at hv
              rw [h0.1] at hv
              obtain ⟨x, rfl, h1, h2⟩ := hv
              refine ⟨x, rfl, ?_, ?_⟩
              · have p := (ck_le_min.mp (Int.le_refl (ck_min a.2.1 b.2.1))).1
                show ck_min a.2.1 b.2.1 ≤ _
                omega
              · have p := (ck_max_le.mp (Int.le_refl (ck_max a.2.2.1 b.2.2.1))).1
                show _ ≤ ck_max a.2.2.1 b.2.2.1
                omega
            · unfold ck_fo at hv
              rw [h0.2] at hv
              obtain ⟨x, rfl, h1, h2⟩ := hv
              refine ⟨x, rfl, ?_, ?_⟩
              · have p := (ck_le_min.mp (Int.le_refl (ck_min a.2.1 b.2.1))).2
                show ck_min a.2.1 b.2.1 ≤ _
                omega
              · have p := (ck_max_le.mp (Int.le_refl (ck_max a.2.2.1 b.2.2.1))).2
                show _ ≤ ck_max a.2.2.1 b.2.2.1
                omega
          · split at h
            · rename_i h1
              have e := Option.some.inj h
              subst e
              subst h1
              exact ⟨fun _ q => q, fun _ q => q⟩
            · cases h
        rcases List.mem_cons.mp hu with rfl | hu
        · exact ⟨a, ha, key.1⟩
        · obtain ⟨y, h1, h2⟩ := ck_jts_ok hb u hu
          exact ⟨y, h1, fun v hv => key.2 v (h2 v hv)⟩
      · cases h
    · intro z
      cases z
section
variable {p : Program} {l : Launch} {e : Env} {R : Room} {s : State} {m : MethodId} {args : Array Value} {below : List Frame} {meth : Method} {c : Code} {Q : State → Prop} {cc : ByteArray} {own : String} {D : va_G} {cl : List vw_C} {tys : List (ClassId × FieldType)} {M : ck_Me} {sc : ck_sc} {A : Nat → Prop} {ws0 : va_W} {sh0 : List Nat} {Fc : Nat → Nat × fR} {s0 : fS} {k : ck_S → Bool} {S : ck_S} {pc pc' : Nat}
theorem ck_pt_ok {nL : Nat} {SG : List Nat} {n : ck_N} {ws : va_W} {sh : List Nat} {ls : Array Slot} {vs vs' : List Value} {st : List ck_V} {T : ck_T} {S' : ck_S} (h : ck_pt S st T = some S') (o : ck_so nL SG S n ws sh sc ls vs) (hs : ck_two (ck_vo ws sh sc n S.2.2.2.1.length) st vs') {v : Value} (hv : ck_fo ws sh T v) :
    ∃ n', ck_so nL SG S' n' ws sh sc ls (v :: vs') ∧ S'.2.2.2.2.2 = S.2.2.2.2.2 := by
  unfold ck_pt at h
  unfold ck_fo at hv
  split at h
  · rename_i e
    rw [e] at hv
    obtain ⟨x, rfl, h1, h2⟩ := hv
    have e := Option.some.inj h
    subst e
    exact ⟨_, o.new hs (x := (x.toInt, .null)) (.mi (Nat.lt_succ_self _) (by rw [ck_nx_eq])) (fun _ => ⟨h1, h2⟩) (fun r hr => by cases hr), rfl⟩
  · rename_i e
    rw [e] at hv
    obtain ⟨x, rfl⟩ := hv
    have e := Option.some.inj h
    subst e
    exact ⟨_, o.new hs (x := (x.toInt, .null)) (.ml (Nat.lt_succ_self _) (by rw [ck_nx_eq])) (fun _ => ck_r64 x) (fun r hr => by cases hr), rfl⟩
  · rename_i e
    rw [e] at hv
    have e := Option.some.inj h
    subst e
    exact ⟨_, o.new hs (x := (0, v)) ⟨Nat.lt_succ_self _, by rw [ck_nx_eq], hv⟩ (fun z => absurd z (by decide)) (fun r hr => by cases hr), rfl⟩
  · rename_i e
    rw [e] at hv
    have e := Option.some.inj h
    subst e
    exact ⟨_, o.new hs (x := (0, v)) ⟨Nat.lt_succ_self _, by rw [ck_nx_eq], hv⟩ (fun z => absurd z (by decide)) (fun r hr => by cases hr), rfl⟩
  · cases h
theorem ck_ft_ok {i t k : Nat} {y : ck_T} (h : ck_ft M i t = some (k, y)) : ∃ td ci, (mTT M)[t]? = some td ∧ td.1 = 0 ∧ td.2.1 = ci ∧ (i, ci, k) ∈ mfl M ∧ td.2.2.2[k]? = some y := by
  unfold ck_ft at h
  split at h
  · rename_i td htd
    split at h
    · rename_i h0
      split at h
      · rename_i x hx
        have hm := List.mem_of_find?_eq_some hx
        have hp := List.find?_some hx
        simp only [Bool.and_eq_true, beq_iff_eq] at hp
        cases hy : td.2.2.2[x.2.2]? with
        | none => rw [hy] at h; cases h
        | some z =>
          rw [hy] at h
          have e := Option.some.inj h
          have e1 : x.2.2 = k := congrArg Prod.fst e
          have e2 : z = y := congrArg Prod.snd e
          subst e1
          subst e2
          refine ⟨td, x.2.1, htd, h0, hp.2.symm, ?_, hy⟩
          rw [← hp.1]
          exact hm
      · cases h
    · cases h
  · cases h
theorem ck_get_ok (X : ck_cx p l e R s m args below meth c cc own D cl tys M sc A) (hfl : ∀ x ∈ mfl M, ck_hg s args own cl x) {i : Nat} (h : ck_get M i S k = true) (hk : ∀ S, k S = true → ck_g Fc s0 p l e R s m args below meth c Q D cl tys M sc A ws0 sh0 S (pc + 3)) (hdg : decode cc pc = .ok (.getfield i, 3)) : ck_g Fc s0 p l e R s m args below meth c Q D cl tys M sc A ws0 sh0 S pc := by
  intro n ws sh H locs ls vs o hw hx hP hD hS
  obtain ⟨x1, x2, x3, x4, x5, -⟩ := X
  unfold ck_get at h
  split at h
  · rename_i r st hst
    have o3 := o.2.2.1
    rw [hst] at o3
    obtain ⟨v, vs', rfl, h2, h3⟩ := ck_hd o3
    rw [Bool.and_eq_true] at h
    obtain ⟨-, -, q, a, e, t, rfl, hq, ht, htm⟩ := h2.r (eq_of_beq h.1)
    have h4 := h.2
    split at h4
    · rename_i T hT
      obtain ⟨y, hy, hyT⟩ := ck_jts_ok (ws := ws) (sh := sh) hT t htm
      obtain ⟨⟨k0, y'⟩, hf, rfl⟩ : ∃ z, ck_ft M i t = some z ∧ z.2 = y := by
        cases hf : ck_ft M i t with
        | none => rw [hf] at hy; cases hy
        | some z => rw [hf] at hy; exact ⟨z, rfl, Option.some.inj hy⟩
      obtain ⟨td, ci, f1, f2, f3, f4, f5⟩ := ck_ft_ok hf
      obtain ⟨td', g1, g2⟩ := hw.2.1 q a e t hq ht
      have e1 : td' = td := Option.some.inj (g1.symm.trans f1)
      subst e1
      unfold ck_co at g2
      rw [f2] at g2
      obtain ⟨fs, rfl, g3, g4⟩ := g2
      rw [f3] at hq
      obtain ⟨v, g5, g6⟩ := g4 k0 y' f5
      obtain ⟨C, T0, N0, ref, Ts, l1, l2, l3, l4, l5, l6⟩ := hfl _ f4
      have row : ∀ vs, WG (tM M Fc sc.1) s0 p l e R s m args below meth c ws sh H locs (ck_oc R M + S.2.2.2.2.2.1) (ck_os R M + S.2.2.2.2.2.2) Q ((pc + 3), ls, (v :: vs)) → WG (tM M Fc sc.1) s0 p l e R s m args below meth c ws sh H locs (ck_oc R M + S.2.2.2.2.2.1) (ck_os R M + S.2.2.2.2.2.2) Q (pc, ls, (.ref a :: vs)) := by
        intro vs hW
        rcases l5 with l5 | ⟨host, l5⟩
        · exact WG.up (fun h => va_get x1 x2 l1 l2 x3 x4 hP q hq l3 k0 l4 l5 l6 g5 hdg h) x2 hdg (fun lg => ⟨a, _, q, _, k0, _, v, rfl, hq, f4, g5, rfl⟩) hW
        · exact WG.up (fun h => va_getN x1 x2 l1 l2 x3 x4 hP q hq l3 k0 l4 l5 l6 g5 hdg h) x2 hdg (fun lg => ⟨a, _, q, _, k0, _, v, rfl, hq, f4, g5, rfl⟩) hW
      refine row vs' ?_
      have hvT := hyT v g6
      split at h4
      · rename_i t1 ht1
        rw [ht1] at htm
        have e2 := List.mem_singleton.mp htm
        subst e2
        rw [hf] at h4
        dsimp only at h4
        split at h4
        · rename_i w hw1
          unfold ck_mfind at hw1
          cases hfi : S.2.2.1.find? (fun m => m.1 == t && (m.2.1 == k0 && !(m.1 == 0))) with
          | none => rw [hfi] at hw1; cases hw1
          | some mm =>
            rw [hfi] at hw1
            have e3 : mm.2.2 = w := Option.some.inj hw1
            subst e3
            have hm := List.mem_of_find?_eq_some hfi
            have hp := List.find?_some hfi
            simp only [Bool.and_eq_true, beq_iff_eq, Bool.not_eq_true', beq_eq_false_iff_ne, ne_eq] at hp
            rcases o.2.2.2.1 mm hm with ⟨z, -⟩ | ⟨-, z1, q1, a1, o1, v1, z2, z3, z4, z5⟩ | ⟨-, -, z1, -, -, -, q1, a1, cA1, len1, f1, z2, z3, -⟩
            · exact absurd z hp.2.2
            rotate_left
            · have e4 := hw.2.2 mm.1 z1 q1 q z2 (by rw [hp.1]; exact ht)
              subst e4
              rw [hq] at z3
              cases z3
            · have e4 := hw.2.2 mm.1 z1 q1 q z2 (by rw [hp.1]; exact ht)
              subst e4
              rw [hq] at z3
              cases z3
              have e5 : v = v1 := by
                rw [hp.2.1] at z4
                exact Option.some.inj (g5.symm.trans z4)
              subst e5
              exact (hk _ h4).at (o.ss ⟨z5, h3⟩) hw hx hP hD hS rfl
        · split at h4
          · rename_i S' hS'
            obtain ⟨n', o', ec⟩ := ck_pt_ok hS' o h3 hvT
            split at h4
            · rename_i hsg
              split at h4
              · rename_i w st2 hst2
                have o5 := o'.2.2.1
                rw [hst2] at o5
                refine ck_g.at (S' := (S'.1, S'.2.1, (t, k0, w) :: S'.2.2.1, S'.2.2.2)) (hk _ h4) ⟨o'.1, o'.2.1, o'.2.2.1, fun z hz => ?_, o'.2.2.2.2⟩ hw hx hP hD hS ec
                rcases List.mem_cons.mp hz with rfl | hz
                · rw [Bool.and_eq_true, Bool.not_eq_true', beq_eq_false_iff_ne] at hsg
                  exact Or.inr (Or.inl ⟨hsg.2, List.contains_iff_mem.mp hsg.1, q, a, _, v, ht, hq, g5, o5.1⟩)
                · exact o'.2.2.2.1 z hz
              · cases h4
            · exact (hk _ h4).at o' hw hx hP hD hS ec
          · cases h4
      · split at h4
        · rename_i S' hS'
          obtain ⟨n', o', ec⟩ := ck_pt_ok hS' o h3 hvT
          exact (hk _ h4).at o' hw hx hP hD hS ec
        · cases h4
    · cases h4
  · cases h
end
end
section
section
variable {p : Program} {l : Launch} {e : Env} {R : Room} {s : State} {m : MethodId} {args : Array Value} {below : List Frame} {meth : Method} {c : Code} {Q : State → Prop} {cc : ByteArray} {own : String} {D : va_G} {cl : List vw_C} {tys : List (ClassId × FieldType)} {M : ck_Me} {sc : ck_sc} {A : Nat → Prop} {ws0 : va_W} {sh0 : List Nat} {Fc : Nat → Nat × fR} {s0 : fS} {k : ck_S → Bool} {S : ck_S} {pc pc' : Nat}
theorem ck_fit_ok {nL : Nat} {SG : List Nat} {n : ck_N} {ws : va_W} {sh : List Nat} {ls : Array Slot} {vs : List Value} (o : ck_so nL SG S n ws sh sc ls vs) {F : Nat} {t : ck_T} {v : ck_V} {x : Value} (h : ck_fit F S t v = true) (hv : ck_vo ws sh sc n S.2.2.2.1.length v x) : ck_fo ws sh t x := by
  unfold ck_fit at h
  unfold ck_fo
  split at h
  · rename_i e
    rw [Bool.and_eq_true, Bool.and_eq_true] at h
    obtain ⟨-, z, rfl, ez⟩ := hv.i (eq_of_beq h.1)
    have p1 := ck_ent_ok o.2.2.2.2.1 o.2.2.2.2.2 F _ _ _ h.2.1
    have p2 := ck_ent_ok o.2.2.2.2.1 o.2.2.2.2.2 F _ _ _ h.2.2
    rw [o.1.2] at p1 p2
    rw [e]
    exact ⟨z, rfl, by rw [ez]; omega, by rw [ez]; omega⟩
  · rename_i e
    obtain ⟨-, z, rfl, ez⟩ := hv.j (eq_of_beq h)
    rw [e]
    exact ⟨z, rfl⟩
  · rename_i e
    rw [Bool.and_eq_true] at h
    obtain ⟨-, -, h2⟩ := hv.r (eq_of_beq h.1)
    rw [e]
    exact h2.sub fun t ht => List.contains_iff_mem.mp (List.all_eq_true.mp h.2 t ht)
  · rename_i e
    rw [e]
    rw [Bool.or_eq_true, Bool.and_eq_true, Bool.or_eq_true] at h
    have hv2 := hv
    unfold ck_vo at hv2
    rcases h with h | ⟨h | h, h3⟩
    · rw [eq_of_beq h] at hv2
      exact Or.inl hv2.2.2
    · obtain ⟨-, -, h2⟩ := hv.r (eq_of_beq h)
      exact Or.inr (h2.sub fun t ht => List.contains_iff_mem.mp (List.all_eq_true.mp h3 t ht))
    · rw [eq_of_beq h] at hv2
      exact hv2.2.2.imp id (·.sub fun t ht => List.contains_iff_mem.mp (List.all_eq_true.mp h3 t ht))
  · cases h
theorem ck_putT_ok {i t : Nat} {x : Nat × Nat × ck_T} (h : ck_putT M i t = some x) : ∃ td, (mTT M)[t]? = some td ∧ td.1 = 0 ∧ (i, td.2.1, x.1, x.2.1) ∈ mpl M ∧ td.2.2.2[x.1]? = some x.2.2 := by
  unfold ck_putT at h
  split at h
  · rename_i td htd
    split at h
    · rename_i h0
      split at h
      · rename_i z hz
        have hm := List.mem_of_find?_eq_some hz
        have hp := List.find?_some hz
        simp only [Bool.and_eq_true, beq_iff_eq] at hp
        cases hy : td.2.2.2[z.2.2.1]? with
        | none => rw [hy] at h; cases h
        | some y =>
          rw [hy] at h
          have e := Option.some.inj h
          subst e
          refine ⟨td, htd, h0, ?_, hy⟩
          rw [← hp.1, ← hp.2]
          exact hm
      · cases h
    · cases h
  · cases h
theorem ck_nar_b {z : Int32} (h0 : 0 ≤ z.toInt) (h1 : z.toInt ≤ 1) : narrow .boolean (.int z) = .int z ∧ fits .boolean (.int z) = true := by
  have e : z = Int32.ofNat z.toInt.toNat := ck_i32 h0
  have hc : z.toInt.toNat = 0 ∨ z.toInt.toNat = 1 := by omega
  rcases hc with q | q <;> (rw [q] at e; subst e; exact ⟨by rfl, by rfl⟩)
/-- the memory behind a putfield -/
theorem ck_put_ok (X : ck_cx p l e R s m args below meth c cc own D cl tys M sc A) (hpl : ∀ x ∈ mpl M, ck_hp s args own cl (meth.name = "<init>") x) {i : Nat} (h : ck_put M i S k = true) (hk : ∀ S, k S = true → ck_g Fc s0 p l e R s m args below meth c Q D cl tys M sc A ws0 sh0 S (pc + 3)) (hdg : decode cc pc = .ok (.putfield i, 3)) : ck_g Fc s0 p l e R s m args below meth c Q D cl tys M sc A ws0 sh0 S pc := by
  intro n ws sh H locs ls vs o hw hx hP hD hS
  obtain ⟨x1, x2, x3, x4, x5, -⟩ := X
  unfold ck_put at h
  split at h
  · rename_i v r st hst
    have o3 := o.2.2.1
    rw [hst] at o3
    obtain ⟨u, vs1, rfl, h2, h3⟩ := ck_hd o3
    obtain ⟨ra, vs2, rfl, h4, h5⟩ := ck_hd h3
    rw [Bool.and_eq_true, Bool.and_eq_true] at h
    obtain ⟨hr2, hall, hcont⟩ := h
    obtain ⟨-, -, q, a, e, t, rfl, hq, ht, htm⟩ := h4.r (eq_of_beq hr2)
    have h6 := List.all_eq_true.mp hall t htm
    split at h6
    · rename_i x hxT
      rw [Bool.and_eq_true, Bool.and_eq_true] at h6
      obtain ⟨hwr, hfit, hty⟩ := h6
      obtain ⟨td, f1, f2, f3, f4⟩ := ck_putT_ok hxT
      obtain ⟨td', g1, g2⟩ := hw.2.1 q a e t hq ht
      have e1 : td' = td := Option.some.inj (g1.symm.trans f1)
      subst e1
      have g2' := g2
      unfold ck_co at g2
      rw [f2] at g2
      obtain ⟨fs, rfl, g3, g4⟩ := g2
      have hfo := ck_fit_ok o hfit h2
      obtain ⟨C, T0, N0, ref, Ts, ty0, l1, l2, l3, l4, l5, l6, l7, l8, l9⟩ := hpl _ f3
      have hlen : x.1 < fs.length := by rw [g3]; exact (List.getElem?_eq_some_iff.mp f4).1
      have hnf : narrow (ty0 x.1) u = u ∧ fits (ty0 x.1) u = true := by
        dsimp only at l9 hty
        split at l9
        · rename_i eb
          rw [eb] at hty
          have hty := eq_of_beq hty
          unfold ck_fo at hfo
          rw [hty] at hfo
          obtain ⟨z, rfl, -⟩ := hfo
          rw [l9]
          exact ⟨rfl, rfl⟩
        · rename_i eb
          rw [eb] at hty
          simp only [Bool.and_eq_true, beq_iff_eq, decide_eq_true_eq] at hty
          unfold ck_fo at hfo
          rw [hty.1] at hfo
          obtain ⟨z, rfl, p1, p2⟩ := hfo
          rw [l9]
          exact ck_nar_b (Int.le_trans hty.2.1 p1) (Int.le_trans p2 hty.2.2)
        · have hrn : u = .null ∨ ∃ b : Nat, u = .ref b := by
            have hty2 : x.2.2.1 = 2 ∨ x.2.2.1 = 3 := by
              revert hty
              split
              · rename_i z1 z2; exact absurd z2 (by assumption)
              · rename_i z1 z2; exact absurd z2 (by assumption)
              · intro hty
                rw [Bool.or_eq_true] at hty
                exact hty.imp eq_of_beq eq_of_beq
            unfold ck_fo at hfo
            rcases hty2 with z | z
            · rw [z] at hfo
              obtain ⟨_, b, _, _, rfl, -⟩ := hfo
              exact Or.inr ⟨b, rfl⟩
            · rw [z] at hfo
              rcases hfo with rfl | ⟨_, b, _, _, rfl, -⟩
              · exact Or.inl rfl
              · exact Or.inr ⟨b, rfl⟩
          rcases l9 with ⟨C', l9⟩ | ⟨t', l9⟩ <;> rw [l9] <;> rcases hrn with rfl | ⟨b, rfl⟩ <;> exact ⟨rfl, rfl⟩
      have hsm : ck_sm (mWr M) t (.inr (td'.2.1, fs)) (.inr (td'.2.1, fs.set x.1 u)) := by
        refine ⟨rfl, fun j hj => ?_⟩
        have hne : x.1 ≠ j := fun z => hj (by rw [← z]; exact List.contains_iff_mem.mp hwr)
        exact List.getElem?_set_ne hne
      have hco : ck_co tys ws sh td' (.inr (td'.2.1, fs.set x.1 u)) := by
        unfold ck_co
        rw [f2]
        refine ⟨_, rfl, by rw [List.length_set]; exact g3, fun j tj hj => ?_⟩
        by_cases ej : x.1 = j
        · subst ej
          rw [f4] at hj
          have := Option.some.inj hj
          subst this
          exact ⟨u, by simp [hlen], hfo⟩
        · obtain ⟨w, w1, w2⟩ := g4 j tj hj
          exact ⟨w, by rw [List.getElem?_set_ne ej]; exact w1, w2⟩
      obtain ⟨hw', hx'⟩ := ck_wo_set (Wr := mWr M) hw hq ht hsm f1 hco
      have go : ∀ (H1 : Heap) (locs1 : List Loc), va_P D cl (ws.set q (a, .inr (td'.2.1, fs.set x.1 u))) H1 → va_D A (ws.set q (a, .inr (td'.2.1, fs.set x.1 u))) → va_S A s.heap H1 locs1 → WG (tM M Fc sc.1) s0 p l e R s m args below meth c (ws.set q (a, .inr (td'.2.1, fs.set x.1 u))) sh H1 locs1 (ck_oc R M + S.2.2.2.2.2.1) (ck_os R M + S.2.2.2.2.2.2) Q ((pc + 3), ls, vs2) := by
        intro H1 locs1 hP1 hD1 hS1
        refine ck_g.at (hk _ hcont) ⟨o.1, o.2.1.mv hx', h5.imp fun _ _ z => z.mv hx', ?_, o.2.2.2.2⟩ hw' (hx.tr (fun _ z => z) hx') hP1 hD1 hS1 rfl
        intro z hz
        rcases List.mem_append.mp hz with hz | hz
        · split at hz
          · rename_i t1 ht1
            split at hz
            · rename_i hsg
              simp only [Bool.and_eq_true, Bool.not_eq_true', beq_eq_false_iff_ne, ne_eq] at hsg
              split at hz
              · rename_i x' hx'T
                have ez := List.mem_singleton.mp hz
                subst ez
                rw [ht1] at htm
                have e2 := List.mem_singleton.mp htm
                subst e2
                rw [hxT] at hx'T
                have e3 := Option.some.inj hx'T
                subst e3
                refine Or.inr (Or.inl ⟨hsg.1.1.1.2, List.contains_iff_mem.mp hsg.1.1.1.1, q, a, (td'.2.1, fs.set x.1 u), u, ht, ?_, ?_, h2.mv hx'⟩)
                · rw [List.getElem?_set_self (List.getElem?_eq_some_iff.mp hq).1]
                · simp [hlen]
              · cases hz
            · cases hz
          · cases hz
        · obtain ⟨hz1, hz2⟩ := List.mem_filter.mp hz
          rcases o.2.2.2.1 z hz1 with q1 | ⟨z0, z1, q1, a1, o1, v1, z2, z3, z4, z5⟩ | ⟨y0, y1, y2, y3, y4, y5, q1, a1, cA1, len1, f1, y6, y7, y8⟩
          · exact Or.inl q1
          rotate_left
          · refine Or.inr (Or.inr ⟨y0, y1, y2, y3, y4, y5, q1, a1, cA1, len1, f1, y6, ?_, y8⟩)
            rw [List.getElem?_set_ne (fun eq => by rw [eq] at hq; rw [hq] at y7; cases y7)]
            exact y7
          · rw [Bool.or_eq_true] at hz2
            rcases hz2 with hz2 | hz2
            · exact absurd (eq_of_beq hz2) z0
            · rw [Bool.not_eq_true', List.any_eq_false] at hz2
              by_cases eq : q = q1
              · subst eq
                rw [hq] at z3
                cases z3
                rw [ht] at z2
                have e2 := Option.some.inj z2
                have hne : x.1 ≠ z.2.1 := by
                  intro en
                  refine hz2 t htm ?_
                  rw [hxT, e2]
                  simp [en]
                refine Or.inr (Or.inl ⟨z0, z1, q, a, (td'.2.1, fs.set x.1 u), v1, by rw [ht, e2], ?_, ?_, z5.mv hx'⟩)
                · rw [List.getElem?_set_self (List.getElem?_eq_some_iff.mp hq).1]
                · dsimp only
                  rw [List.getElem?_set_ne hne]
                  exact z4
              · refine Or.inr (Or.inl ⟨z0, z1, q1, a1, o1, v1, z2, ?_, z4, z5.mv hx'⟩)
                rw [List.getElem?_set_ne eq]
                exact z3
      intro lg hl hg
      have go : ∀ (H1 : Heap) (locs1 : List Loc), va_P D cl (ws.set q (a, .inr (td'.2.1, fs.set x.1 u))) H1 → va_D A (ws.set q (a, .inr (td'.2.1, fs.set x.1 u))) → va_S A s.heap H1 locs1 → W p l e R s m args below meth c H1 locs1 (ck_oc R M + S.2.2.2.2.2.1) (ck_os R M + S.2.2.2.2.2.2) Q (F0 m (pc + 3) ls vs2) :=
        fun H1 locs1 hP1 hD1 hS1 => go H1 locs1 hP1 hD1 hS1 lg hl (hg.nx x2 hdg ⟨u, a, _, q, _, x.1, x.2.1, fs, rfl, hq, f3, hlen, rfl⟩)
      rcases l7 with ⟨lk, lf | ⟨lf, li, lo⟩⟩ | ⟨lf, host, lk⟩
      · exact va_put x1 x2 l1 l2 ty0 l3 l4 x3 x4 hP hD hS q hq l5 x.1 l6 lk l8 lf (l3 _ l6) hnf.1 hnf.2 hlen hdg go
      · exact va_putF x1 x2 l1 l2 ty0 l3 l4 x3 x4 hP hD hS q hq l5 x.1 l6 lk l8 lf li lo (l3 _ l6) hnf.1 hnf.2 hlen hdg go
      · exact va_putN x1 x2 l1 l2 ty0 l3 l4 x3 x4 hP hD hS q hq l5 x.1 l6 lk l8 lf (l3 _ l6) hnf.1 hnf.2 hlen hdg go
    · cases h6
  · cases h
end
end
noncomputable section
def ck_eT (kd : Nat) (td : ck_D) (T : ck_T) : Prop := if kd = 2 then T = (1, 0, 0, []) else if kd = 4 then T = (0, 0, 1, []) else td.2.2.2[0]? = some T
section
variable {p : Program} {l : Launch} {e : Env} {R : Room} {s : State} {m : MethodId} {args : Array Value} {below : List Frame} {meth : Method} {c : Code} {Q : State → Prop} {cc : ByteArray} {own : String} {D : va_G} {cl : List vw_C} {tys : List (ClassId × FieldType)} {M : ck_Me} {sc : ck_sc} {A : Nat → Prop} {ws0 : va_W} {sh0 : List Nat} {Fc : Nat → Nat × fR} {s0 : fS} {k : ck_S → Bool} {S : ck_S} {pc pc' : Nat}
theorem ck_el_ok {kd i t : Nat} {T : ck_T} (h : ck_el M S kd i t = some T) : ∃ td, (mTT M)[t]? = some td ∧ td.1 = kd ∧ ck_bd M S i td.2.1 = true ∧ ck_eT kd td T := by
  unfold ck_el at h
  split at h
  · rename_i td htd
    split at h
    · rename_i h0
      refine ⟨td, htd, h0.1, h0.2, ?_⟩
      unfold ck_eT
      split at h
      · rename_i z
        rw [if_pos z]
        exact (Option.some.inj h).symm
      · rename_i z
        rw [if_neg z]
        split at h
        · rename_i z
          rw [if_pos z]
          exact (Option.some.inj h).symm
        · rename_i z
          rw [if_neg z]
          exact h
    · cases h
  · cases h
theorem ck_bd_ok {nL : Nat} {SG : List Nat} {n : ck_N} {ws : va_W} {sh : List Nat} {ls : Array Slot} {vs : List Value} (o : ck_so nL SG S n ws sh sc ls vs) {i N : Nat} (h : ck_bd M S i N = true) {x : Int32} (hx : x.toInt = (n i).1) : vp_in x N ∧ x.toNatClampNeg < N := by
  unfold ck_bd at h
  rw [Bool.and_eq_true] at h
  have p1 := ck_ent_ok o.2.2.2.2.1 o.2.2.2.2.2 _ _ _ _ h.1
  have p2 := ck_ent_ok o.2.2.2.2.1 o.2.2.2.2.2 _ _ _ _ h.2
  rw [o.1.2] at p1 p2
  have hn : x.toNatClampNeg = x.toInt.toNat := rfl
  have h0 : ¬ x < 0 := fun z => by
    have := Int32.lt_iff_toInt_lt.mp z
    rw [Int32.toInt_zero] at this
    omega
  have h1 : x.toNatClampNeg < N := by rw [hn]; omega
  exact ⟨fun z => z.elim h0 (fun z => by omega), h1⟩
theorem ck_nsc (X : ck_cx p l e R s m args below meth c cc own D cl tys M sc A) {ws : va_W} {q a : Nat} {e' : va_E} (hD : va_D A ws) (hq : ws[q]? = some (a, e')) : f_nsc (tM M Fc sc.1) a :=
  fun L xs h => (X.2.2.2.2.2.2.2.2.1 a L xs h).2.2.1 (hD.2 q _ hq)
theorem ck_in_lt {x : Int32} {N : Nat} (h : vp_in x N) : x.toNatClampNeg < N := Nat.not_le.mp (fun z => h (Or.inr z))
theorem ck_ald_ok (X : ck_cx p l e R s m args below meth c cc own D cl tys M sc A) {kd : Nat} (h : ck_ald M kd S k = true) (hk : ∀ S, k S = true → ck_g Fc s0 p l e R s m args below meth c Q D cl tys M sc A ws0 sh0 S (pc + 1))
    (row : ∀ (H : Heap) (locs : List Loc) (ls : Array Slot) (vs : List Value) (ws : va_W) (sh : List Nat) (q a : Nat) (eo : va_E) (td : ck_D) (x : Int32) (T : ck_T), va_P D cl ws H → f_nsc (tM M Fc sc.1) a → ws[q]? = some (a, eo) → td.1 = kd → ck_co tys ws sh td eo → vp_in x td.2.1 → x.toNatClampNeg < td.2.1 →
      ck_eT kd td T → (∀ v, ck_fo ws sh T v → WG (tM M Fc sc.1) s0 p l e R s m args below meth c ws sh H locs (ck_oc R M + S.2.2.2.2.2.1) (ck_os R M + S.2.2.2.2.2.2) Q ((pc + 1), ls, (v :: vs))) → WG (tM M Fc sc.1) s0 p l e R s m args below meth c ws sh H locs (ck_oc R M + S.2.2.2.2.2.1) (ck_os R M + S.2.2.2.2.2.2) Q (pc, ls, (.int x :: .ref a :: vs))) : ck_g Fc s0 p l e R s m args below meth c Q D cl tys M sc A ws0 sh0 S pc := by
  intro n ws sh H locs ls vs o hw hx hP hD hS
  unfold ck_ald at h
  split at h
  · rename_i i r st hst
    have o3 := o.2.2.1
    rw [hst] at o3
    obtain ⟨v, vs1, rfl, h2, h3⟩ := ck_hd o3
    obtain ⟨ra, vs2, rfl, h4, h5⟩ := ck_hd h3
    rw [Bool.and_eq_true, Bool.and_eq_true] at h
    obtain ⟨hi, hr2, h6⟩ := h
    obtain ⟨-, x, rfl, ex⟩ := h2.i (eq_of_beq hi)
    obtain ⟨-, -, q, a, e, t, rfl, hq, ht, htm⟩ := h4.r (eq_of_beq hr2)
    split at h6
    · rename_i T hT
      obtain ⟨y, hy, hyT⟩ := ck_jts_ok (ws := ws) (sh := sh) hT t htm
      obtain ⟨td, f1, f2, f3, f4⟩ := ck_el_ok hy
      obtain ⟨td', g1, g2⟩ := hw.2.1 q a e t hq ht
      have e1 : td' = td := Option.some.inj (g1.symm.trans f1)
      subst e1
      obtain ⟨b1, b2⟩ := ck_bd_ok o f3 ex
      refine row H locs ls vs2 ws sh q a e td' x y hP (ck_nsc X hD hq) hq f2 g2 b1 b2 f4 (fun v hv => ?_)
      split at h6
      · rename_i S' hS'
        obtain ⟨n', o', ec⟩ := ck_pt_ok hS' o h5 (hyT v hv)
        exact (hk _ h6).at o' hw hx hP hD hS ec
      · cases h6
    · cases h6
  · cases h
theorem ck_iald_ok (X : ck_cx p l e R s m args below meth c cc own D cl tys M sc A) (h : ck_ald M 1 S k = true) (hk : ∀ S, k S = true → ck_g Fc s0 p l e R s m args below meth c Q D cl tys M sc A ws0 sh0 S (pc + 1)) (hdg : decode cc pc = .ok (.iaload, 1)) : ck_g Fc s0 p l e R s m args below meth c Q D cl tys M sc A ws0 sh0 S pc := by
  refine ck_ald_ok X h hk ?_
  intro H locs ls vs ws sh q a e td x T hP hns hq hk1 hco hin hlt hT kk
  unfold ck_co at hco
  rw [hk1] at hco
  obtain ⟨cA, f, t1, rfl, t3⟩ := hco
  rw [ck_eT, if_neg (by decide), if_neg (by decide)] at hT
  obtain ⟨u1, u2⟩ := t3 T hT
  refine WG.up (fun h => va_iald X.1 X.2.1 X.2.2.2.1 hP q _ hq t1 hin hdg h) X.2.1 hdg (fun lg => ⟨x, a, _, rfl, Or.inl ⟨hns, q, _, cA, f, hq, hlt, rfl⟩⟩) (kk _ ?_)
  unfold ck_fo
  rw [u1]
  exact ⟨_, rfl, u2 _ hlt⟩
theorem ck_lald_ok (X : ck_cx p l e R s m args below meth c cc own D cl tys M sc A) (h : ck_ald M 2 S k = true) (hk : ∀ S, k S = true → ck_g Fc s0 p l e R s m args below meth c Q D cl tys M sc A ws0 sh0 S (pc + 1)) (hdg : decode cc pc = .ok (.laload, 1)) : ck_g Fc s0 p l e R s m args below meth c Q D cl tys M sc A ws0 sh0 S pc := by
  refine ck_ald_ok X h hk ?_
  intro H locs ls vs ws sh q a e td x T hP hns hq hk1 hco hin hlt hT kk
  unfold ck_co at hco
  rw [hk1] at hco
  obtain ⟨cA, f, t1, rfl⟩ := hco
  rw [ck_eT, if_pos rfl] at hT
  subst hT
  exact WG.up (fun h => va_lald X.1 X.2.1 X.2.2.2.1 hP q _ hq t1 hin hdg h) X.2.1 hdg (fun lg => ⟨x, a, _, rfl, Or.inl ⟨q, _, cA, f, hq, hlt, rfl⟩⟩) (kk _ ⟨_, rfl⟩)
theorem ck_zald_ok (X : ck_cx p l e R s m args below meth c cc own D cl tys M sc A) (h : ck_ald M 4 S k = true) (hk : ∀ S, k S = true → ck_g Fc s0 p l e R s m args below meth c Q D cl tys M sc A ws0 sh0 S (pc + 1)) (hdg : decode cc pc = .ok (.baload, 1)) : ck_g Fc s0 p l e R s m args below meth c Q D cl tys M sc A ws0 sh0 S pc := by
  refine ck_ald_ok X h hk ?_
  intro H locs ls vs ws sh q a e td x T hP hns hq hk1 hco hin hlt hT kk
  unfold ck_co at hco
  rw [hk1] at hco
  obtain ⟨cA, f, t1, rfl, t3⟩ := hco
  rw [ck_eT, if_neg (by decide), if_pos rfl] at hT
  subst hT
  exact WG.up (fun h => va_zald X.1 X.2.1 X.2.2.2.1 hP q _ hq t1 hin hdg h) X.2.1 hdg (fun lg => ⟨x, a, _, rfl, q, _, cA, f, hq, hlt, rfl⟩) (kk _ ⟨_, rfl, t3 _ hlt⟩)
theorem ck_aald_ok (X : ck_cx p l e R s m args below meth c cc own D cl tys M sc A) (h : ck_ald M 3 S k = true) (hk : ∀ S, k S = true → ck_g Fc s0 p l e R s m args below meth c Q D cl tys M sc A ws0 sh0 S (pc + 1)) (hdg : decode cc pc = .ok (.aaload, 1)) : ck_g Fc s0 p l e R s m args below meth c Q D cl tys M sc A ws0 sh0 S pc := by
  refine ck_ald_ok X h hk ?_
  intro H locs ls vs ws sh q a e td x T hP hns hq hk1 hco hin hlt hT kk
  unfold ck_co at hco
  rw [hk1] at hco
  obtain ⟨cA, C, f, t1, rfl, t3⟩ := hco
  rw [ck_eT, if_neg (by decide), if_neg (by decide)] at hT
  exact WG.up (fun h => va_aldq X.1 X.2.1 X.2.2.2.1 hP q _ hq t1 hin hdg h) X.2.1 hdg (fun lg => ⟨x, a, _, rfl, q, _, cA, f, hq, hlt, rfl⟩) (kk _ (t3 T hT _ hlt))
theorem ck_aald5_ok (X : ck_cx p l e R s m args below meth c cc own D cl tys M sc A) (h : ck_ald M 5 S k = true) (hk : ∀ S, k S = true → ck_g Fc s0 p l e R s m args below meth c Q D cl tys M sc A ws0 sh0 S (pc + 1)) (hdg : decode cc pc = .ok (.aaload, 1)) : ck_g Fc s0 p l e R s m args below meth c Q D cl tys M sc A ws0 sh0 S pc := by
  refine ck_ald_ok X h hk ?_
  intro H locs ls vs ws sh q a e td x T hP hns hq hk1 hco hin hlt hT kk
  unfold ck_co at hco
  rw [hk1] at hco
  obtain ⟨cA, f, t1, rfl, t3⟩ := hco
  rw [ck_eT, if_neg (by decide), if_neg (by decide)] at hT
  have hc : H[a]? = some (vp_cell cA (td.2.1, .inr (.inr (.inr (.inr f))))) := hP q _ hq
  have hA := (X.2.2.2.1.2 _ _ t1).1
  have e1 : vp_cell cA (td.2.1, .inr (.inr (.inr (.inr f)))) = arrV cA td.2.1 (fun j => va_rf (f j)) := rfl
  rw [e1] at hc
  refine WG.up (vs' := va_rf (f x.toNatClampNeg) :: vs) (fun h => W.aald X.1 X.2.1 hc (ty := .array .int) (hA _ _) rfl (by simp [arrV]) (j := x) (v := va_rf (f x.toNatClampNeg)) (by simpa [arrV, vp_in] using hin) ?_ (g := F0 m pc ls (.int x :: .ref a :: vs)) rfl rfl hdg h) X.2.1 hdg (fun lg => ⟨x, a, _, rfl, q, _, cA, f, hq, hlt, rfl⟩) (kk _ (t3 T hT _ hlt))
  simp [arrV, hlt]
theorem ck_ast_ok (X : ck_cx p l e R s m args below meth c cc own D cl tys M sc A) {kd : Nat} (h : ck_ast M kd S k = true) (hk : ∀ S, k S = true → ck_g Fc s0 p l e R s m args below meth c Q D cl tys M sc A ws0 sh0 S (pc + 1))
    (row : ∀ (H : Heap) (locs : List Loc) (ls : Array Slot) (vs : List Value) (ws : va_W) (sh : List Nat) (q a : Nat) (eo : va_E) (td : ck_D) (x : Int32) (T : ck_T) (u : Value), va_P D cl ws H → va_D A ws → va_S A s.heap H locs → ws[q]? = some (a, eo) → td.1 = kd → ck_co tys ws sh td eo → vp_in x td.2.1 →
      ck_eT kd td T → (kd = 4 → ∃ z : Int32, u = .int z) → (kd ≠ 4 → ck_fo ws sh T u) → (∀ (e' : va_E) (H1 : Heap) (locs1 : List Loc), (∃ y y', eo = .inl y ∧ e' = .inl y') → ck_co tys ws sh td e' → va_P D cl (ws.set q (a, e')) H1 → va_D A (ws.set q (a, e')) → va_S A s.heap H1 locs1 → WG (tM M Fc sc.1) s0 p l e R s m args below meth c (ws.set q (a, e')) sh H1 locs1 (ck_oc R M + S.2.2.2.2.2.1) (ck_os R M + S.2.2.2.2.2.2) Q ((pc + 1), ls, vs)) → WG (tM M Fc sc.1) s0 p l e R s m args below meth c ws sh H locs (ck_oc R M + S.2.2.2.2.2.1) (ck_os R M + S.2.2.2.2.2.2) Q (pc, ls, (u :: .int x :: .ref a :: vs))) : ck_g Fc s0 p l e R s m args below meth c Q D cl tys M sc A ws0 sh0 S pc := by
  intro n ws sh H locs ls vs o hw hx hP hD hS
  unfold ck_ast at h
  split at h
  · rename_i v i r st hst
    have o3 := o.2.2.1
    rw [hst] at o3
    obtain ⟨u, vs0, rfl, h1, h1'⟩ := ck_hd o3
    obtain ⟨iv, vs1, rfl, h2, h3⟩ := ck_hd h1'
    obtain ⟨ra, vs2, rfl, h4, h5⟩ := ck_hd h3
    rw [Bool.and_eq_true, Bool.and_eq_true, Bool.and_eq_true] at h
    obtain ⟨hi, hr2, hall, hcont⟩ := h
    obtain ⟨-, x, rfl, ex⟩ := h2.i (eq_of_beq hi)
    obtain ⟨-, -, q, a, e, t, rfl, hq, ht, htm⟩ := h4.r (eq_of_beq hr2)
    have h6 := List.all_eq_true.mp hall t htm
    split at h6
    · rename_i T hT
      rw [Bool.and_eq_true] at h6
      obtain ⟨hwr, hfit⟩ := h6
      obtain ⟨td, f1, f2, f3, f4⟩ := ck_el_ok hT
      obtain ⟨td', g1, g2⟩ := hw.2.1 q a e t hq ht
      have e1 : td' = td := Option.some.inj (g1.symm.trans f1)
      subst e1
      obtain ⟨b1, b2⟩ := ck_bd_ok o f3 ex
      refine row H locs ls vs2 ws sh q a e td' x T u hP hD hS hq f2 g2 b1 f4 (fun z => ?_) (fun z => ?_) (fun e' H1 locs1 he hco hP1 hD1 hS1 => ?_)
      · rw [if_pos z] at hfit
        obtain ⟨-, w, rfl, -⟩ := h1.i (eq_of_beq hfit)
        exact ⟨w, rfl⟩
      · rw [if_neg z] at hfit
        exact ck_fit_ok o hfit h1
      · obtain ⟨y, y', rfl, rfl⟩ := he
        have hsm : ck_sm (mWr M) t (.inl y) (.inl y') := fun z => absurd (List.contains_iff_mem.mp hwr) z
        obtain ⟨hw', hx'⟩ := ck_wo_set (Wr := mWr M) hw hq ht hsm f1 hco
        refine ck_g.at (hk _ hcont) ⟨o.1, o.2.1.mv hx', h5.imp fun _ _ z => z.mv hx', fun z hz => ?_, o.2.2.2.2⟩ hw' (hx.tr (fun _ z => z) hx') hP1 hD1 hS1 rfl
        obtain ⟨hz, hzf⟩ := List.mem_filter.mp hz
        rcases o.2.2.2.1 z hz with q1 | ⟨z0, z1, q1, a1, o1, v1, z2, z3, z4, z5⟩ | ⟨y0, y1, y2, y3, y4, y5, q1, a1, cA1, len1, f1, y6, y7, y8⟩
        · exact Or.inl q1
        rotate_left
        · refine Or.inr (Or.inr ⟨y0, y1, y2, y3, y4, y5, q1, a1, cA1, len1, f1, y6, ?_, y8⟩)
          rw [List.getElem?_set_ne (fun eq => by
            rw [eq] at ht
            rw [y6] at ht
            have et := Option.some.inj ht
            rw [Bool.or_eq_true, decide_eq_true_eq, Bool.not_eq_true'] at hzf
            rcases hzf with w | w
            · omega
            · rw [et, List.contains_iff_mem.mpr htm] at w
              cases w)]
          exact y7
        · have eq : q ≠ q1 := by
            intro eq
            subst eq
            rw [hq] at z3
            cases z3
          exact Or.inr (Or.inl ⟨z0, z1, q1, a1, o1, v1, z2, by rw [List.getElem?_set_ne eq]; exact z3, z4, z5.mv hx'⟩)
    · cases h6
  · cases h
theorem ck_iast_ok (X : ck_cx p l e R s m args below meth c cc own D cl tys M sc A) (h : ck_ast M 1 S k = true) (hk : ∀ S, k S = true → ck_g Fc s0 p l e R s m args below meth c Q D cl tys M sc A ws0 sh0 S (pc + 1)) (hdg : decode cc pc = .ok (.iastore, 1)) : ck_g Fc s0 p l e R s m args below meth c Q D cl tys M sc A ws0 sh0 S pc := by
  refine ck_ast_ok X h hk ?_
  intro H locs ls vs ws sh q a e td x T u hP hD hS hq hk1 hco hin hT h4 hfo kk
  have hfo := hfo (by decide)
  unfold ck_co at hco
  rw [hk1] at hco
  obtain ⟨cA, f, t1, rfl, t3⟩ := hco
  rw [ck_eT, if_neg (by decide), if_neg (by decide)] at hT
  obtain ⟨u1, u2⟩ := t3 T hT
  unfold ck_fo at hfo
  rw [u1] at hfo
  obtain ⟨z, rfl, z1, z2⟩ := hfo
  intro lg hl hg
  refine va_iast X.1 X.2.1 X.2.2.2.1 hP hD hS q _ hq t1 hin hdg (fun H1 locs1 hP1 hD1 hS1 => kk _ H1 locs1 ⟨_, _, rfl, rfl⟩ ?_ hP1 hD1 hS1 lg hl (hg.nx X.2.1 hdg ⟨z, x, a, _, rfl, q, _, cA, f, hq, ck_in_lt hin, rfl⟩))
  unfold ck_co
  rw [hk1]
  refine ⟨cA, _, t1, rfl, fun T' hT' => ?_⟩
  have eT : T' = T := Option.some.inj (hT'.symm.trans hT)
  subst eT
  refine ⟨u1, fun j hj => ?_⟩
  unfold upd
  split
  · exact ⟨z1, z2⟩
  · exact u2 j hj
theorem ck_last_ok (X : ck_cx p l e R s m args below meth c cc own D cl tys M sc A) (h : ck_ast M 2 S k = true) (hk : ∀ S, k S = true → ck_g Fc s0 p l e R s m args below meth c Q D cl tys M sc A ws0 sh0 S (pc + 1)) (hdg : decode cc pc = .ok (.lastore, 1)) : ck_g Fc s0 p l e R s m args below meth c Q D cl tys M sc A ws0 sh0 S pc := by
  refine ck_ast_ok X h hk ?_
  intro H locs ls vs ws sh q a e td x T u hP hD hS hq hk1 hco hin hT h4 hfo kk
  have hfo := hfo (by decide)
  unfold ck_co at hco
  rw [hk1] at hco
  obtain ⟨cA, f, t1, rfl⟩ := hco
  rw [ck_eT, if_pos rfl] at hT
  subst hT
  obtain ⟨z, rfl⟩ := hfo
  intro lg hl hg
  refine va_last X.1 X.2.1 X.2.2.2.1 hP hD hS q _ hq t1 hin hdg (fun H1 locs1 hP1 hD1 hS1 => kk _ H1 locs1 ⟨_, _, rfl, rfl⟩ ?_ hP1 hD1 hS1 lg hl (hg.nx X.2.1 hdg ⟨z, x, a, _, rfl, q, _, cA, f, hq, ck_in_lt hin, rfl⟩))
  unfold ck_co
  rw [hk1]
  exact ⟨cA, _, t1, rfl⟩
theorem ck_zast_ok (X : ck_cx p l e R s m args below meth c cc own D cl tys M sc A) (h : ck_ast M 4 S k = true) (hk : ∀ S, k S = true → ck_g Fc s0 p l e R s m args below meth c Q D cl tys M sc A ws0 sh0 S (pc + 1)) (hdg : decode cc pc = .ok (.bastore, 1)) : ck_g Fc s0 p l e R s m args below meth c Q D cl tys M sc A ws0 sh0 S pc := by
  refine ck_ast_ok X h hk ?_
  intro H locs ls vs ws sh q a e td x T u hP hD hS hq hk1 hco hin hT h4 hfo kk
  obtain ⟨z, rfl⟩ := h4 rfl
  unfold ck_co at hco
  rw [hk1] at hco
  obtain ⟨cA, f, t1, rfl, t3⟩ := hco
  intro lg hl hg
  refine va_zast X.1 X.2.1 X.2.2.2.1 hP hD hS q _ hq t1 hin hdg (fun H1 locs1 hP1 hD1 hS1 => kk _ H1 locs1 ⟨_, _, rfl, rfl⟩ ?_ hP1 hD1 hS1 lg hl (hg.nx X.2.1 hdg ⟨z, x, a, _, rfl, q, _, cA, f, hq, ck_in_lt hin, rfl⟩))
  unfold ck_co
  rw [hk1]
  refine ⟨cA, _, t1, rfl, fun j hj => ?_⟩
  unfold upd
  split
  · have e1 : vp_nar .boolean z = z &&& 1 := rfl
    rw [e1]
    have := ck_and_r (a := z.toBitVec) (b := (1 : Int32).toBitVec) (by decide)
    exact ⟨this.1, Int.le_trans this.2 (by decide)⟩
  · exact t3 j hj
end
end
noncomputable section
def ck_ha (s : State) (tys : List (ClassId × FieldType)) (cl : List vw_C) (x : Nat × Nat) : Prop := ∃ (cA : ClassId) (E : String) (r : vw_C), tys[x.1]? = some (cA, .object E) ∧ cl[x.2]? = some r ∧ (r.1 = E ∨ va_Nw (.castable r.1 E) s)
def ck_hs (s : State) (args : Array Value) (own : String) (sc : ck_sc) (i : Nat) : Prop := sc.2.1.isSome = true ∧ ∃ ref, (Cond.fieldLink own i ref "WITH" "[J").before args s = true ∧ ∀ x, s.fieldFound? "ReasonDesk$Bits" "WITH" "[J" = some x → s.fieldFound? ref "WITH" "[J" = some x
def ck_hn (s : State) (args : Array Value) (own : String) (cl : List vw_C) (TT : List ck_D) (x : Nat × Nat × Nat × Nat) : Prop := ∃ (C : String) (T : u_T) (Ts : List Cond) (ty : Nat → FieldType), (∀ w ∈ Ts, w.before args s = true) ∧ (∀ w ∈ u_ws C T x.2.2.2, w ∈ Ts) ∧ (∀ k, k < x.2.2.2 → parseFieldDescriptor (T k).2.2.1 = some (ty k)) ∧ (Cond.classLink own x.1 C).before args s = true ∧ (Cond.instantiable C x.2.2.2).before args s = true ∧ (Cond.initialized C).before args s = true ∧ cl[x.2.1]? = some (C, T, x.2.2.2) ∧
  ∀ td, TT[x.2.2.1]? = some td → ∀ (j : Nat) (t : ck_T), td.2.2.2[j]? = some t → (t.1 = 0 → defaultValue (ty j) = .int 0) ∧ (t.1 = 3 → defaultValue (ty j) = .null)
def ck_hi (s : State) (args : Array Value) (own : String) (cl : List vw_C) (x : Nat × Nat × Nat) : Prop := ∃ (r : vw_C) (nm : String), cl[x.2.1]? = some r ∧ (Cond.classLink own x.1 nm).before args s = true ∧ ((x.2.2 = 1 ∧ (r.1 = nm ∨ va_Nw (.castable r.1 nm) s)) ∨ (x.2.2 = 0 ∧ va_Nc r.1 nm s))
def ck_hx (s : State) (args : Array Value) (own : String) (cl : List vw_C) (x : Nat × Nat) : Prop := ∃ (r : vw_C) (nm : String), cl[x.2]? = some r ∧ (Cond.classLink own x.1 nm).before args s = true ∧ (r.1 = nm ∨ va_Nw (.castable r.1 nm) s)
section
variable {p : Program} {l : Launch} {e : Env} {R : Room} {s : State} {m : MethodId} {args : Array Value} {below : List Frame} {meth : Method} {c : Code} {Q : State → Prop} {cc : ByteArray} {own : String} {D : va_G} {cl : List vw_C} {tys : List (ClassId × FieldType)} {M : ck_Me} {sc : ck_sc} {A : Nat → Prop} {ws0 : va_W} {sh0 : List Nat} {Fc : Nat → Nat × fR} {s0 : fS} {k : ck_S → Bool} {S : ck_S} {pc pc' : Nat}
theorem ck_aast_ok (X : ck_cx p l e R s m args below meth c cc own D cl tys M sc A) (hal : ∀ x ∈ mal M, ck_ha s tys cl x) (h : ck_aast M S k = true) (hk : ∀ S, k S = true → ck_g Fc s0 p l e R s m args below meth c Q D cl tys M sc A ws0 sh0 S (pc + 1)) (hdg : decode cc pc = .ok (.aastore, 1)) : ck_g Fc s0 p l e R s m args below meth c Q D cl tys M sc A ws0 sh0 S pc := by
  intro n ws sh H locs ls vs o hw hx hP hD hS
  unfold ck_aast at h
  split at h
  · rename_i v i r st hst
    have o3 := o.2.2.1
    rw [hst] at o3
    obtain ⟨u, vs0, rfl, h1, h1'⟩ := ck_hd o3
    obtain ⟨iv, vs1, rfl, h2, h3⟩ := ck_hd h1'
    obtain ⟨ra, vs2, rfl, h4, h5⟩ := ck_hd h3
    rw [Bool.and_eq_true, Bool.and_eq_true, Bool.and_eq_true] at h
    obtain ⟨hi, hr2, hall, hcont⟩ := h
    obtain ⟨-, x, rfl, ex⟩ := h2.i (eq_of_beq hi)
    obtain ⟨-, -, q, a, e', t, rfl, hq, ht, htm⟩ := h4.r (eq_of_beq hr2)
    have h6 := List.all_eq_true.mp hall t htm
    unfold ck_aso at h6
    split at h6
    · rename_i td f1
      rw [Bool.and_eq_true, Bool.and_eq_true, Bool.and_eq_true] at h6
      obtain ⟨f2, f3, hwr, h7⟩ := h6
      have f2 := eq_of_beq f2
      obtain ⟨td', g1, g2⟩ := hw.2.1 q a e' t hq ht
      have e1 : td' = td := Option.some.inj (g1.symm.trans f1)
      subst e1
      obtain ⟨b1, b2⟩ := ck_bd_ok o f3 ex
      split at h7
      · rename_i T hT
        rw [Bool.and_eq_true, Bool.and_eq_true] at h7
        obtain ⟨⟨h8, h9⟩, h10⟩ := h7
        unfold ck_co at g2
        rw [f2] at g2
        obtain ⟨cA, C, f, t1, rfl, t3⟩ := g2
        have t3 := t3 T (by rw [hT]; rfl)
        -- the value: null, or a cell of one of the element's types, whose class may be stored
        have hT23 : T.1 = 2 ∨ T.1 = 3 := by
          rw [Bool.or_eq_true] at h10
          exact h10.imp eq_of_beq eq_of_beq
        have hval : (u = .null ∧ T.1 = 3) ∨ (ck_rf ws sh v.2.2 u ∧ v.1 ≠ 4) := by
          have hu := h1
          unfold ck_vo at hu
          rw [Bool.or_eq_true, Bool.and_eq_true, Bool.or_eq_true] at h9
          rcases h9 with z | ⟨z | z, z2⟩
          · rw [eq_of_beq z] at hu
            exact Or.inr ⟨hu.2.2, by rw [eq_of_beq z]; decide⟩
          · rw [eq_of_beq z] at hu
            rcases hu.2.2 with w | w
            · exact Or.inl ⟨w, eq_of_beq z2⟩
            · exact Or.inr ⟨w, by rw [eq_of_beq z]; decide⟩
          · rw [eq_of_beq z] at hu
            exact Or.inl ⟨hu.2.2, eq_of_beq z2⟩
        have fin : ∀ (w : Option Nat) (H1 : Heap) (locs1 : List Loc), ck_fo ws sh T (va_rf w) → va_P D cl (ws.set q (a, .inl (cA, td'.2.1, .inr (.inr (.inr (.inr (va_up f x.toNatClampNeg w))))))) H1 → va_D A (ws.set q (a, .inl (cA, td'.2.1, .inr (.inr (.inr (.inr (va_up f x.toNatClampNeg w))))))) → va_S A s.heap H1 locs1 → WG (tM M Fc sc.1) s0 p l e R s m args below meth c (ws.set q (a, .inl (cA, td'.2.1, .inr (.inr (.inr (.inr (va_up f x.toNatClampNeg w))))))) sh H1 locs1 (ck_oc R M + S.2.2.2.2.2.1) (ck_os R M + S.2.2.2.2.2.2) Q ((pc + 1), ls, vs2) := by
          intro w H1 locs1 hfo hP1 hD1 hS1
          have hsm : ck_sm (mWr M) t (.inl (cA, td'.2.1, .inr (.inr (.inr (.inr f))))) (.inl (cA, td'.2.1, .inr (.inr (.inr (.inr (va_up f x.toNatClampNeg w)))))) := fun z => absurd (List.contains_iff_mem.mp hwr) z
          have hco : ck_co tys ws sh td' (.inl (cA, td'.2.1, .inr (.inr (.inr (.inr (va_up f x.toNatClampNeg w)))))) := by
            unfold ck_co
            rw [f2]
            refine ⟨cA, C, _, t1, rfl, fun T' hT' j hj => ?_⟩
            rw [hT] at hT'
            have eT := Option.some.inj hT'
            subst eT
            unfold va_up
            split
            · exact hfo
            · exact t3 j hj
          obtain ⟨hw', hx'⟩ := ck_wo_set (Wr := mWr M) hw hq ht hsm f1 hco
          refine ck_g.at (hk _ hcont) ⟨o.1, o.2.1.mv hx', h5.imp fun _ _ z => z.mv hx', fun z hz => ?_, o.2.2.2.2⟩ hw' (hx.tr (fun _ z => z) hx') hP1 hD1 hS1 rfl
          rcases o.2.2.2.1 z hz with q1 | ⟨z0, z1, q1, a1, o1, v1, z2, z3, z4, z5⟩ | ⟨y0, y1, y2, y3, y4, y5, q1, a1, cA1, len1, f1, y6, y7, y8⟩
          · exact Or.inl q1
          rotate_left
          · refine Or.inr (Or.inr ⟨y0, y1, y2, y3, y4, y5, q1, a1, cA1, len1, f1, y6, ?_, y8⟩)
            rw [List.getElem?_set_ne (fun eq => by rw [eq] at hq; rw [hq] at y7; cases y7)]
            exact y7
          · have eq : q ≠ q1 := by
              intro eq
              subst eq
              rw [hq] at z3
              cases z3
            exact Or.inr (Or.inl ⟨z0, z1, q1, a1, o1, v1, z2, by rw [List.getElem?_set_ne eq]; exact z3, z4, z5.mv hx'⟩)
        rcases hval with ⟨rfl, z3⟩ | ⟨hrf, hne⟩
        · intro lg hl hg
          refine va_astqN X.1 X.2.1 X.2.2.2.1 hP hD hS q _ hq t1 b1 hdg (fun H1 locs1 hP1 hD1 hS1 => fin none H1 locs1 ?_ hP1 hD1 hS1 lg hl (hg.nx X.2.1 hdg ⟨none, x, a, _, rfl, q, _, cA, f, hq, b2, rfl⟩))
          unfold ck_fo
          rw [z3]
          exact Or.inl rfl
        · obtain ⟨qk, ak, ek, tk, rfl, k1, k2, k3⟩ := id hrf
          rw [Bool.or_eq_true] at h8
          rcases h8 with z | z
          · exact absurd (eq_of_beq z) hne
          have z := List.all_eq_true.mp z tk k3
          rw [Bool.and_eq_true] at z
          obtain ⟨z6, z7⟩ := z
          split at z7
          · rename_i ud hud
            rw [Bool.and_eq_true] at z7
            obtain ⟨ud', i1, i2⟩ := hw.2.1 qk ak ek tk k1 k2
            have e2 : ud' = ud := Option.some.inj (i1.symm.trans hud)
            subst e2
            unfold ck_co at i2
            rw [eq_of_beq z7.1] at i2
            obtain ⟨fs, rfl, -⟩ := i2
            obtain ⟨cA', E, rc, m1, m2, m3⟩ := hal _ (List.contains_iff_mem.mp z7.2)
            have hfo : ck_fo ws sh T (va_rf (some ak)) := by
              have hrf2 : ck_rf ws sh T.2.2.2 (.ref ak) := ⟨qk, ak, _, tk, rfl, k1, k2, List.contains_iff_mem.mp z6⟩
              unfold ck_fo
              rcases hT23 with w | w <;> rw [w]
              · exact hrf2
              · exact Or.inr hrf2
            have et : (cA', FieldType.object E) = (cA, FieldType.object C) := Option.some.inj (m1.symm.trans t1)
            cases et
            intro lg hl hg
            have hgo : ∀ (H1 : Heap) (locs1 : List Loc), va_P D cl (ws.set q (a, .inl (cA, td'.2.1, .inr (.inr (.inr (.inr (va_up f x.toNatClampNeg (some ak)))))))) H1 → va_D A (ws.set q (a, .inl (cA, td'.2.1, .inr (.inr (.inr (.inr (va_up f x.toNatClampNeg (some ak)))))))) → va_S A s.heap H1 locs1 → W p l e R s m args below meth c H1 locs1 (ck_oc R M + S.2.2.2.2.2.1) (ck_os R M + S.2.2.2.2.2.2) Q (F0 m (pc + 1) ls vs2) :=
              fun H1 locs1 hP1 hD1 hS1 => fin (some ak) H1 locs1 hfo hP1 hD1 hS1 lg hl (hg.nx X.2.1 hdg ⟨some ak, x, a, _, rfl, q, _, cA, f, hq, b2, rfl⟩)
            rcases m3 with m3 | m3
            · subst m3
              exact va_astq X.1 X.2.1 X.2.2.2.1 hP hD hS q _ qk ud'.2.1 hq t1 k1 m2 b1 hdg hgo
            · exact va_astqO X.1 X.2.1 X.2.2.2.1 hP hD hS q _ qk ud'.2.1 hq t1 m3 k1 m2 b1 hdg hgo
          · cases z7
      · cases h7
    · cases h6
  · cases h
theorem ck_wno (X : ck_cx p l e R s m args below meth c cc own D cl tys M sc A) {ws : va_W} {w : Nat} (hD : va_D A ws) (hw : sc.2.1 = some w) : f_out ws w := by
  obtain ⟨-, cell, -, -, -, -, -, -, hA⟩ := X.2.2.2.2.2.2.2.2.2 w hw
  exact fun q e' hq => hA (hD.2 q _ hq)
theorem ck_wns (X : ck_cx p l e R s m args below meth c cc own D cl tys M sc A) {w : Nat} (hw : sc.2.1 = some w) : f_nsc (tM M Fc sc.1) w := by
  intro L xs h
  obtain ⟨⟨scr, h1, -, -, h2, h3⟩, -⟩ := X.2.2.2.2.2.2.2.2.1 w L xs h
  obtain ⟨-, cell, g1, -, -, g2, -, g3, -⟩ := X.2.2.2.2.2.2.2.2.2 w hw
  have e0 : scr = cell := Option.some.inj (h1.symm.trans g1)
  subst e0
  have a1 := h3 0 (by omega)
  have a2 := g3 0 (by omega)
  rw [a1] at a2
  cases a2
theorem ck_len_ok (X : ck_cx p l e R s m args below meth c cc own D cl tys M sc A) (h : ck_len M S k = true) (hk : ∀ S, k S = true → ck_g Fc s0 p l e R s m args below meth c Q D cl tys M sc A ws0 sh0 S (pc + 1)) (hdg : decode cc pc = .ok (.arraylength, 1)) : ck_g Fc s0 p l e R s m args below meth c Q D cl tys M sc A ws0 sh0 S pc := by
  intro n ws sh H locs ls vs o hw hx hP hD hS
  unfold ck_len at h
  split at h
  · rename_i r st hst
    have o3 := o.2.2.1
    rw [hst] at o3
    obtain ⟨ra, vs2, rfl, h4, h5⟩ := ck_hd o3
    split at h
    · rename_i e5
      have hv := h4
      unfold ck_vo at hv
      rw [e5] at hv
      obtain ⟨hl, b, L, xs, z1, rfl, z2⟩ := hv
      obtain ⟨y1, y2, y3, y4⟩ := X.2.2.2.2.2.2.2.2.1 b L xs z1
      refine WG.up (fun h => va_slen X.1 X.2.1 y1 y2 y3 hS hdg h) X.2.1 hdg (fun lg => ⟨b, _, rfl, Or.inr (Or.inl ⟨L, xs, z1, rfl⟩)⟩) ((hk _ h).at (o.ss ⟨.mi hl ?_, h5⟩) hw hx hP hD hS rfl)
      rw [z2, Int32.toInt_ofNat_of_lt y4]
    · split at h
      · rename_i e6
        have hv := h4
        unfold ck_vo at hv
        rw [e6] at hv
        obtain ⟨hl, w, z1, rfl⟩ := hv
        obtain ⟨-, y1⟩ := X.2.2.2.2.2.2.2.2.2 w z1
        refine WG.up (fun h => va_tlen X.1 X.2.1 y1 hS rfl hdg h) X.2.1 hdg (fun lg => ⟨w, _, rfl, Or.inr (Or.inr ⟨ck_wns X z1, ck_wno X hD z1, rfl⟩)⟩) (ck_push (hk _ h) o hw hx hP hD hS h5 (z := 6) ⟨Int.le_refl _, Int.le_refl _⟩ (fun _ _ _ g1 g2 => .mi g1 ?_))
        rw [g2]
        decide
      · rw [Bool.and_eq_true] at h
        obtain ⟨-, -, q, a, e', t, rfl, hq, ht, htm⟩ := h4.r (eq_of_beq h.1)
        have h6 := h.2
        split at h6
        · rename_i t0 ts hts
          split at h6
          · rename_i td0 htd0
            rw [Bool.and_eq_true, Bool.and_eq_true] at h6
            have hb := of_decide_eq_true h6.1
            have h7 := List.all_eq_true.mp h6.2.1 t htm
            unfold ck_isn at h7
            split at h7
            · rename_i td f1
              rw [Bool.and_eq_true] at h7
              obtain ⟨td', g1, g2⟩ := hw.2.1 q a e' t hq ht
              have e1 : td' = td := Option.some.inj (g1.symm.trans f1)
              subst e1
              have en := eq_of_beq h7.2
              have key : ∃ (cA : ClassId) (y : vp_A) (ty : FieldType), e' = .inl (cA, y) ∧ y.1 = td'.2.1 ∧ tys[td'.2.2.1]? = some (cA, ty) := by
                simp only [Bool.or_eq_true, beq_iff_eq] at h7
                unfold ck_co at g2
                rcases h7.1 with z | z | z | z | z <;> rw [z] at g2
                · obtain ⟨cA, f, t1, rfl, -⟩ := g2
                  exact ⟨cA, _, _, rfl, rfl, t1⟩
                · obtain ⟨cA, f, t1, rfl⟩ := g2
                  exact ⟨cA, _, _, rfl, rfl, t1⟩
                · obtain ⟨cA, C, f, t1, rfl, -⟩ := g2
                  exact ⟨cA, _, _, rfl, rfl, t1⟩
                · obtain ⟨cA, f, t1, rfl, -⟩ := g2
                  exact ⟨cA, _, _, rfl, rfl, t1⟩
                · obtain ⟨cA, f, t1, rfl, -⟩ := g2
                  exact ⟨cA, _, _, rfl, rfl, t1⟩
              obtain ⟨cA, y, ty, rfl, ey, t1⟩ := key
              refine WG.up (fun h => va_alen X.1 X.2.1 X.2.2.2.1 hP q _ hq t1 rfl hdg h) X.2.1 hdg (fun lg => ⟨a, _, rfl, Or.inl ⟨ck_nsc X hD hq, q, cA, y, hq, rfl⟩⟩) (ck_push (hk _ h6.2.2) o hw hx hP hD hS h5 (z := td0.2.1) ⟨Int.le_refl _, Int.le_refl _⟩ (fun _ _ _ g1 g2 => .mi g1 ?_))
              rw [g2, ey, en, Int32.toInt_ofNat_of_lt hb]
            · cases h7
          · cases h6
        · cases h6
  · cases h
theorem ck_sld_ok (X : ck_cx p l e R s m args below meth c cc own D cl tys M sc A) (h : ck_sld M S k = true) (hk : ∀ S, k S = true → ck_g Fc s0 p l e R s m args below meth c Q D cl tys M sc A ws0 sh0 S (pc + 1)) (hdg : decode cc pc = .ok (.iaload, 1)) : ck_g Fc s0 p l e R s m args below meth c Q D cl tys M sc A ws0 sh0 S pc := by
  intro n ws sh H locs ls vs o hw hx hP hD hS
  unfold ck_sld at h
  split at h
  · rename_i i r st hst
    have o3 := o.2.2.1
    rw [hst] at o3
    obtain ⟨iv, vs1, rfl, h2, h3⟩ := ck_hd o3
    obtain ⟨ra, vs2, rfl, h4, h5⟩ := ck_hd h3
    simp only [Bool.and_eq_true] at h
    obtain ⟨hi, hr, b1, b2, h6⟩ := h
    obtain ⟨hl, x, rfl, ex⟩ := h2.i (eq_of_beq hi)
    have hv := h4
    unfold ck_vo at hv
    rw [eq_of_beq hr] at hv
    obtain ⟨-, b, L, xs, z1, rfl, z2⟩ := hv
    obtain ⟨y1, y2, y3, y4⟩ := X.2.2.2.2.2.2.2.2.1 b L xs z1
    have p1 := ck_ent_ok o.2.2.2.2.1 o.2.2.2.2.2 _ _ _ _ b1
    have p2 := ck_ent_ok o.2.2.2.2.1 o.2.2.2.2.2 _ _ _ _ b2
    rw [o.1.2] at p1
    rw [z2] at p2
    have hn : x.toNatClampNeg = x.toInt.toNat := rfl
    have hin : vp_in x L := by
      rintro (z | z)
      · have := Int32.lt_iff_toInt_lt.mp z
        rw [Int32.toInt_zero] at this
        omega
      · omega
    refine WG.up (fun h => va_sld X.1 X.2.1 y1 y2 y3 hS hin hdg h) X.2.1 hdg (fun lg => ⟨x, b, _, rfl, Or.inr ⟨L, xs, z1, rfl⟩⟩) ?_
    split at h6
    · rename_i mm hmm
      have hm := List.mem_of_find?_eq_some hmm
      have hp := List.find?_some hmm
      simp only [Bool.and_eq_true, beq_iff_eq] at hp
      rcases o.2.2.2.1 mm hm with ⟨w0, w3, ⟨w2, w1, b', L', xs', w4, w5⟩ | ⟨w2, -⟩⟩ | ⟨w0, -⟩ | ⟨-, w0, -⟩
      · rw [z1] at w4
        cases w4
        refine (hk _ h6).at (o.ss ⟨.mi w3 ?_, h5⟩) hw hx hP hD hS rfl
        rw [w5, hp.2.1, ← ex]
        rfl
      · rw [hp.2.2] at w2
        cases w2
      · exact absurd hp.1 w0
      · exact absurd hp.1 w0
    · have o' := o.new h5 (tag := 0) (ts := []) (iv := ck_top 32) (rs := []) (x := ((xs x.toNatClampNeg).toInt, .null)) (v := .int (xs x.toNatClampNeg)) (.mi (Nat.lt_succ_self _) (by rw [ck_nx_eq])) (fun _ => ck_r32 _) (fun r hr => by cases hr)
      refine ck_g.at (hk _ h6) ⟨o'.1, o'.2.1, o'.2.2.1, fun z hz => ?_, o'.2.2.2.2⟩ hw hx hP hD hS rfl
      rcases List.mem_cons.mp hz with rfl | hz
      · have hlen : (S.2.2.2.1 ++ [ck_top 32]).length = S.2.2.2.1.length + 1 := by simp
        refine Or.inl ⟨rfl, ?_, Or.inl ⟨rfl, ?_, b, L, xs, z1, ?_⟩⟩
        · show S.2.2.2.1.length < (S.2.2.2.1 ++ [ck_top 32]).length
          omega
        · show i.2.1 < (S.2.2.2.1 ++ [ck_top 32]).length
          omega
        · rw [ck_nx_eq, ck_nx_lt _ hl, ← ex]
          rfl
      · exact o'.2.2.2.1 z hz
  · cases h
theorem ck_wld_ok (X : ck_cx p l e R s m args below meth c cc own D cl tys M sc A) (h : ck_wld M S k = true) (hk : ∀ S, k S = true → ck_g Fc s0 p l e R s m args below meth c Q D cl tys M sc A ws0 sh0 S (pc + 1)) (hdg : decode cc pc = .ok (.laload, 1)) : ck_g Fc s0 p l e R s m args below meth c Q D cl tys M sc A ws0 sh0 S pc := by
  intro n ws sh H locs ls vs o hw hx hP hD hS
  unfold ck_wld at h
  split at h
  · rename_i i r st hst
    have o3 := o.2.2.1
    rw [hst] at o3
    obtain ⟨iv, vs1, rfl, h2, h3⟩ := ck_hd o3
    obtain ⟨ra, vs2, rfl, h4, h5⟩ := ck_hd h3
    simp only [Bool.and_eq_true] at h
    obtain ⟨hi, hr, b1, h6⟩ := h
    obtain ⟨hl, x, rfl, ex⟩ := h2.i (eq_of_beq hi)
    have hv := h4
    unfold ck_vo at hv
    rw [eq_of_beq hr] at hv
    obtain ⟨-, w, z1, rfl⟩ := hv
    obtain ⟨-, y1⟩ := X.2.2.2.2.2.2.2.2.2 w z1
    obtain ⟨c1, c2⟩ := ck_bd_ok o b1 ex
    exact WG.up (fun h => va_tl X.1 X.2.1 y1 hS c1 rfl hdg h) X.2.1 hdg (fun lg => ⟨x, w, _, rfl, Or.inr ⟨ck_wno X hD z1, rfl⟩⟩) (ck_push (hk _ h6) o hw hx hP hD hS h5 (z := (fw_v x.toNatClampNeg).toInt) (ck_r64 _) (fun _ _ _ g1 g2 => .ml g1 (by rw [g2])))
  · cases h
theorem ck_gst_ok (X : ck_cx p l e R s m args below meth c cc own D cl tys M sc A) {i : Nat} (hgl : ck_hs s args own sc i) (hk : ck_g Fc s0 p l e R s m args below meth c Q D cl tys M sc A ws0 sh0 (ck_new S S.2.1 6 [] (1, 0) []) (pc + 3)) (hdg : decode cc pc = .ok (.getstatic i, 3)) : ck_g Fc s0 p l e R s m args below meth c Q D cl tys M sc A ws0 sh0 S pc := by
  intro n ws sh H locs ls vs o hw hx hP hD hS
  obtain ⟨h1, ref, h2, h3⟩ := hgl
  obtain ⟨w, hw1⟩ := Option.isSome_iff_exists.mp h1
  obtain ⟨y1, -⟩ := X.2.2.2.2.2.2.2.2.2 w hw1
  refine WG.up (fun h => va_gets X.1 X.2.1 y1 hS X.2.2.1 h2 h3 hdg h) X.2.1 hdg (fun lg => ⟨w, ck_wno X hD hw1, ck_wns X hw1, rfl⟩) (hk.at (o.new o.2.2.1 (x := (0, .null)) ⟨Nat.lt_succ_self _, w, hw1, rfl⟩ (fun z => absurd z (by decide)) (fun r hr => by cases hr)) hw hx hP hD hS rfl)
theorem ck_mk_ok (X : ck_cx p l e R s m args below meth c cc own D cl tys M sc A) (hnl : ∀ x ∈ mnw M, ck_hn s args own cl (mTT M) x) {i : Nat} (h : ck_mk M i S k = true) (hk : ∀ S, k S = true → ck_g Fc s0 p l e R s m args below meth c Q D cl tys M sc A ws0 sh0 S (pc + 3)) (hdg : decode cc pc = .ok (.new i, 3)) : ck_g Fc s0 p l e R s m args below meth c Q D cl tys M sc A ws0 sh0 S pc := by
  intro n ws sh H locs ls vs o hw hx hP hD hS
  unfold ck_mk at h
  split at h
  · rename_i x hfx
    have hm := List.mem_of_find?_eq_some hfx
    have hp := List.find?_some hfx
    have ei : x.1 = i := eq_of_beq hp
    split at h
    · rename_i td htd
      simp only [Bool.and_eq_true, Bool.not_eq_true', decide_eq_true_eq, beq_iff_eq] at h
      obtain ⟨f1, f2, f3, f4, f5, f6, f7, hcont⟩ := h
      obtain ⟨C, T, Ts, ty, l1, l2, l3, l4, l5, l6, l7, l8⟩ := hnl x hm
      rw [ei] at l4
      have hfs : ∀ j, j < x.2.2.2 → defaultValue (ty j) = vp_V ((List.range x.2.2.2).map fun j => defaultValue (ty j)) j := fun j hj => by simp [vp_V, hj]
      intro lg hlg hgr
      refine va_new X.1 X.2.1 l1 l2 ty l3 X.2.2.1 l4 l5 l6 X.2.2.2.1 hP hD hS X.2.2.2.2.1 l7 hfs (ck_ocl X.2.2.2.2.2.2.1.1 f6) (ck_osl X.2.2.2.2.2.2.1.2 f7) hdg (fun q H1 hP1 hD1 hS1 => ?_)
      rw [Nat.add_assoc (ck_oc R M), Nat.add_assoc (ck_os R M)]
      have hxn : ck_ex (mWr M) ws sh (ws ++ [(q, .inr (x.2.1, (List.range x.2.2.2).map fun j => defaultValue (ty j)))]) (sh ++ [x.2.2.1]) := by
        refine ⟨fun q t ht => ?_, fun q a e t hq ht => ?_⟩
        · rw [List.getElem?_append_left (List.getElem?_eq_some_iff.mp ht).1]; exact ht
        · exact ⟨e, by rw [List.getElem?_append_left (List.getElem?_eq_some_iff.mp hq).1]; exact hq, ck_sm.rf⟩
      have hnewq : (ws ++ [(q, .inr (x.2.1, (List.range x.2.2.2).map fun j => defaultValue (ty j)))] : va_W)[ws.length]? = some (q, .inr (x.2.1, (List.range x.2.2.2).map fun j => defaultValue (ty j))) := by simp
      have hnews : (sh ++ [x.2.2.1])[ws.length]? = some x.2.2.1 := by rw [← hw.1]; simp
      have hsg : x.2.2.1 ∉ mSG M := fun z => by
        rw [List.contains_iff_mem.mpr z] at f5
        cases f5
      have hw' : ck_wo tys (mTT M) (mSG M) (ws ++ [(q, .inr (x.2.1, (List.range x.2.2.2).map fun j => defaultValue (ty j)))]) (sh ++ [x.2.2.1]) := by
        refine ⟨by simp [hw.1], fun r b u t hr ht => ?_, fun t ht r1 r2 h1 h2 => ?_⟩
        · by_cases hlt : r < ws.length
          · rw [List.getElem?_append_left hlt] at hr
            rw [List.getElem?_append_left (by rw [hw.1]; exact hlt)] at ht
            obtain ⟨td', g1, g2⟩ := hw.2.1 r b u t hr ht
            exact ⟨td', g1, g2.mv hxn⟩
          · have er : r = ws.length := by
              have := (List.getElem?_eq_some_iff.mp hr).1
              simp at this
              omega
            subst er
            rw [hnewq] at hr
            rw [hnews] at ht
            cases hr
            cases ht
            refine ⟨td, htd, ?_⟩
            unfold ck_co
            rw [f1]
            refine ⟨_, by rw [f2], by simp [f3], fun j tj hj => ?_⟩
            have hjl : j < x.2.2.2 := by rw [← f3]; exact (List.getElem?_eq_some_iff.mp hj).1
            refine ⟨defaultValue (ty j), by simp [hjl], ?_⟩
            obtain ⟨d1, d2⟩ := l8 td htd j tj hj
            have hd := List.all_eq_true.mp f4 tj (List.mem_of_getElem? hj)
            unfold ck_dft at hd
            unfold ck_fo
            split at hd
            · rename_i e0
              rw [Bool.and_eq_true, decide_eq_true_eq, decide_eq_true_eq] at hd
              rw [e0, d1 e0]
              exact ⟨0, rfl, by rw [Int32.toInt_zero]; exact hd.1, by rw [Int32.toInt_zero]; exact hd.2⟩
            · rename_i e3
              rw [e3, d2 e3]
              exact Or.inl rfl
            · cases hd
        · have key : ∀ r : Nat, (sh ++ [x.2.2.1])[r]? = some t → sh[r]? = some t := by
            intro r hr
            by_cases hlt : r < sh.length
            · rw [List.getElem?_append_left hlt] at hr
              exact hr
            · have er : r = ws.length := by
                have := (List.getElem?_eq_some_iff.mp hr).1
                simp at this
                rw [hw.1] at this hlt
                omega
              subst er
              rw [hnews] at hr
              cases hr
              exact absurd ht hsg
          exact hw.2.2 t ht r1 r2 (key r1 h1) (key r2 h2)
      have hl : (S.2.2.2.1 ++ [((1 : Int), (0 : Int))]).length = S.2.2.2.1.length + 1 := by simp
      refine (hk _ hcont) (ck_nx n S.2.2.2.1.length (0, .ref q)) _ _ H1 locs ls (.ref q :: vs) ⟨⟨?_, ?_⟩, ?_, ⟨?_, ?_⟩, ?_, ?_, ?_⟩ hw' (hx.tr (fun _ z => z) hxn) hP1 hD1 hS1 lg hlg (hgr.nx X.2.1 hdg ⟨q, _, _, _, ty, by rw [← ei]; exact hm, hD1.1, rfl⟩)
      · show 0 < (S.2.2.2.1 ++ [((1 : Int), (0 : Int))]).length
        omega
      · rw [ck_nx_lt 0 o.1.1]; exact o.1.2
      · show ck_lo _ _ sc _ (S.2.2.2.1 ++ [((1 : Int), (0 : Int))]).length _ S.1 ls
        rw [hl]
        exact (o.2.1.mv hxn).up ck_nx_lt (Nat.le_succ _)
      · show ck_vo _ _ sc _ (S.2.2.2.1 ++ [((1 : Int), (0 : Int))]).length _ _
        rw [hl]
        exact ⟨Nat.lt_succ_self _, by rw [ck_nx_eq], ws.length, q, _, x.2.2.1, rfl, hnewq, hnews, List.mem_singleton.mpr rfl⟩
      · show ck_two (ck_vo _ _ sc _ (S.2.2.2.1 ++ [((1 : Int), (0 : Int))]).length) _ _
        rw [hl]
        exact o.2.2.1.imp fun _ _ z => (z.mv hxn).up ck_nx_lt (Nat.le_succ _)
      · show ck_mo _ _ _ sc _ (S.2.2.2.1 ++ [((1 : Int), (0 : Int))]).length _
        rw [hl]
        intro z hz
        obtain ⟨hz1, -⟩ := List.mem_filter.mp hz
        rcases o.2.2.2.1 z hz1 with ⟨w0, w3, ⟨w2, w1, b', L', xs', w4, w5⟩ | ⟨w2, w4⟩⟩ | ⟨z0, z1, q1, a1, o1, v1, z2, z3, z4, z5⟩ | hy
        · exact Or.inl ⟨w0, Nat.lt_succ_of_lt w3, Or.inl ⟨w2, Nat.lt_succ_of_lt w1, b', L', xs', w4, by rw [ck_nx_lt _ w1, ck_nx_lt _ w3]; exact w5⟩⟩
        · exact Or.inl ⟨w0, Nat.lt_succ_of_lt w3, Or.inr ⟨w2, by rw [ck_nx_lt _ w3]; exact w4⟩⟩
        · exact Or.inr (Or.inl ⟨z0, z1, q1, a1, o1, v1, by rw [List.getElem?_append_left (List.getElem?_eq_some_iff.mp z2).1]; exact z2, by rw [List.getElem?_append_left (List.getElem?_eq_some_iff.mp z3).1]; exact z3, z4, (z5.mv hxn).up ck_nx_lt (Nat.le_succ _)⟩)
        · obtain ⟨y0, y1, y2, y3, y4, y5, q1, a1, cA1, len1, f1, y6, y7, y8⟩ := hy
          refine Or.inr (Or.inr ⟨y0, y1, y2, y3, Nat.lt_succ_of_lt y4, fun j hj => Nat.lt_succ_of_lt (y5 j hj), q1, a1, cA1, len1, f1, by rw [List.getElem?_append_left (List.getElem?_eq_some_iff.mp y6).1]; exact y6, by rw [List.getElem?_append_left (List.getElem?_eq_some_iff.mp y7).1]; exact y7, ?_⟩)
          rw [ck_nx_lt _ y4, List.map_congr_left (g := fun j => (n j).1) (fun j hj => by rw [ck_nx_lt _ (y5 j hj)])]
          exact y8
      · exact o.2.2.2.2.1.add (fun z => absurd z (by decide))
      · show ck_ro S.2.2.2.2.1 _ (S.2.2.2.1 ++ [((1 : Int), (0 : Int))]).length
        rw [hl]
        exact o.2.2.2.2.2.up ck_nx_lt (Nat.le_succ _)
    · cases h
  · cases h
end
end
noncomputable section
section
variable {p : Program} {l : Launch} {e : Env} {R : Room} {s : State} {m : MethodId} {args : Array Value} {below : List Frame} {meth : Method} {c : Code} {Q : State → Prop} {cc : ByteArray} {own : String} {D : va_G} {cl : List vw_C} {tys : List (ClassId × FieldType)} {M : ck_Me} {sc : ck_sc} {A : Nat → Prop} {ws0 : va_W} {sh0 : List Nat} {Fc : Nat → Nat × fR} {s0 : fS} {k : ck_S → Bool} {S : ck_S} {pc pc' : Nat}
theorem ck_clof {ws : va_W} {sh : List Nat} (hw : ck_wo tys (mTT M) (mSG M) ws sh) {q a t ci : Nat} {e' : va_E} (hq : ws[q]? = some (a, e')) (ht : sh[q]? = some t) (hci : ck_ty0 M t = some ci) : ∃ fs, e' = .inr (ci, fs) := by
  unfold ck_ty0 at hci
  split at hci
  · rename_i td htd
    split at hci
    · rename_i h0
      have ec := Option.some.inj hci
      subst ec
      obtain ⟨td', g1, g2⟩ := hw.2.1 q a e' t hq ht
      have e1 : td' = td := Option.some.inj (g1.symm.trans htd)
      subst e1
      unfold ck_co at g2
      rw [h0] at g2
      obtain ⟨fs, rfl, -⟩ := g2
      exact ⟨fs, rfl⟩
    · cases hci
  · cases hci
theorem ck_cellof (X : ck_cx p l e R s m args below meth c cc own D cl tys M sc A) {ws : va_W} {sh : List Nat} {H : Heap} (hw : ck_wo tys (mTT M) (mSG M) ws sh) (hP : va_P D cl ws H) {q a t ci : Nat} {e' : va_E} {r : vw_C} (hq : ws[q]? = some (a, e')) (ht : sh[q]? = some t) (hci : ck_ty0 M t = some ci) (hr : cl[ci]? = some r) : ∃ cell : Cell, H[a]? = some cell ∧ cell.vm.isStatics = false ∧ s.vm.findClass r.1 = some cell.cls := by
  unfold ck_ty0 at hci
  split at hci
  · rename_i td htd
    split at hci
    · rename_i h0
      have ec := Option.some.inj hci
      subst ec
      obtain ⟨td', g1, g2⟩ := hw.2.1 q a e' t hq ht
      have e1 : td' = td := Option.some.inj (g1.symm.trans htd)
      subst e1
      unfold ck_co at g2
      rw [h0] at g2
      obtain ⟨fs, rfl, -⟩ := g2
      exact va_recv X.2.2.2.1 hP hr hq
    · cases hci
  · cases hci
theorem ck_ins_ok (X : ck_cx p l e R s m args below meth c cc own D cl tys M sc A) (hil : ∀ x ∈ mil M, ck_hi s args own cl x) {i : Nat} (h : ck_ins M i S k = true) (hk : ∀ S, k S = true → ck_g Fc s0 p l e R s m args below meth c Q D cl tys M sc A ws0 sh0 S (pc + 3)) (hdg : decode cc pc = .ok (.instanceof i, 3)) : ck_g Fc s0 p l e R s m args below meth c Q D cl tys M sc A ws0 sh0 S pc := by
  intro n ws sh H locs ls vs o hw hx hP hD hS
  unfold ck_ins at h
  split at h
  · rename_i r st hst
    have o3 := o.2.2.1
    rw [hst] at o3
    obtain ⟨ra, vs2, rfl, h4, h5⟩ := ck_hd o3
    rw [Bool.and_eq_true, Bool.and_eq_true, Bool.and_eq_true] at h
    obtain ⟨hr2, hall, hY, hN⟩ := h
    obtain ⟨hl, hv, q, a, e', t, rfl, hq, ht, htm⟩ := h4.r (eq_of_beq hr2)
    have os : ck_so (mnL M) (mSG M) (ck_ss S st) n ws sh sc ls vs2 := o.ss h5
    have fin : ∀ (ts : List Nat) (v : Int) (z : Int32), z.toInt = v → t ∈ ts → k (ck_cst (ck_subS r.2.1 (2, r.2.1, ts) (ck_ss S st)) 0 v) = true → WG (tM M Fc sc.1) s0 p l e R s m args below meth c ws sh H locs (ck_oc R M + S.2.2.2.2.2.1) (ck_os R M + S.2.2.2.2.2.2) Q ((pc + 3), ls, (.int z :: vs2)) := by
      intro ts v z hz hts hkk
      have o2 := ck_subS_ok os (s0 := r.2.1) (w := (2, r.2.1, ts)) ⟨hl, rfl, by rw [← hv]; exact ⟨q, a, e', t, rfl, hq, ht, hts⟩⟩
      exact ck_push (S := ck_subS r.2.1 (2, r.2.1, ts) (ck_ss S st)) (hk _ hkk) o2 hw hx hP hD hS o2.2.2.1 ⟨Int.le_refl _, Int.le_refl _⟩ (fun _ _ _ g1 g2 => .mi g1 (by rw [g2]; exact hz))
    by_cases hy : ck_iof M i 1 t = true
    · have hy' := hy
      unfold ck_iof at hy
      split at hy
      · rename_i ci hci
        obtain ⟨rc, nm, m1, m2, m3⟩ := hil _ (List.contains_iff_mem.mp hy)
        obtain ⟨fs, rfl⟩ := ck_clof hw hq ht hci
        have hmil := List.contains_iff_mem.mp hy
        have hcell := ck_cellof X hw hP hq ht hci m1
        have hmem : t ∈ r.2.2.filter (ck_iof M i 1) := List.mem_filter.mpr ⟨htm, hy'⟩
        have hkk : k (ck_cst (ck_subS r.2.1 (2, r.2.1, r.2.2.filter (ck_iof M i 1)) (ck_ss S st)) 0 1) = true := by
          revert hY
          split
          · rename_i z; rw [z] at hmem; cases hmem
          · exact id
        rcases m3 with ⟨-, m3 | m3⟩ | ⟨m3, -⟩
        · subst m3
          exact WG.up (fun h => va_instE X.1 X.2.1 X.2.2.1 m2 hcell hdg h) X.2.1 hdg (fun lg => ⟨a, _, q, ci, 1, fs, rfl, hq, hmil, rfl⟩) (fin _ 1 1 (by decide) hmem hkk)
        · exact WG.up (fun h => va_instY X.1 X.2.1 X.2.2.1 m2 m3 hcell hdg h) X.2.1 hdg (fun lg => ⟨a, _, q, ci, 1, fs, rfl, hq, hmil, rfl⟩) (fin _ 1 1 (by decide) hmem hkk)
        · cases m3
      · cases hy
    · have hn := List.all_eq_true.mp hall t htm
      rw [Bool.or_eq_true] at hn
      have hn := hn.resolve_left hy
      have hmem : t ∈ r.2.2.filter (fun t => !(ck_iof M i 1 t)) := List.mem_filter.mpr ⟨htm, by rw [Bool.not_eq_true'] ; exact Bool.eq_false_iff.mpr hy⟩
      have hkk : k (ck_cst (ck_subS r.2.1 (2, r.2.1, r.2.2.filter (fun t => !(ck_iof M i 1 t))) (ck_ss S st)) 0 0) = true := by
        revert hN
        split
        · rename_i z; rw [z] at hmem; cases hmem
        · exact id
      unfold ck_iof at hn
      split at hn
      · rename_i ci hci
        obtain ⟨rc, nm, m1, m2, m3⟩ := hil _ (List.contains_iff_mem.mp hn)
        obtain ⟨fs, rfl⟩ := ck_clof hw hq ht hci
        have hmil := List.contains_iff_mem.mp hn
        have hcell := ck_cellof X hw hP hq ht hci m1
        rcases m3 with ⟨m3, -⟩ | ⟨-, m3⟩
        · cases m3
        · exact WG.up (fun h => va_instNo X.1 X.2.1 X.2.2.1 m2 m3 hcell hdg h) X.2.1 hdg (fun lg => ⟨a, _, q, ci, 0, fs, rfl, hq, hmil, rfl⟩) (fin _ 0 0 (by decide) hmem hkk)
      · cases hn
  · cases h
theorem ck_cas_ok (X : ck_cx p l e R s m args below meth c cc own D cl tys M sc A) (hxl : ∀ x ∈ mxl M, ck_hx s args own cl x) {i : Nat} (h : ck_cas M i S k = true) (hk : ∀ S, k S = true → ck_g Fc s0 p l e R s m args below meth c Q D cl tys M sc A ws0 sh0 S (pc + 3)) (hdg : decode cc pc = .ok (.checkcast i, 3)) : ck_g Fc s0 p l e R s m args below meth c Q D cl tys M sc A ws0 sh0 S pc := by
  intro n ws sh H locs ls vs o hw hx hP hD hS
  unfold ck_cas at h
  split at h
  · rename_i r st hst
    have o3 := o.2.2.1
    rw [hst] at o3
    obtain ⟨ra, vs2, rfl, h4, h5⟩ := ck_hd o3
    rw [Bool.and_eq_true, Bool.and_eq_true] at h
    obtain ⟨hr2, hall, hkk⟩ := h
    obtain ⟨hl, hv, q, a, e', t, rfl, hq, ht, htm⟩ := h4.r (eq_of_beq hr2)
    have hn := List.all_eq_true.mp hall t htm
    split at hn
    · rename_i ci hci
      obtain ⟨rc, nm, m1, m2, m3⟩ := hxl _ (List.contains_iff_mem.mp hn)
      have hcell := ck_cellof X hw hP hq ht hci m1
      have go : WG (tM M Fc sc.1) s0 p l e R s m args below meth c ws sh H locs (ck_oc R M + S.2.2.2.2.2.1) (ck_os R M + S.2.2.2.2.2.2) Q ((pc + 3), ls, (.ref a :: vs2)) := (hk _ hkk).at o hw hx hP hD hS rfl
      rcases m3 with m3 | m3
      · subst m3
        exact WG.up (fun h => va_castE X.1 X.2.1 X.2.2.1 m2 hcell hdg h) X.2.1 hdg (fun lg => ⟨_, _, rfl, rfl⟩) go
      · exact WG.up (fun h => va_castY X.1 X.2.1 X.2.2.1 m2 m3 hcell hdg h) X.2.1 hdg (fun lg => ⟨_, _, rfl, rfl⟩) go
    · cases hn
  · cases h
end
/-- the call's instruction, by its key: 0 virtual 1 static 2 special -/
def ck_ik (i : Nat) : Instr := match i % 3 with
  | 0 => .invokevirtual (i / 3)
  | 1 => .invokestatic (i / 3)
  | _ => .invokespecial (i / 3)
/-- what a call does, by its contract -/
def ck_cs (Fc : Nat → Nat × fR) (s0 : fS) (p : Program) (l : Launch) (e : Env) (R : Room) (s : State) (m : MethodId) (args : Array Value) (below : List Frame) (meth : Method) (c : Code) (Q : State → Prop) (cc : ByteArray) (D : va_G) (cl : List vw_C) (tys : List (ClassId × FieldType)) (M : ck_Me) (sc : ck_sc) (A : Nat → Prop) (x : Nat × Nat × Nat × ck_C) : Prop :=
  ∀ (pc : Nat) (ls : Array Slot) (n1 : ck_N) (ws : va_W) (sh : List Nat) (H : Heap) (locs : List Loc) (cells slots : Nat) (As rest : List Value), decode cc pc = .ok (ck_ik x.1, 3) → ls.size = mnL M → As.length = x.2.2.1 → (n1 0).1 = 0 →
    ck_po (mSG M) ws sh sc n1 x.2.2.2.1.2.2.1.length x.2.2.2.1 As → (x.2.1 ≠ 0 → ∃ v, As[0]? = some v ∧ ck_rf ws sh [x.2.1] v) → ck_wo tys (mTT M) (mSG M) ws sh → va_P D cl ws H → va_D A ws → va_S A s.heap H locs →
    cells + x.2.2.2.2.2.2.1 ≤ R.cells → slots + x.2.2.2.2.2.2.2 ≤ R.slots → (rest.map fun v => v.category).sum ≤ 8 →
    (∀ P ∈ x.2.2.2.2.1, ∀ (rv : Option Value) (n2 : ck_N) (ws' : va_W) (sh' : List Nat) (H' : Heap) (locs' : List Loc), (∀ k, k < x.2.2.2.1.2.2.1.length → n2 k = n1 k) → ck_wo tys (mTT M) (mSG M) ws' sh' → ck_ex x.2.2.2.2.2.1 ws sh ws' sh' → va_P D cl ws' H' → va_D A ws' → va_S A s.heap H' locs' →
      ck_po (mSG M) ws' sh' sc n2 P.2.2.1.length P rv.toList → WG (tM M Fc sc.1) s0 p l e R s m args below meth c ws' sh' H' locs' (cells + x.2.2.2.2.2.2.1) (slots + x.2.2.2.2.2.2.2) Q (pc + 3, ls, rv.toList ++ rest)) →
    WG (tM M Fc sc.1) s0 p l e R s m args below meth c ws sh H locs cells slots Q (pc, ls, As.reverse ++ rest)
section
variable {p : Program} {l : Launch} {e : Env} {R : Room} {s : State} {m : MethodId} {args : Array Value} {below : List Frame} {meth : Method} {c : Code} {Q : State → Prop} {cc : ByteArray} {own : String} {D : va_G} {cl : List vw_C} {tys : List (ClassId × FieldType)} {M : ck_Me} {sc : ck_sc} {A : Nat → Prop} {ws0 : va_W} {sh0 : List Nat} {Fc : Nat → Nat × fR} {s0 : fS} {S : ck_S} {pc pc' : Nat}
theorem ck_wles_ok {nL : Nat} {SG : List Nat} {n : ck_N} {ws : va_W} {sh : List Nat} {ls : Array Slot} {vs : List Value} {g : List Nat} {N : Nat} {k : ck_S → Bool} : ∀ {rs : List ck_R} {S : ck_S}, ck_wles g N rs S k = true → ck_so nL SG S n ws sh sc ls vs → (∀ r ∈ rs, (n (ck_ren g N r.1)).1 ≤ (n (ck_ren g N r.2.1)).1 + r.2.2) → ∃ S' : ck_S, k S' = true ∧ ck_so nL SG S' n ws sh sc ls vs ∧ ck_kn S S'
  | [], S, h, o, _ => ⟨S, h, o, rfl, rfl, rfl, rfl, rfl⟩
  | r :: rs, S, h, o, hr => by
    rw [ck_wles] at h
    obtain ⟨S1, k1, o1, e1⟩ := ck_wle_ok o h (hr r List.mem_cons_self)
    obtain ⟨S2, k2, o2, e2⟩ := ck_wles_ok k1 o1 (fun r h => hr r (List.mem_cons_of_mem _ h))
    exact ⟨S2, k2, o2, ck_kn.tr e1 e2⟩
/-- a pattern's value in the caller's numbers -/
theorem ck_renV_ok {ws : va_W} {sh : List Nat} {n2 n3 : ck_N} {N N2 N3 : Nat} {g : List Nat} (hn : ∀ k, k < N2 → n3 (ck_ren g N k) = n2 k) (hl : ∀ k, k < N2 → ck_ren g N k < N3) {v : ck_V} (h5 : v.1 < 5) {x : Value} (h : ck_vo ws sh sc n2 N2 v x) : ck_vo ws sh sc n3 N3 (ck_renV g N v) x := by
  unfold ck_vo at h ⊢
  refine ⟨hl _ h.1, ?_⟩
  show match v.1 with
  | 0 => _ | 1 => _ | 2 => _ | 3 => _ | 4 => _ | 5 => _ | 6 => _ | 7 => _ | _ => _
  have e1 : n3 (ck_renV g N v).2.1 = n2 v.2.1 := hn _ h.1
  have e2 : (ck_renV g N v).2.2 = v.2.2 := if_neg (by omega)
  rw [e1, e2]
  have h2 := h.2
  split at h2
  · rename_i e; rw [e]; exact h2
  · rename_i e; rw [e]; exact h2
  · rename_i e; rw [e]; exact h2
  · rename_i e; rw [e]; exact h2
  · rename_i e; rw [e]; exact h2
  · omega
  · omega
  · omega
  · exact h2.elim
end
end
section
section
variable {p : Program} {l : Launch} {e : Env} {R : Room} {s : State} {m : MethodId} {args : Array Value} {below : List Frame} {meth : Method} {c : Code} {Q : State → Prop} {cc : ByteArray} {own : String} {D : va_G} {cl : List vw_C} {tys : List (ClassId × FieldType)} {M : ck_Me} {sc : ck_sc} {A : Nat → Prop} {ws0 : va_W} {sh0 : List Nat} {Fc : Nat → Nat × fR} {s0 : fS} {S : ck_S} {pc pc' : Nat}
theorem ck_aft_ok {nL : Nat} {SG : List Nat} {n n2 : ck_N} {ws ws' : va_W} {sh sh' : List Nat} {ls : Array Slot} {vs rest : List Value} {st : List ck_V} {g : List Nat} {wr : List (Nat × Nat)} {mc ms : Nat} {P : ck_P} {k : ck_S → Bool} {rv : Option Value} (h : ck_aft S st g wr mc ms P k = true)
    (o : ck_so nL SG S n ws sh sc ls vs) (hrest : ck_two (ck_vo ws sh sc n S.2.2.2.1.length) st rest) (hg : ∀ s ∈ g, s < S.2.2.2.1.length) (h1 : P.1.all (fun v => decide (v.1 < 5)) = true) (h2 : P.2.1.all ck_okm = true)
    (hn2 : ∀ k, k < g.length → n2 k = ck_pl g n k) (hx : ck_ex wr ws sh ws' sh') (hpo : ck_po SG ws' sh' sc n2 P.2.2.1.length P rv.toList) :
    ∃ (S' : ck_S) (n3 : ck_N), k S' = true ∧ ck_so nL SG S' n3 ws' sh' sc ls (rv.toList ++ rest) ∧ S'.2.2.2.2.2 = (S.2.2.2.2.2.1 + mc, S.2.2.2.2.2.2 + ms) := by
  obtain ⟨p1, p2, p3, p4⟩ := hpo
  obtain ⟨⟨o0, o00⟩, o1, o2, o3, o4, o5⟩ := o
  generalize hN : S.2.2.2.1.length = N at *
  obtain ⟨n3, hn3⟩ : ∃ n3 : ck_N, n3 = fun k => if k < N then n k else n2 (k - N + g.length) := ⟨_, rfl⟩
  have a1 : ∀ k, k < N → n3 k = n k := fun k hk => by rw [hn3]; exact if_pos hk
  have a2 : ∀ k, N ≤ k → n3 k = n2 (k - N + g.length) := fun k hk => by rw [hn3]; exact if_neg (by omega)
  have hgd : ∀ k, k < g.length → g.getD k 0 < N := fun k hk => by
    rw [List.getD_eq_getElem?_getD, List.getElem?_eq_getElem hk]
    exact hg _ (List.getElem_mem hk)
  have hr : ∀ k, k < P.2.2.1.length → n3 (ck_ren g N k) = n2 k := by
    intro k hk
    unfold ck_ren
    split
    · rename_i q
      rw [a1 _ (hgd k q), hn2 k q]
      rfl
    · rename_i q
      rw [a2 _ (by omega)]
      congr 1
      omega
  have hlE : (S.2.2.2.1 ++ P.2.2.1.drop g.length).length = N + (P.2.2.1.length - g.length) := by simp [hN]
  have hrl : ∀ k, k < P.2.2.1.length → ck_ren g N k < N + (P.2.2.1.length - g.length) := by
    intro k hk
    unfold ck_ren
    split
    · rename_i q
      have := hgd k q
      omega
    · omega
  unfold ck_aft at h
  rw [hN] at h
  have hso : ck_so nL SG (S.1, P.1.map (ck_renV g N) ++ st, P.2.1.map (fun m => (m.1, m.2.1, ck_renV g N m.2.2)) ++ S.2.2.1.filter (fun m => m.1 == 0 || !(wr.contains (m.1, m.2.1))),
      S.2.2.2.1 ++ P.2.2.1.drop g.length, S.2.2.2.2.1, S.2.2.2.2.2.1 + mc, S.2.2.2.2.2.2 + ms) n3 ws' sh' sc ls (rv.toList ++ rest) := by
    unfold ck_so
    dsimp only
    rw [hlE]
    refine ⟨⟨by omega, by rw [a1 0 o0]; exact o00⟩, (o1.mv hx).up a1 (by omega), ?_, ?_, ?_, o5.up a1 (by omega)⟩
    · refine ck_two.app ?_ (hrest.imp fun _ _ z => (z.mv hx).up a1 (by omega))
      have hall : ∀ v ∈ P.1, v.1 < 5 := fun v hv => of_decide_eq_true (List.all_eq_true.mp h1 v hv)
      revert hall p1
      generalize rv.toList = xs
      generalize P.1 = vs
      clear h h1
      intro p1 hall
      induction vs generalizing xs with
      | nil => cases xs with
        | nil => trivial
        | cons _ _ => exact p1.elim
      | cons v vs ih => cases xs with
        | nil => exact p1.elim
        | cons x xs => exact ⟨ck_renV_ok hr hrl (hall v List.mem_cons_self) p1.1, ih xs p1.2 (fun w hw => hall w (List.mem_cons_of_mem _ hw))⟩
    · intro z hz
      rcases List.mem_append.mp hz with hz | hz
      · obtain ⟨y, hy, rfl⟩ := List.mem_map.mp hz
        have hy2 := List.all_eq_true.mp h2 y hy
        unfold ck_okm at hy2
        rw [Bool.and_eq_true, Bool.not_eq_true', beq_eq_false_iff_ne, Bool.or_eq_true, decide_eq_true_eq, decide_eq_true_eq] at hy2
        rcases p2 y hy with ⟨w, -⟩ | ⟨w0, w1, q, a, oo, v, w2, w3, w4, w5⟩ | ⟨w0, w1, w2, w3, w4, w5, q, a, cA, len, f, w6, w7, w8⟩
        · exact absurd w hy2.1
        · refine Or.inr (Or.inl ⟨w0, w1, q, a, oo, v, w2, w3, w4, ck_renV_ok hr hrl ?_ w5⟩)
          rcases hy2.2 with z | z
          · exact z
          · exfalso
            have w5 := w5.2
            split at w5 <;> omega
        · refine Or.inr (Or.inr ⟨w0, w1, w2, w3, hrl _ w4, ?_, q, a, cA, len, f, w6, w7, ?_⟩)
          · intro j hj
            unfold ck_renV at hj
            dsimp only at hj
            rw [if_pos w0] at hj
            obtain ⟨i, hi, rfl⟩ := List.mem_map.mp hj
            exact hrl _ (w5 i hi)
          · unfold ck_renV
            dsimp only
            rw [if_pos w0, hr _ w4, List.map_map, List.map_congr_left (g := fun j => (n2 j).1) (fun j hj => by show (n3 (ck_ren g N j)).1 = _; rw [hr _ (w5 j hj)])]
            exact w8
      · obtain ⟨hz1, hz2⟩ := List.mem_filter.mp hz
        rcases o3 z hz1 with ⟨w0, w3, ⟨w2, w1, b', L', xs', w4, w5⟩ | ⟨w2, w4⟩⟩ | ⟨z0, z1, q1, a1', o1', v1, z2, z3, z4, z5⟩ | hyy
        · exact Or.inl ⟨w0, by omega, Or.inl ⟨w2, by omega, b', L', xs', w4, by rw [a1 _ w1, a1 _ w3]; exact w5⟩⟩
        · exact Or.inl ⟨w0, by omega, Or.inr ⟨w2, by rw [a1 _ w3]; exact w4⟩⟩
        · rw [Bool.or_eq_true] at hz2
          rcases hz2 with hz2 | hz2
          · exact absurd (eq_of_beq hz2) z0
          · have hnw : (z.1, z.2.1) ∉ wr := fun w => by
              rw [List.contains_iff_mem.mpr w] at hz2
              cases hz2
            obtain ⟨e', x1, x2⟩ := hx.2 q1 a1' _ z.1 z3 z2
            cases e' with
            | inl _ => exact x2.elim
            | inr oo => exact Or.inr (Or.inl ⟨z0, z1, q1, a1', oo, v1, hx.1 _ _ z2, x1, by rw [x2.2 _ hnw]; exact z4, (z5.mv hx).up a1 (by omega)⟩)
        · rw [Bool.or_eq_true] at hz2
          rcases hz2 with hz2 | hz2
          · exact absurd (eq_of_beq hz2) hyy.2.1
          · have hnw : (z.1, z.2.1) ∉ wr := fun w => by
              rw [List.contains_iff_mem.mpr w] at hz2
              cases hz2
            exact ck_mo.up (mem := [z]) (N := N) a1 (by omega) (fun y hy' => by rw [List.mem_singleton.mp hy']; exact Or.inr (Or.inr (ck_mo.mv1 hx hnw hyy))) z List.mem_cons_self
    · intro j y hj hle
      by_cases hjN : j < N
      · rw [List.getElem?_append_left (by rw [hN]; exact hjN)] at hj
        rw [a1 j hjN]
        exact o4 j y hj hle
      · rw [List.getElem?_append_right (by rw [hN]; omega), List.getElem?_drop, hN] at hj
        rw [a2 j (by omega)]
        have e1 : j - N + g.length = g.length + (j - N) := by omega
        rw [e1]
        exact p3 _ y hj hle
  obtain ⟨S', k1, q1, q2⟩ := ck_wles_ok h hso (fun r hrr => by
    obtain ⟨r1, r2, r3⟩ := p4 r hrr
    rw [hr _ r1, hr _ r2]
    exact r3)
  exact ⟨S', n3, k1, q1, q2.2.2.2.2⟩
theorem ck_two_take {α β : Type} {P : α → β → Prop} : ∀ {l : List α} {r : List β} (i : Nat), ck_two P l r → ck_two P (l.take i) (r.take i) ∧ ck_two P (l.drop i) (r.drop i)
  | _, _, 0, h => ⟨trivial, h⟩
  | [], [], _ + 1, _ => ⟨trivial, trivial⟩
  | _ :: _, _ :: _, i + 1, h => by
    obtain ⟨a, b⟩ := ck_two_take i h.2
    exact ⟨⟨h.1, a⟩, b⟩
  | [], _ :: _, _ + 1, h => h.elim
  | _ :: _, [], _ + 1, h => h.elim
theorem ck_two_rev {α β : Type} {P : α → β → Prop} : ∀ {l : List α} {r : List β}, ck_two P l r → ck_two P l.reverse r.reverse
  | [], [], _ => trivial
  | a :: l, b :: r, h => by
    rw [List.reverse_cons, List.reverse_cons]
    exact ck_two.app (ck_two_rev h.2) ⟨h.1, trivial⟩
  | [], _ :: _, h => h.elim
  | _ :: _, [], h => h.elim
theorem ck_two_cat {ws : va_W} {sh : List Nat} {n : ck_N} {N : Nat} : ∀ {l : List ck_V} {r : List Value}, ck_two (ck_vo ws sh sc n N) l r → (r.map fun v => v.category).sum = (l.map ck_cat).sum
  | [], [], _ => rfl
  | a :: l, b :: r, h => by
    rw [List.map_cons, List.map_cons, List.sum_cons, List.sum_cons, ck_two_cat h.2, ck_cat_ok h.1]
  | [], _ :: _, h => h.elim
  | _ :: _, [], h => h.elim
theorem ck_call_ok (X : ck_cx p l e R s m args below meth c cc own D cl tys M sc A) {i t na : Nat} {C : ck_C} {k : ck_S → Bool} (hcs : ck_cs Fc s0 p l e R s m args below meth c Q cc D cl tys M sc A (i, t, na, C)) (h : ck_call (mF M) (mWr M) (mRm M) S na C k = true) (hk : ∀ S, k S = true → ck_g Fc s0 p l e R s m args below meth c Q D cl tys M sc A ws0 sh0 S (pc + 3)) (hdg : decode cc pc = .ok (ck_ik i, 3))
    {n : ck_N} {ws : va_W} {sh : List Nat} {H : Heap} {locs : List Loc} {ls : Array Slot} {vs : List Value} (o : ck_so (mnL M) (mSG M) S n ws sh sc ls vs) (hw : ck_wo tys (mTT M) (mSG M) ws sh) (hx : ck_ex (mWr M) ws0 sh0 ws sh) (hP : va_P D cl ws H) (hD : va_D A ws) (hS : va_S A s.heap H locs)
    (hrec : t ≠ 0 → ∃ v, (vs.take na).reverse[0]? = some v ∧ ck_rf ws sh [t] v) : WG (tM M Fc sc.1) s0 p l e R s m args below meth c ws sh H locs (ck_oc R M + S.2.2.2.2.2.1) (ck_os R M + S.2.2.2.2.2.2) Q (pc, ls, vs) := by
  unfold ck_call at h
  simp only [Bool.and_eq_true, decide_eq_true_eq] at h
  obtain ⟨⟨h1, h2, h3, h4⟩, h5, h6⟩ := h
  split at h6
  · rename_i g hg
    rw [Bool.and_eq_true, decide_eq_true_eq] at h6
    obtain ⟨h7, h8⟩ := h6
    obtain ⟨t1, t2⟩ := ck_two_take na o.2.2.1
    obtain ⟨⟨tl, htl⟩, g2, g3⟩ := ck_mt_ok o hg (ck_two_rev t1) (fun s hs => by rw [List.mem_singleton.mp hs]; exact o.1.1)
    have hlen : (vs.take na).reverse.length = na := by
      have := ck_two.len o.2.2.1
      simp
      omega
    have evs : vs = (vs.take na).reverse.reverse ++ vs.drop na := by rw [List.reverse_reverse, List.take_append_drop]
    rw [h7] at g3
    obtain ⟨lv, hlv, -⟩ := id o.2.1
    have key := hcs pc ls (ck_pl g n) ws sh H locs (ck_oc R M + S.2.2.2.2.2.1) (ck_os R M + S.2.2.2.2.2.2) (vs.take na).reverse (vs.drop na) hdg hlv.1 hlen (by rw [htl]; exact o.1.2) g3 hrec hw hP hD hS
      (ck_ocl X.2.2.2.2.2.2.1.1 h2) (ck_osl X.2.2.2.2.2.2.1.2 h3) (by rw [ck_two_cat t2]; exact h4) ?_
    · rw [← evs] at key
      exact key
    · intro P hP' rv n2 ws' sh' H' locs' e1 hw' hx' hP1 hD1 hS1 hpo
      have h9 := List.all_eq_true.mp h8 P hP'
      rw [Bool.and_eq_true, Bool.and_eq_true] at h9
      obtain ⟨S', n3, q1, q2, q3⟩ := ck_aft_ok h9.2 o t2 g2 h9.1.1 h9.1.2 (fun k hk => e1 k (by rw [h7] at hk; exact hk)) hx' hpo
      have hfin := hk S' q1 n3 ws' sh' H' locs' ls _ q2 hw' (hx.tr (fun z hz => List.contains_iff_mem.mp (List.all_eq_true.mp h5 z hz)) hx') hP1 hD1 hS1
      rw [q3] at hfin
      rw [Nat.add_assoc (ck_oc R M), Nat.add_assoc (ck_os R M)]
      exact hfin
  · cases h6
theorem ck_inv_ok (X : ck_cx p l e R s m args below meth c cc own D cl tys M sc A) (hvl : ∀ x ∈ mvl M, ck_cs Fc s0 p l e R s m args below meth c Q cc D cl tys M sc A x) {i : Nat} {k : ck_S → Bool} (h : ck_inv M i S k = true) (hk : ∀ S, k S = true → ck_g Fc s0 p l e R s m args below meth c Q D cl tys M sc A ws0 sh0 S (pc + 3)) (hdg : decode cc pc = .ok (ck_ik i, 3)) : ck_g Fc s0 p l e R s m args below meth c Q D cl tys M sc A ws0 sh0 S pc := by
  intro n ws sh H locs ls vs o hw hx hP hD hS
  unfold ck_inv at h
  split at h
  · rename_i x hfx
    have hm := List.mem_of_find?_eq_some hfx
    have hfp := List.find?_some hfx
    have ei : x.1 = i := eq_of_beq hfp
    split at h
    · obtain ⟨y, hym, h⟩ := List.any_eq_true.mp h
      rw [Bool.and_eq_true, Bool.and_eq_true, beq_iff_eq, beq_iff_eq] at h
      obtain ⟨e1, e2, h⟩ := h
      exact ck_call_ok X (hvl y hym) h hk (by rw [e1]; exact hdg) o hw hx hP hD hS (fun z => absurd e2 z)
    · rw [Bool.and_eq_true, decide_eq_true_eq] at h
      obtain ⟨h1, h2⟩ := h
      split at h2
      · rename_i r hr
        rw [Bool.and_eq_true] at h2
        obtain ⟨hr2, hall⟩ := h2
        -- the receiver
        have hpos : x.2.2.1 - 1 < S.2.1.length := (List.getElem?_eq_some_iff.mp hr).1
        obtain ⟨v, hv, hvo⟩ : ∃ v, vs[x.2.2.1 - 1]? = some v ∧ ck_vo ws sh sc n S.2.2.2.1.length r v := by
          have h3 := (ck_two_take (x.2.2.1 - 1) o.2.2.1).2
          have e1 : S.2.1.drop (x.2.2.1 - 1) = r :: S.2.1.drop (x.2.2.1 - 1 + 1) := by
            rw [List.drop_eq_getElem_cons hpos]
            congr 1
            exact Option.some.inj ((List.getElem?_eq_getElem hpos).symm.trans hr)
          rw [e1] at h3
          obtain ⟨v, vs', e2, h4, -⟩ := ck_hd h3
          refine ⟨v, ?_, h4⟩
          have e3 := congrArg (fun l : List Value => l[0]?) e2
          simpa [List.getElem?_drop] using e3
        obtain ⟨hl, hv2, q, a, e', t, rfl, hq, ht, htm⟩ := hvo.r (eq_of_beq hr2)
        have h6 := List.all_eq_true.mp hall t htm
        obtain ⟨y, hym, h6⟩ := List.any_eq_true.mp h6
        · rw [Bool.and_eq_true] at h6
          obtain ⟨hyp, h6⟩ := h6
          simp only [Bool.and_eq_true, beq_iff_eq, Bool.not_eq_true', beq_eq_false_iff_ne, ne_eq] at hyp h6
          obtain ⟨hna, ht0, hcall⟩ := h6
          have hcs := hvl y hym
          have ey : y = (i, t, x.2.2.1, y.2.2.2) := by
            rw [← hyp.1, ← hyp.2, ← hna]
          rw [ey] at hcs
          have hrec : ∀ (vs : List Value), vs[x.2.2.1 - 1]? = some (.ref a) → t ≠ 0 → ∃ v, (vs.take x.2.2.1).reverse[0]? = some v ∧ ck_rf ws sh [t] v := by
            intro vs hvs _
            refine ⟨.ref a, ?_, q, a, e', t, rfl, hq, ht, List.mem_singleton.mpr rfl⟩
            have hlt := (List.getElem?_eq_some_iff.mp hvs).1
            have hlen : (vs.take x.2.2.1).length = x.2.2.1 := by simp; omega
            rw [List.getElem?_reverse (by omega), hlen, List.getElem?_take_of_lt (by omega)]
            exact hvs
          by_cases he : r.2.2 = [t]
          · rw [if_pos he] at hcall
            exact ck_call_ok X hcs hcall hk (by exact hdg) o hw hx hP hD hS (hrec vs hv)
          · rw [if_neg he] at hcall
            have o2 := ck_subS_ok o (s0 := r.2.1) (w := (2, r.2.1, [t])) ⟨hl, rfl, by rw [← hv2]; exact ⟨q, a, e', t, rfl, hq, ht, List.mem_singleton.mpr rfl⟩⟩
            exact ck_call_ok X hcs hcall hk (by exact hdg) o2 hw hx hP hD hS (hrec vs hv)
      · cases h2
  · cases h
end
end
section
section
variable {p : Program} {l : Launch} {e : Env} {R : Room} {s : State} {m : MethodId} {args : Array Value} {below : List Frame} {meth : Method} {c : Code} {Q : State → Prop} {cc : ByteArray} {own : String} {D : va_G} {cl : List vw_C} {tys : List (ClassId × FieldType)} {M : ck_Me} {sc : ck_sc} {A : Nat → Prop} {ws0 : va_W} {sh0 : List Nat} {Fc : Nat → Nat × fR} {s0 : fS} {k : ck_S → Bool} {S : ck_S} {pc pc' : Nat}
theorem ck_isr_ok {ws : va_W} {sh : List Nat} {n : ck_N} {N : Nat} {b : ck_V} {v : Value} (h : ck_isr b = true) (hv : ck_vo ws sh sc n N b v) : v = .null ∨ ∃ x : Nat, v = .ref x := by
  unfold ck_isr at h
  simp only [Bool.or_eq_true, beq_iff_eq] at h
  unfold ck_vo at hv
  rcases h with z | z | z | z <;> rw [z] at hv
  · obtain ⟨-, -, q, a, e', t, rfl, -⟩ := hv
    exact Or.inr ⟨a, rfl⟩
  · rcases hv.2.2 with w | ⟨q, a, e', t, rfl, -⟩
    · exact Or.inl w
    · exact Or.inr ⟨a, rfl⟩
  · exact Or.inl hv.2.2
  · obtain ⟨-, b, L, xs, -, rfl, -⟩ := hv
    exact Or.inr ⟨b, rfl⟩
theorem ck_rem {x y : Int32} : x - x / y * y = x % y := by
  apply Int32.toInt_inj.mp
  rw [Int32.toInt_sub, Int32.toInt_mul, Int32.toInt_div, Int.bmod_mul_bmod, Int.sub_bmod_bmod, Int32.toInt_mod]
  have e : x.toInt - x.toInt.tdiv y.toInt * y.toInt = x.toInt.tmod y.toInt := by rw [Int.tmod_def, Int.mul_comm]
  rw [e, ← Int32.toInt_mod]
  exact Int32.toInt_bmod (x % y)
theorem ck_isr_ne {b : ck_V} (h : ck_isr b = true) : b.1 ≠ 1 := by
  unfold ck_isr at h
  simp only [Bool.or_eq_true, beq_iff_eq] at h
  omega
theorem ck_iinc_ok (X : ck_cx p l e R s m args below meth c cc own D cl tys M sc A) {i : Nat} {c0 : Int} {k : ck_S → Bool} (h : (decide (-32768 ≤ c0 ∧ c0 < 32768) && (decide (i < mnL M) && match ck_look S.1 i with
    | some v => v.1 == 0 && (let S1 := ck_cst S 0 c0
        match ck_binS 32 0 S1 S.2.1 0 v.2.1 S.2.2.2.1.length with
        | some S' => (match S'.2.1 with
          | w :: _ => k (ck_st1 S.1 i w, S.2.1, S'.2.2)
          | [] => false)
        | none => false)
    | none => false)) = true) (hk : ∀ S, k S = true → ck_g Fc s0 p l e R s m args below meth c Q D cl tys M sc A ws0 sh0 S (pc + 3)) (hdg : decode cc pc = .ok (.iinc i c0, 3)) : ck_g Fc s0 p l e R s m args below meth c Q D cl tys M sc A ws0 sh0 S pc := by
  intro n ws sh H locs ls vs o hw hx hP hD hS
  rw [Bool.and_eq_true, Bool.and_eq_true, decide_eq_true_eq, decide_eq_true_eq] at h
  obtain ⟨hc, hi, h⟩ := h
  split at h
  · rename_i v hv
    rw [Bool.and_eq_true] at h
    obtain ⟨h0, h⟩ := h
    obtain ⟨lv, l1, l2⟩ := id o.2.1
    have hv2 := hv
    unfold ck_look at hv
    cases hf : S.1.find? (fun q => q.1 == i) with
    | none => rw [hf] at hv; cases hv
    | some q0 =>
      rw [hf] at hv
      have e1 : q0.2 = v := Option.some.inj hv
      have hm := List.mem_of_find?_eq_some hf
      have hp := List.find?_some hf
      have hi0 : q0.1 = i := eq_of_beq hp
      obtain ⟨y, hy, z1, z2⟩ := ck_two.mem l2 hm
      rw [e1] at z2
      obtain ⟨hlt, x, ex, ex2⟩ := z2.i (eq_of_beq h0)
      obtain ⟨kk, hkk⟩ := List.getElem?_of_mem hy
      have ey : y = (i, .int x) := by rw [← hi0, z1, ← ex]
      rw [ey] at hkk
      dsimp only at h
      split at h
      · rename_i S' hS'
        split at h
        · rename_i w st hst
          have ec : (Int32.ofInt c0).toInt = c0 := Int32.toInt_ofInt_of_le (by omega) (by omega)
          have oc : ck_so (mnL M) (mSG M) (ck_cst S 0 c0) (ck_nx n S.2.2.2.1.length (c0, .null)) ws sh sc ls (.int (Int32.ofInt c0) :: vs) := o.new o.2.2.1 (tag := 0) (ts := []) (iv := (c0, c0)) (rs := []) (x := (c0, .null)) (v := .int (Int32.ofInt c0)) (.mi (Nat.lt_succ_self _) (by rw [ck_nx_eq]; exact ec)) (fun _ => ⟨Int.le_refl _, Int.le_refl _⟩) (fun r hr => by cases hr)
          have hN : (ck_cst S 0 c0).2.2.2.1.length = S.2.2.2.1.length + 1 := by simp [ck_cst, ck_new]
          have hst1 : ck_two (ck_vo ws sh sc (ck_nx n S.2.2.2.1.length (c0, .null)) (ck_cst S 0 c0).2.2.2.1.length) S.2.1 vs := by
            rw [hN]
            exact o.2.2.1.imp fun _ _ z => z.up ck_nx_lt (Nat.le_succ _)
          have na : (ck_nx n S.2.2.2.1.length (c0, .null) v.2.1).1 = x.toInt := by rw [ck_nx_lt _ hlt]; exact ex2.symm
          have nb : (ck_nx n S.2.2.2.1.length (c0, .null) S.2.2.2.1.length).1 = (Int32.ofInt c0).toInt := by rw [ck_nx_eq]; exact ec.symm
          obtain ⟨n', o', ec', q1, q2⟩ := ck_binS_ok oc hst1 hS' (by rw [hN]; omega) (by rw [hN]; omega) (v := .int (x + Int32.ofInt c0)) (Z := (x + Int32.ofInt c0).toInt) (fun ix iy h1 h2 => by
              rw [na] at h1
              rw [nb] at h2
              refine ⟨ck_bin32 0 h1 h2, fun _ he => ?_, (fun z => by cases z), (fun z => by cases z)⟩
              rw [na, nb]
              exact ck_cl_eq (w := 32) (by decide) (r := (x + Int32.ofInt c0).toBitVec) (z := x.toInt + (Int32.ofInt c0).toInt) (x := (ix.1 + iy.1, ix.2 + iy.2)) (Int32.toInt_add _ _) ⟨Int.add_le_add h1.1 h2.1, Int.add_le_add h1.2 h2.2⟩ (ck_cl_in he))
            (fun z => by cases z) (fun z => by cases z) (fun m N k hk hz => .mi hk hz.symm)
          have o2 := o'.2.2.1
          rw [hst] at o2
          obtain ⟨lv', m1, m2⟩ := id o'.2.1
          have hS1 : S'.1 = S.1 := by
            unfold ck_binS at hS'
            split at hS'
            · split at hS'
              · dsimp only at hS'
                split at hS' <;> (have e := Option.some.inj hS'; subst e; rfl)
              · cases hS'
            · cases hS'
          rw [hS1] at m2
          -- the locals' own list, with the values that stand there
          refine WG.st l1 (fun lv0 h0 hs0 kk0 => by
              obtain ⟨k0, hk0⟩ := List.getElem?_of_mem (hs0 _ (List.mem_of_getElem? hkk))
              exact lv_iinc X.1 X.2.1 (v := x + Int32.ofInt c0) hdg h0 hk0 rfl hi rfl kk0) X.2.1 hdg (fun lg hlg => ⟨x, fun w hw => by
              have h1 := hlg.2.2 (i, w) hw
              have h2 := l1.2.2 (i, .int x) (List.mem_of_getElem? hkk)
              rw [h1] at h2
              cases h2
              rfl, rfl⟩) (fun ls' hls' => ?_)
          refine ck_g.at (hk _ h) ⟨o'.1, ?_, ?_, o'.2.2.2⟩ hw hx hP hD hS ec'
          · refine ⟨_, hls', ⟨rfl, o2.1⟩, ?_⟩
            have hall : ck_two (fun (x : Nat × ck_V) (y : Nat × Value) => x.1 = y.1 ∧ ck_vo ws sh sc n' S'.2.2.2.1.length x.2 y.2) S.1 lv := by
              -- two listings of the same locals: by the values that they hold
              have hup : ∀ (a : Nat × ck_V) (b : Nat × Value), (a.1 = b.1 ∧ ck_vo ws sh sc n S.2.2.2.1.length a.2 b.2) → a.1 = b.1 ∧ ck_vo ws sh sc n' S'.2.2.2.1.length a.2 b.2 := by
                rw [hN] at q1 q2
                exact fun a b hab => ⟨hab.1, hab.2.up (fun k hk => by rw [q1 k (by omega), ck_nx_lt k hk]) (by omega)⟩
              exact l2.imp hup
            exact hall.flt ck_flt1
          · rw [hN] at q1 q2
            exact o.2.2.1.imp fun _ _ z => z.up (fun k hk => by rw [q1 k (by omega), ck_nx_lt k hk]) (by dsimp only; omega)
        · cases h
      · cases h
  · cases h
theorem ck_sh_ok {tag : Nat} {T : Type} {mk : T → Value} (hty : ∀ (n : ck_N) (ws : va_W) (sh : List Nat) (N : Nat) (av : ck_V) (v : Value), av.1 = tag → ck_vo ws sh sc n N av v → ∃ x : T, v = mk x) {top : Int × Int} {k : ck_S → Bool} (h : (match S.2.1 with
    | b :: a :: st => b.1 == 0 && (a.1 == tag && k (ck_new S st tag [] top []))
    | _ => false) = true) (hk : ∀ S, k S = true → ck_g Fc s0 p l e R s m args below meth c Q D cl tys M sc A ws0 sh0 S (pc + 1))
    (row : ∀ (ws : va_W) (sh : List Nat) (H : Heap) (locs : List Loc) (ls : Array Slot) (vs : List Value) (x : T) (y : Int32), (∀ (z : Int) (v : Value), ck_in top z → (∀ (ws : va_W) (sh : List Nat) (m : ck_N) (N k : Nat), k < N → (m k).1 = z → ck_vo ws sh sc m N (tag, k, []) v) → WG (tM M Fc sc.1) s0 p l e R s m args below meth c ws sh H locs (ck_oc R M + S.2.2.2.2.2.1) (ck_os R M + S.2.2.2.2.2.2) Q ((pc + 1), ls, (v :: vs))) → WG (tM M Fc sc.1) s0 p l e R s m args below meth c ws sh H locs (ck_oc R M + S.2.2.2.2.2.1) (ck_os R M + S.2.2.2.2.2.2) Q (pc, ls, (.int y :: mk x :: vs))) : ck_g Fc s0 p l e R s m args below meth c Q D cl tys M sc A ws0 sh0 S pc := by
  intro n ws sh H locs ls vs o hw hx hP hD hS
  split at h
  · rename_i b a st hst
    rw [Bool.and_eq_true, Bool.and_eq_true] at h
    have o3 := o.2.2.1
    rw [hst] at o3
    obtain ⟨v, vs1, rfl, h2, h3⟩ := ck_hd o3
    obtain ⟨u, vs2, rfl, h4, h5⟩ := ck_hd h3
    obtain ⟨-, y, rfl, -⟩ := h2.i (eq_of_beq h.1)
    obtain ⟨x, rfl⟩ := hty n ws sh _ a u (eq_of_beq h.2.1) h4
    exact row ws sh H locs ls vs2 x y (fun z v hz hv => ck_push (hk _ h.2.2) o hw hx hP hD hS h5 hz (fun m N k => hv ws sh m N k))
  · cases h
theorem ck_lshl_ok (X : ck_cx p l e R s m args below meth c cc own D cl tys M sc A) {k : ck_S → Bool} (h : (match S.2.1 with
    | b :: a :: st => b.1 == 0 && (a.1 == 1 && (match S.2.2.2.1[a.2.1]?, S.2.2.2.1[b.2.1]? with
      | some x, some y => decide (x.1 ≤ x.2 ∧ y.1 ≤ y.2) && k (ck_new S st 1 [] (ck_bin 64 6 x y) [])
      | _, _ => false))
    | _ => false) = true) (hk : ∀ S, k S = true → ck_g Fc s0 p l e R s m args below meth c Q D cl tys M sc A ws0 sh0 S (pc + 1)) (hdg : decode cc pc = .ok (.lshl, 1)) : ck_g Fc s0 p l e R s m args below meth c Q D cl tys M sc A ws0 sh0 S pc := by
  intro n ws sh H locs ls vs o hw hx hP hD hS
  split at h
  · rename_i b a st hst
    rw [Bool.and_eq_true, Bool.and_eq_true] at h
    have o3 := o.2.2.1
    rw [hst] at o3
    obtain ⟨v, vs1, rfl, h2, h3⟩ := ck_hd o3
    obtain ⟨u, vs2, rfl, h4, h5⟩ := ck_hd h3
    obtain ⟨-, y, rfl, ey⟩ := h2.i (eq_of_beq h.1)
    obtain ⟨-, x, rfl, ex⟩ := h4.j (eq_of_beq h.2.1)
    have h6 := h.2.2
    split at h6
    · rename_i ix iy hix hiy
      rw [Bool.and_eq_true, decide_eq_true_eq] at h6
      have b1 := o.2.2.2.2.1 _ _ hix h6.1.1
      have b2 := o.2.2.2.2.1 _ _ hiy h6.1.2
      rw [← ex] at b1
      rw [← ey] at b2
      exact WG.up (fun hh => lv_lshl X.1 X.2.1 hdg rfl hh) X.2.1 hdg (fun lg => ⟨x, y, _, rfl, rfl⟩) (ck_push (hk _ h6.2) o hw hx hP hD hS h5 (ck_lshl b1 b2) (fun _ _ _ g1 g2 => .ml g1 (by rw [g2])))
    · cases h6
  · cases h
theorem ck_ineg_ok (X : ck_cx p l e R s m args below meth c cc own D cl tys M sc A) {k : ck_S → Bool} (h : (match S.2.1 with
    | a :: st => a.1 == 0 && (match S.2.2.2.1[a.2.1]? with
      | some x => decide (x.1 ≤ x.2) && k (ck_new S st 0 [] (ck_cl 32 (-x.2, -x.1)) [])
      | none => false)
    | _ => false) = true) (hk : ∀ S, k S = true → ck_g Fc s0 p l e R s m args below meth c Q D cl tys M sc A ws0 sh0 S (pc + 1)) (hdg : decode cc pc = .ok (.ineg, 1)) : ck_g Fc s0 p l e R s m args below meth c Q D cl tys M sc A ws0 sh0 S pc := by
  intro n ws sh H locs ls vs o hw hx hP hD hS
  split at h
  · rename_i a st hst
    rw [Bool.and_eq_true] at h
    have o3 := o.2.2.1
    rw [hst] at o3
    obtain ⟨u, vs2, rfl, h4, h5⟩ := ck_hd o3
    obtain ⟨-, x, rfl, ex⟩ := h4.i (eq_of_beq h.1)
    have h6 := h.2
    split at h6
    · rename_i ix hix
      rw [Bool.and_eq_true, decide_eq_true_eq] at h6
      have b1 := o.2.2.2.2.1 _ _ hix h6.1
      rw [← ex] at b1
      refine WG.up (fun hh => lv_ineg X.1 X.2.1 hdg hh) X.2.1 hdg (fun lg => ⟨x, _, rfl, rfl⟩) (ck_push (hk _ h6.2) o hw hx hP hD hS h5 (z := (-x).toInt) (ck_cl_ok (w := 32) (by decide) (r := (-x).toBitVec) (z := -x.toInt) (Int32.toInt_neg x) ⟨?_, ?_⟩) (fun _ _ _ g1 g2 => .mi g1 (by rw [g2])))
      · have := b1.2
        dsimp only
        omega
      · have := b1.1
        dsimp only
        omega
    · cases h6
  · cases h
theorem ck_un_ok {f : ck_V → List ck_V → Bool} (h : ck_un S f = true) {nL : Nat} {SG : List Nat} {n : ck_N} {ws : va_W} {sh : List Nat} {ls : Array Slot} {vs : List Value} (o : ck_so nL SG S n ws sh sc ls vs) : ∃ (av : ck_V) (st : List ck_V) (v : Value) (vs' : List Value), S.2.1 = av :: st ∧ f av st = true ∧ vs = v :: vs' ∧ ck_vo ws sh sc n S.2.2.2.1.length av v ∧ ck_two (ck_vo ws sh sc n S.2.2.2.1.length) st vs' := by
  unfold ck_un at h
  split at h
  · rename_i av st hst
    have o3 := o.2.2.1
    rw [hst] at o3
    obtain ⟨v, vs', rfl, h2, h3⟩ := ck_hd o3
    exact ⟨av, st, v, vs', hst, h, rfl, h2, h3⟩
  · cases h
theorem ck_i2l_ok (X : ck_cx p l e R s m args below meth c cc own D cl tys M sc A) {k : ck_S → Bool} (h : ck_un S (fun v st => v.1 == 0 && k (ck_ss S ((1, v.2.1, []) :: st))) = true) (hk : ∀ S, k S = true → ck_g Fc s0 p l e R s m args below meth c Q D cl tys M sc A ws0 sh0 S (pc + 1)) (hdg : decode cc pc = .ok (.i2l, 1)) : ck_g Fc s0 p l e R s m args below meth c Q D cl tys M sc A ws0 sh0 S pc := by
  intro n ws sh H locs ls vs o hw hx hP hD hS
  obtain ⟨av, st, v, vs', -, h1, rfl, h2, h3⟩ := ck_un_ok h o
  rw [Bool.and_eq_true] at h1
  obtain ⟨hl, x, rfl, ex⟩ := h2.i (eq_of_beq h1.1)
  exact WG.up (fun hh => lv_i2l X.1 X.2.1 hdg rfl hh) X.2.1 hdg (fun lg => ⟨x, _, rfl, rfl⟩) ((hk _ h1.2).at (o.ss ⟨.ml hl (by rw [Int32.toInt_toInt64]; exact ex), h3⟩) hw hx hP hD hS rfl)
theorem ck_l2i_ok (X : ck_cx p l e R s m args below meth c cc own D cl tys M sc A) {k : ck_S → Bool} (h : ck_un S (fun v st => v.1 == 1 && (match S.2.2.2.1[v.2.1]? with
    | some x => decide (x.1 ≤ x.2) && k (if -2147483648 ≤ x.1 ∧ x.2 < 2147483648 then ck_ss S ((0, v.2.1, []) :: st) else ck_new S st 0 [] (ck_top 32) [])
    | none => false)) = true) (hk : ∀ S, k S = true → ck_g Fc s0 p l e R s m args below meth c Q D cl tys M sc A ws0 sh0 S (pc + 1)) (hdg : decode cc pc = .ok (.l2i, 1)) : ck_g Fc s0 p l e R s m args below meth c Q D cl tys M sc A ws0 sh0 S pc := by
  intro n ws sh H locs ls vs o hw hx hP hD hS
  obtain ⟨av, st, v, vs', -, h1, rfl, h2, h3⟩ := ck_un_ok h o
  rw [Bool.and_eq_true] at h1
  obtain ⟨hl, x, rfl, ex⟩ := h2.j (eq_of_beq h1.1)
  have h6 := h1.2
  split at h6
  · rename_i ix hix
    rw [Bool.and_eq_true, decide_eq_true_eq] at h6
    have b1 := o.2.2.2.2.1 _ _ hix h6.1
    rw [← ex] at b1
    refine WG.up (fun hh => lv_l2i X.1 X.2.1 hdg rfl hh) X.2.1 hdg (fun lg => ⟨x, _, rfl, rfl⟩) ?_
    have h7 := h6.2
    split at h7
    · rename_i hr
      refine (hk _ h7).at (o.ss ⟨.mi hl ?_, h3⟩) hw hx hP hD hS rfl
      rw [← ex, Int64.toInt_toInt32]
      have hb := b1.1
      have hb2 := b1.2
      exact Int.bmod_eq_of_le (by omega) (by omega)
    · exact ck_push (hk _ h7) o hw hx hP hD hS h3 (ck_r32 _) (fun _ _ _ g1 g2 => .mi g1 (by rw [g2]))
  · cases h6
theorem ck_i2b_ok (X : ck_cx p l e R s m args below meth c cc own D cl tys M sc A) {k : ck_S → Bool} (h : ck_un S (fun v st => v.1 == 0 && k (ck_new S st 0 [] (-128, 127) [])) = true) (hk : ∀ S, k S = true → ck_g Fc s0 p l e R s m args below meth c Q D cl tys M sc A ws0 sh0 S (pc + 1)) (hdg : decode cc pc = .ok (.i2b, 1)) : ck_g Fc s0 p l e R s m args below meth c Q D cl tys M sc A ws0 sh0 S pc := by
  intro n ws sh H locs ls vs o hw hx hP hD hS
  obtain ⟨av, st, v, vs', -, h1, rfl, h2, h3⟩ := ck_un_ok h o
  rw [Bool.and_eq_true] at h1
  obtain ⟨hl, x, rfl, ex⟩ := h2.i (eq_of_beq h1.1)
  refine WG.up (fun hh => lv_i2b X.1 X.2.1 hdg rfl hh) X.2.1 hdg (fun lg => ⟨x, _, rfl, rfl⟩) (ck_push (hk _ h1.2) o hw hx hP hD hS h3 (z := x.toInt8.toInt32.toInt) ?_ (fun _ _ _ g1 g2 => .mi g1 (by rw [g2])))
  rw [Int8.toInt_toInt32]
  have h1 := Int8.toInt_lt x.toInt8
  have h2 := Int8.le_toInt x.toInt8
  exact ⟨by show -128 ≤ _; omega, by show _ ≤ 127; omega⟩
theorem ck_i2s_ok (X : ck_cx p l e R s m args below meth c cc own D cl tys M sc A) {k : ck_S → Bool} (h : ck_un S (fun v st => v.1 == 0 && k (ck_new S st 0 [] (-32768, 32767) [])) = true) (hk : ∀ S, k S = true → ck_g Fc s0 p l e R s m args below meth c Q D cl tys M sc A ws0 sh0 S (pc + 1)) (hdg : decode cc pc = .ok (.i2s, 1)) : ck_g Fc s0 p l e R s m args below meth c Q D cl tys M sc A ws0 sh0 S pc := by
  intro n ws sh H locs ls vs o hw hx hP hD hS
  obtain ⟨av, st, v, vs', -, h1, rfl, h2, h3⟩ := ck_un_ok h o
  rw [Bool.and_eq_true] at h1
  obtain ⟨hl, x, rfl, ex⟩ := h2.i (eq_of_beq h1.1)
  refine WG.up (fun hh => lv_i2s X.1 X.2.1 hdg rfl hh) X.2.1 hdg (fun lg => ⟨x, _, rfl, rfl⟩) (ck_push (hk _ h1.2) o hw hx hP hD hS h3 (z := x.toInt16.toInt32.toInt) ?_ (fun _ _ _ g1 g2 => .mi g1 (by rw [g2])))
  rw [Int16.toInt_toInt32]
  have h1 := Int16.toInt_lt x.toInt16
  have h2 := Int16.le_toInt x.toInt16
  exact ⟨by show -32768 ≤ _; omega, by show _ ≤ 32767; omega⟩
theorem ck_lcmp_ok (X : ck_cx p l e R s m args below meth c cc own D cl tys M sc A) {k : ck_S → Bool} (h : (match S.2.1 with
    | b :: a :: st => b.1 == 1 && (a.1 == 1 && k (ck_ss S ((7, a.2.1, [b.2.1]) :: st)))
    | _ => false) = true) (hk : ∀ S, k S = true → ck_g Fc s0 p l e R s m args below meth c Q D cl tys M sc A ws0 sh0 S (pc + 1)) (hdg : decode cc pc = .ok (.lcmp, 1)) : ck_g Fc s0 p l e R s m args below meth c Q D cl tys M sc A ws0 sh0 S pc := by
  intro n ws sh H locs ls vs o hw hx hP hD hS
  split at h
  · rename_i b a st hst
    rw [Bool.and_eq_true, Bool.and_eq_true] at h
    have o3 := o.2.2.1
    rw [hst] at o3
    obtain ⟨v, vs1, rfl, h2, h3⟩ := ck_hd o3
    obtain ⟨u, vs2, rfl, h4, h5⟩ := ck_hd h3
    obtain ⟨lb, y, rfl, ey⟩ := h2.j (eq_of_beq h.1)
    obtain ⟨la, x, rfl, ex⟩ := h4.j (eq_of_beq h.2.1)
    exact WG.up (fun hh => W.lcmp X.1 X.2.1 hdg hh) X.2.1 hdg (fun lg => ⟨x, y, _, rfl, rfl⟩) ((hk _ h.2.2).at (o.ss ⟨⟨la, b.2.1, rfl, lb, x, y, rfl, ex, ey⟩, h5⟩) hw hx hP hD hS rfl)
  · cases h
theorem ck_anull_ok (X : ck_cx p l e R s m args below meth c cc own D cl tys M sc A) (hk : ck_g Fc s0 p l e R s m args below meth c Q D cl tys M sc A ws0 sh0 (ck_new S S.2.1 4 [] (1, 0) []) (pc + 1)) (hdg : decode cc pc = .ok (.aconst_null, 1)) : ck_g Fc s0 p l e R s m args below meth c Q D cl tys M sc A ws0 sh0 S pc := by
  intro n ws sh H locs ls vs o hw hx hP hD hS
  exact WG.up (fun hh => lv_null X.1 X.2.1 hdg hh) X.2.1 hdg (fun lg => rfl) (hk.at (o.new o.2.2.1 (x := (0, .null)) ⟨Nat.lt_succ_self _, by rw [ck_nx_eq], rfl⟩ (fun z => absurd z (by decide)) (fun r hr => by cases hr)) hw hx hP hD hS rfl)
theorem ck_dup_ok (X : ck_cx p l e R s m args below meth c cc own D cl tys M sc A) {k : ck_S → Bool} (h : ck_un S (fun v st => ck_cat v == 1 && k (ck_ss S (v :: v :: st))) = true) (hk : ∀ S, k S = true → ck_g Fc s0 p l e R s m args below meth c Q D cl tys M sc A ws0 sh0 S (pc + 1)) (hdg : decode cc pc = .ok (.dup, 1)) : ck_g Fc s0 p l e R s m args below meth c Q D cl tys M sc A ws0 sh0 S pc := by
  intro n ws sh H locs ls vs o hw hx hP hD hS
  obtain ⟨av, st, v, vs', -, h1, rfl, h2, h3⟩ := ck_un_ok h o
  rw [Bool.and_eq_true] at h1
  exact WG.up (fun hh => lv_dup X.1 X.2.1 hdg (by rw [ck_cat_ok h2]; exact eq_of_beq h1.1) hh) X.2.1 hdg (fun lg => ⟨v, _, rfl, rfl⟩) ((hk _ h1.2).at (o.ss ⟨h2, h2, h3⟩) hw hx hP hD hS rfl)
theorem ck_pop_ok (X : ck_cx p l e R s m args below meth c cc own D cl tys M sc A) {k : ck_S → Bool} (h : ck_un S (fun v st => ck_cat v == 1 && k (ck_ss S st)) = true) (hk : ∀ S, k S = true → ck_g Fc s0 p l e R s m args below meth c Q D cl tys M sc A ws0 sh0 S (pc + 1)) (hdg : decode cc pc = .ok (.pop, 1)) : ck_g Fc s0 p l e R s m args below meth c Q D cl tys M sc A ws0 sh0 S pc := by
  intro n ws sh H locs ls vs o hw hx hP hD hS
  obtain ⟨av, st, v, vs', -, h1, rfl, h2, h3⟩ := ck_un_ok h o
  rw [Bool.and_eq_true] at h1
  exact WG.up (fun hh => lv_pop X.1 X.2.1 hdg (by rw [ck_cat_ok h2]; exact eq_of_beq h1.1) hh) X.2.1 hdg (fun lg => ⟨v, _, rfl, rfl⟩) ((hk _ h1.2).at (o.ss h3) hw hx hP hD hS rfl)
theorem ck_pop2_ok (X : ck_cx p l e R s m args below meth c cc own D cl tys M sc A) {k : ck_S → Bool} (h : ck_un S (fun v st => v.1 == 1 && k (ck_ss S st)) = true) (hk : ∀ S, k S = true → ck_g Fc s0 p l e R s m args below meth c Q D cl tys M sc A ws0 sh0 S (pc + 1)) (hdg : decode cc pc = .ok (.pop2, 1)) : ck_g Fc s0 p l e R s m args below meth c Q D cl tys M sc A ws0 sh0 S pc := by
  intro n ws sh H locs ls vs o hw hx hP hD hS
  obtain ⟨av, st, v, vs', -, h1, rfl, h2, h3⟩ := ck_un_ok h o
  rw [Bool.and_eq_true] at h1
  obtain ⟨-, x, rfl, -⟩ := h2.j (eq_of_beq h1.1)
  exact WG.up (fun hh => lv_pop2_2 X.1 X.2.1 hdg rfl hh) X.2.1 hdg (fun lg => ⟨x, _, rfl, rfl⟩) ((hk _ h1.2).at (o.ss h3) hw hx hP hD hS rfl)
theorem ck_dup2_ok (X : ck_cx p l e R s m args below meth c cc own D cl tys M sc A) {k : ck_S → Bool} (h : (match S.2.1 with
    | a :: b :: st => ck_cat a == 1 && (ck_cat b == 1 && k (ck_ss S (a :: b :: a :: b :: st)))
    | _ => false) = true) (hk : ∀ S, k S = true → ck_g Fc s0 p l e R s m args below meth c Q D cl tys M sc A ws0 sh0 S (pc + 1)) (hdg : decode cc pc = .ok (.dup2, 1)) : ck_g Fc s0 p l e R s m args below meth c Q D cl tys M sc A ws0 sh0 S pc := by
  intro n ws sh H locs ls vs o hw hx hP hD hS
  split at h
  · rename_i b a st hst
    rw [Bool.and_eq_true, Bool.and_eq_true] at h
    have o3 := o.2.2.1
    rw [hst] at o3
    obtain ⟨v, vs1, rfl, h2, h3⟩ := ck_hd o3
    obtain ⟨u, vs2, rfl, h4, h5⟩ := ck_hd h3
    exact WG.up (fun hh => lv_dup2_11 X.1 X.2.1 hdg (by rw [ck_cat_ok h2]; exact eq_of_beq h.1) (by rw [ck_cat_ok h4]; exact eq_of_beq h.2.1) hh) X.2.1 hdg (fun lg => ⟨v, u, _, rfl, rfl⟩) ((hk _ h.2.2).at (o.ss ⟨h2, h4, h2, h4, h5⟩) hw hx hP hD hS rfl)
  · cases h
variable {kc : ck_cont}
theorem ck_goto_ok (X : ck_cx p l e R s m args below meth c cc own D cl tys M sc A) {off : Int} (h : ck_tgt pc off (kc S) = true) (hk : ∀ S pc, kc S pc = true → ck_g Fc s0 p l e R s m args below meth c Q D cl tys M sc A ws0 sh0 S pc) (hdg : decode cc pc = .ok (.goto off, 3)) : ck_g Fc s0 p l e R s m args below meth c Q D cl tys M sc A ws0 sh0 S pc := by
  intro n ws sh H locs ls vs o hw hx hP hD hS
  obtain ⟨t, ht, h1⟩ := ck_tgt_ok h
  exact WG.up (fun hh => lv_goto X.1 X.2.1 hdg ht hh) X.2.1 hdg (fun lg => ⟨t, ht, rfl⟩) (hk S t h1 n ws sh H locs ls vs o hw hx hP hD hS)
theorem ck_icmp_ok (X : ck_cx p l e R s m args below meth c cc own D cl tys M sc A) {cd : ClassFile.Cond} {off : Int} (h0 : 0 ≤ (pc : Int) + off) (h : (match S.2.1 with
    | b :: a :: st => b.1 == 0 && (a.1 == 0 && ck_wc (mF M) cd a.2.1 b.2.1 (ck_ss S st) (fun S => ck_tgt pc off (kc S)) (fun S => kc S (pc + 3)))
    | _ => false) = true) (hk : ∀ S pc, kc S pc = true → ck_g Fc s0 p l e R s m args below meth c Q D cl tys M sc A ws0 sh0 S pc) (hdg : decode cc pc = .ok (.if_icmp cd off, 3)) : ck_g Fc s0 p l e R s m args below meth c Q D cl tys M sc A ws0 sh0 S pc := by
  intro n ws sh H locs ls vs o hw hx hP hD hS
  split at h
  · rename_i b a st hst
    rw [Bool.and_eq_true, Bool.and_eq_true] at h
    have o3 := o.2.2.1
    rw [hst] at o3
    obtain ⟨v, vs1, rfl, h2, h3⟩ := ck_hd o3
    obtain ⟨u, vs2, rfl, h4, h5⟩ := ck_hd h3
    obtain ⟨lb, y, rfl, ey⟩ := h2.i (eq_of_beq h.1)
    obtain ⟨la, x, rfl, ex⟩ := h4.i (eq_of_beq h.2.1)
    have os : ck_so (mnL M) (mSG M) (ck_ss S st) n ws sh sc ls vs2 := o.ss h5
    obtain ⟨w1, w2⟩ := ck_wc_ok os h.2.2
    refine ck_row_icmp X.1 X.2.1 hdg (tgt := ((pc : Int) + off).toNat) (by omega) (fun z => ?_) (fun z => ?_)
    · rw [ex, ey] at z
      obtain ⟨S', k1, o', e'⟩ := w1 z
      obtain ⟨t, ht, h1⟩ := ck_tgt_ok k1
      have et : ((pc : Int) + off).toNat = t := by omega
      rw [et]
      exact (hk S' t h1).at o' hw hx hP hD hS e'.2.2.2.2
    · rw [ex, ey] at z
      obtain ⟨S', k1, o', e'⟩ := w2 z
      exact (hk S' _ k1).at o' hw hx hP hD hS e'.2.2.2.2
  · cases h
theorem ck_if_ok (X : ck_cx p l e R s m args below meth c cc own D cl tys M sc A) {cd : ClassFile.Cond} {off : Int} (h0 : 0 ≤ (pc : Int) + off) (h : ck_un S (fun v st => if v.1 = 7 then (match v.2.2 with
      | [b] => ck_wc (mF M) cd v.2.1 b (ck_ss S st) (fun S => ck_tgt pc off (kc S)) (fun S => kc S (pc + 3))
      | _ => false) else v.1 == 0 && ck_wc (mF M) cd v.2.1 0 (ck_ss S st) (fun S => ck_tgt pc off (kc S)) (fun S => kc S (pc + 3))) = true) (hk : ∀ S pc, kc S pc = true → ck_g Fc s0 p l e R s m args below meth c Q D cl tys M sc A ws0 sh0 S pc) (hdg : decode cc pc = .ok (.ifCond cd off, 3)) : ck_g Fc s0 p l e R s m args below meth c Q D cl tys M sc A ws0 sh0 S pc := by
  intro n ws sh H locs ls vs o hw hx hP hD hS
  obtain ⟨av, st, v, vs', -, h1, rfl, h2, h3⟩ := ck_un_ok h o
  have os : ck_so (mnL M) (mSG M) (ck_ss S st) n ws sh sc ls vs' := o.ss h3
  have fin : ∀ (x : Int32) (a b : Nat), v = .int x → (ck_cm cd x.toInt 0 ↔ ck_cm cd (n a).1 (n b).1) → ck_wc (mF M) cd a b (ck_ss S st) (fun S => ck_tgt pc off (kc S)) (fun S => kc S (pc + 3)) = true → WG (tM M Fc sc.1) s0 p l e R s m args below meth c ws sh H locs (ck_oc R M + S.2.2.2.2.2.1) (ck_os R M + S.2.2.2.2.2.2) Q (pc, ls, (v :: vs')) := by
    intro x a b ev hab hwc
    subst ev
    obtain ⟨w1, w2⟩ := ck_wc_ok os hwc
    refine ck_row_if X.1 X.2.1 hdg (tgt := ((pc : Int) + off).toNat) (by omega) (fun z => ?_) (fun z => ?_)
    · obtain ⟨S', k1, o', e'⟩ := w1 (hab.mp z)
      obtain ⟨t, ht, h1⟩ := ck_tgt_ok k1
      have et : ((pc : Int) + off).toNat = t := by omega
      rw [et]
      exact (hk S' t h1).at o' hw hx hP hD hS e'.2.2.2.2
    · obtain ⟨S', k1, o', e'⟩ := w2 (fun q => z (hab.mpr q))
      exact (hk S' _ k1).at o' hw hx hP hD hS e'.2.2.2.2
  split at h1
  · rename_i e7
    have h4 := h2
    unfold ck_vo at h4
    rw [e7] at h4
    obtain ⟨-, k2, e2, -, x, y, ev, ex, ey⟩ := h4
    rw [e2] at h1
    refine fin (lg_cmp x y) av.2.1 k2 ev ?_ h1
    rw [ck_cm_lg, ex, ey]
  · rw [Bool.and_eq_true] at h1
    obtain ⟨-, x, ev, ex⟩ := h2.i (eq_of_beq h1.1)
    refine fin x av.2.1 0 ev ?_ h1.2
    rw [ex, o.1.2]
theorem ck_ifnull_ok (X : ck_cx p l e R s m args below meth c cc own D cl tys M sc A) {off : Int} (h : ck_nul S (fun S => ck_tgt pc off (kc S)) (fun S => kc S (pc + 3)) = true) (hk : ∀ S pc, kc S pc = true → ck_g Fc s0 p l e R s m args below meth c Q D cl tys M sc A ws0 sh0 S pc) (hdg : decode cc pc = .ok (.ifnull off, 3)) : ck_g Fc s0 p l e R s m args below meth c Q D cl tys M sc A ws0 sh0 S pc := by
  intro n ws sh H locs ls vs o hw hx hP hD hS
  obtain ⟨v, vs', S', rfl, o', ec, ⟨rfl, h1⟩ | ⟨⟨a, rfl⟩, h1⟩⟩ := ck_nul_ok h o
  · obtain ⟨t, ht, h2⟩ := ck_tgt_ok h1
    exact WG.up (fun hh => lv_ifnullN X.1 X.2.1 hdg ht hh) X.2.1 hdg (fun lg => ⟨_, _, rfl, Or.inl ⟨rfl, t, ht, rfl⟩⟩) ((hk S' t h2).at o' hw hx hP hD hS ec)
  · exact WG.up (fun hh => lv_ifnull X.1 X.2.1 hdg hh) X.2.1 hdg (fun lg => ⟨_, _, rfl, Or.inr ⟨(fun z => by cases z), rfl⟩⟩) ((hk S' _ h1).at o' hw hx hP hD hS ec)
theorem ck_ifnon_ok (X : ck_cx p l e R s m args below meth c cc own D cl tys M sc A) {off : Int} (h : ck_nul S (fun S => kc S (pc + 3)) (fun S => ck_tgt pc off (kc S)) = true) (hk : ∀ S pc, kc S pc = true → ck_g Fc s0 p l e R s m args below meth c Q D cl tys M sc A ws0 sh0 S pc) (hdg : decode cc pc = .ok (.ifnonnull off, 3)) : ck_g Fc s0 p l e R s m args below meth c Q D cl tys M sc A ws0 sh0 S pc := by
  intro n ws sh H locs ls vs o hw hx hP hD hS
  obtain ⟨v, vs', S', rfl, o', ec, ⟨rfl, h1⟩ | ⟨⟨a, rfl⟩, h1⟩⟩ := ck_nul_ok h o
  · exact WG.up (fun hh => lv_ifnonnullN X.1 X.2.1 hdg hh) X.2.1 hdg (fun lg => ⟨_, _, rfl, Or.inr ⟨fun z => z rfl, rfl⟩⟩) ((hk S' _ h1).at o' hw hx hP hD hS ec)
  · obtain ⟨t, ht, h2⟩ := ck_tgt_ok h1
    exact WG.up (fun hh => lv_ifnonnull X.1 X.2.1 hdg ht hh) X.2.1 hdg (fun lg => ⟨_, _, rfl, Or.inl ⟨(fun z => by cases z), t, ht, rfl⟩⟩) ((hk S' t h2).at o' hw hx hP hD hS ec)
theorem ck_tsw_ok (X : ck_cx p l e R s m args below meth c cc own D cl tys M sc A) {d lo hi : Int} {os : Array Int} {len : Nat} (h : ck_un S (fun v st => v.1 == 0 && (decide (hi = lo + (os.size : Int) - 1) && (ck_sw v.2.1 lo (ck_ss S st) pc kc os.toList &&
      (ck_iv v.2.1 (-2147483648) (lo - 1) (ck_ss S st) (fun S => ck_tgt pc d (kc S)) && ck_iv v.2.1 (hi + 1) 2147483647 (ck_ss S st) (fun S => ck_tgt pc d (kc S)))))) = true) (hk : ∀ S pc, kc S pc = true → ck_g Fc s0 p l e R s m args below meth c Q D cl tys M sc A ws0 sh0 S pc) (hdg : decode cc pc = .ok (.tableswitch d lo hi os, len)) : ck_g Fc s0 p l e R s m args below meth c Q D cl tys M sc A ws0 sh0 S pc := by
  intro n ws sh H locs ls vs o hw hx hP hD hS
  obtain ⟨av, st, v, vs', -, h1, rfl, h2, h3⟩ := ck_un_ok h o
  simp only [Bool.and_eq_true, decide_eq_true_eq] at h1
  obtain ⟨g1, g2, g3, g4, g5⟩ := h1
  obtain ⟨-, x, rfl, ex⟩ := h2.i (eq_of_beq g1)
  have hos : ck_so (mnL M) (mSG M) (ck_ss S st) n ws sh sc ls vs' := o.ss h3
  have r1 := Int32.toInt_lt x
  have r2 := Int32.le_toInt x
  by_cases c1 : x.toInt < lo
  · obtain ⟨S', k1, o', e'⟩ := ck_iv_ok hos g4 (by rw [← ex]; omega) (by rw [← ex]; omega)
    obtain ⟨t, ht, h2⟩ := ck_tgt_ok k1
    exact WG.up (fun hh => lv_tableOut X.1 X.2.1 hdg (Or.inl c1) ht hh) X.2.1 hdg (fun lg => ⟨x, _, rfl, d, t, Or.inl ⟨Or.inl c1, rfl⟩, ht, rfl⟩) ((hk S' t h2).at o' hw hx hP hD hS e'.2.2.2.2)
  · by_cases c2 : hi < x.toInt
    · obtain ⟨S', k1, o', e'⟩ := ck_iv_ok hos g5 (by rw [← ex]; omega) (by rw [← ex]; omega)
      obtain ⟨t, ht, h2⟩ := ck_tgt_ok k1
      exact WG.up (fun hh => lv_tableOut X.1 X.2.1 hdg (Or.inr c2) ht hh) X.2.1 hdg (fun lg => ⟨x, _, rfl, d, t, Or.inl ⟨Or.inr c2, rfl⟩, ht, rfl⟩) ((hk S' t h2).at o' hw hx hP hD hS e'.2.2.2.2)
    · have hj : (x.toInt - lo).toNat < os.size := by omega
      have hoff : os.toList[(x.toInt - lo).toNat]? = some os[(x.toInt - lo).toNat] := by
        rw [Array.getElem?_toList]
        exact Array.getElem?_eq_getElem hj
      have k0 := ck_sw_ok g3 _ _ hoff
      have ej : lo + (((x.toInt - lo).toNat : Nat) : Int) = x.toInt := by omega
      rw [ej] at k0
      obtain ⟨S', k1, o', e'⟩ := ck_iv_ok hos k0 (by rw [← ex]; exact Int.le_refl _) (by rw [← ex]; exact Int.le_refl _)
      obtain ⟨t, ht, h2⟩ := ck_tgt_ok k1
      exact WG.up (fun hh => lv_tableIn X.1 X.2.1 hdg c1 c2 (Array.getElem?_eq_getElem hj) ht hh) X.2.1 hdg (fun lg => ⟨x, _, rfl, os[(x.toInt - lo).toNat], t, Or.inr ⟨c1, c2, Array.getElem?_eq_getElem hj⟩, ht, rfl⟩) ((hk S' t h2).at o' hw hx hP hD hS e'.2.2.2.2)
end
end
noncomputable section
/-- the end's instruction: 0 void 1 int 2 long 3 reference -/
def ck_ri (kd : Nat) : Instr := match kd with
  | 0 => .return_
  | 1 => .ireturn
  | 2 => .lreturn
  | _ => .areturn
def ck_rst (kd : Nat) (S : ck_S) : Prop := match kd with
  | 0 => S.2.1 = []
  | 1 => ∃ v, S.2.1 = [v] ∧ v.1 = 0
  | 2 => ∃ v, S.2.1 = [v] ∧ v.1 = 1
  | _ => ∃ v, S.2.1 = [v] ∧ (v.1 = 2 ∨ (v.1 = 3 ∨ v.1 = 4))
def ck_hk (s : State) (args : Array Value) (own : String) (x : Nat × Nat × Int) : Prop := (x.2.1 = 0 → ∃ v : Int32, v.toInt = x.2.2 ∧ (Cond.constant own x.1 v).before args s = true) ∧ (x.2.1 = 1 → ∃ v : Int64, v.toInt = x.2.2 ∧ (Cond.constantLong own x.1 v).before args s = true)
theorem ck_ik0 (i : Nat) : ck_ik (3 * i) = .invokevirtual i := by
  have h1 : 3 * i % 3 = 0 := by omega
  have h2 : 3 * i / 3 = i := by omega
  unfold ck_ik
  rw [h1, h2]
  rfl
theorem ck_ik1 (i : Nat) : ck_ik (3 * i + 1) = .invokestatic i := by
  have h1 : (3 * i + 1) % 3 = 1 := by omega
  have h2 : (3 * i + 1) / 3 = i := by omega
  unfold ck_ik
  rw [h1, h2]
  rfl
theorem ck_ik2 (i : Nat) : ck_ik (3 * i + 2) = .invokespecial i := by
  have h1 : (3 * i + 2) % 3 = 2 := by omega
  have h2 : (3 * i + 2) / 3 = i := by omega
  unfold ck_ik
  rw [h1, h2]
  rfl
section
variable {p : Program} {l : Launch} {e : Env} {R : Room} {s : State} {m : MethodId} {args : Array Value} {below : List Frame} {meth : Method} {c : Code} {Q : State → Prop} {cc : ByteArray} {own : String} {D : va_G} {cl : List vw_C} {tys : List (ClassId × FieldType)} {M : ck_Me} {sc : ck_sc} {A : Nat → Prop} {ws0 : va_W} {sh0 : List Nat} {Fc : Nat → Nat × fR} {s0 : fS} {kr : Nat → ck_S → Bool} {k : ck_cont} {S : ck_S} {pc : Nat}
theorem ck_step_ok (X : ck_cx p l e R s m args below meth c cc own D cl tys M sc A) (hfl : ∀ x ∈ mfl M, ck_hg s args own cl x) (hpl : ∀ x ∈ mpl M, ck_hp s args own cl (meth.name = "<init>") x) (hnl : ∀ x ∈ mnw M, ck_hn s args own cl (mTT M) x) (hkl : ∀ x ∈ mkl M, ck_hk s args own x) (hil : ∀ x ∈ mil M, ck_hi s args own cl x) (hxl : ∀ x ∈ mxl M, ck_hx s args own cl x) (hal : ∀ x ∈ mal M, ck_ha s tys cl x)
    (hgl : ∀ i ∈ mgl M, ck_hs s args own sc i) (hvl : ∀ x ∈ mvl M, ck_cs Fc s0 p l e R s m args below meth c Q cc D cl tys M sc A x) (hk : ∀ (S : ck_S) (pc : Nat), k S pc = true → ck_g Fc s0 p l e R s m args below meth c Q D cl tys M sc A ws0 sh0 S pc) (hret : ∀ (kd : Nat) (S : ck_S), kr kd S = true → ck_rst kd S → ∀ pc, decode cc pc = .ok (ck_ri kd, 1) → ck_g Fc s0 p l e R s m args below meth c Q D cl tys M sc A ws0 sh0 S pc)
    {ins : Instr} {len : Nat} (h : ck_step M kr k S pc ins len = true) (hdg : decode cc pc = .ok (ins, len)) : ck_g Fc s0 p l e R s m args below meth c Q D cl tys M sc A ws0 sh0 S pc := by
  unfold ck_step at h
  split at h
  · rename_i v
    rw [Bool.and_eq_true] at h
    have el := eq_of_beq h.1
    subst el
    have h := h.2
    rw [Bool.and_eq_true, decide_eq_true_eq] at h
    exact ck_cstI (x := Int32.ofInt v) (Int32.toInt_ofInt_of_le h.1.1 h.1.2) (hk _ _ h.2) (fun ws sh H locs ls vs hW => WG.up (fun hh => lv_iconst X.1 X.2.1 hdg rfl hh) X.2.1 hdg (fun lg => rfl) hW)
  · rename_i v
    rw [Bool.and_eq_true] at h
    have el := eq_of_beq h.1
    subst el
    have h := h.2
    rw [Bool.and_eq_true, decide_eq_true_eq] at h
    exact ck_cstI (x := (Int8.ofInt v).toInt32) (by rw [Int8.toInt_toInt32]; exact Int8.toInt_ofInt_of_le h.1.1 h.1.2) (hk _ _ h.2) (fun ws sh H locs ls vs hW => WG.up (fun hh => lv_bipush X.1 X.2.1 hdg rfl hh) X.2.1 hdg (fun lg => rfl) hW)
  · rename_i v
    rw [Bool.and_eq_true] at h
    have el := eq_of_beq h.1
    subst el
    have h := h.2
    rw [Bool.and_eq_true, decide_eq_true_eq] at h
    exact ck_cstI (x := (Int16.ofInt v).toInt32) (by rw [Int16.toInt_toInt32]; exact Int16.toInt_ofInt_of_le h.1.1 h.1.2) (hk _ _ h.2) (fun ws sh H locs ls vs hW => WG.up (fun hh => lv_sipush X.1 X.2.1 hdg rfl hh) X.2.1 hdg (fun lg => rfl) hW)
  · rename_i v
    rw [Bool.and_eq_true] at h
    have el := eq_of_beq h.1
    subst el
    have h := h.2
    exact ck_cstL (x := Int64.ofNat (v : Nat)) (Int64.toInt_ofNat_of_lt (by have := v.isLt; omega)) (hk _ _ h) (fun ws sh H locs ls vs hW => WG.up (fun hh => lv_lconst X.1 X.2.1 hdg rfl hh) X.2.1 hdg (fun lg => rfl) hW)
  · rw [Bool.and_eq_true] at h
    have el := eq_of_beq h.1
    subst el
    have h := h.2
    split at h
    · rename_i x hfx
      have hm := List.mem_of_find?_eq_some hfx
      have hp := List.find?_some hfx
      rw [Bool.and_eq_true] at hp
      obtain ⟨v, v1, v2⟩ := (hkl x hm).1 (eq_of_beq hp.2)
      rw [eq_of_beq hp.1] at v2
      exact ck_cstI (x := v) v1 (hk _ _ h) (fun ws sh H locs ls vs hW => WG.up (fun hh => lv_ldc X.1 X.2.1 X.2.2.1 v2 hdg hh) X.2.1 hdg (fun lg => ⟨v, by rw [v1, ← eq_of_beq hp.1]; have z : x.2.1 = 0 := eq_of_beq hp.2; rw [← z]; exact hm, rfl⟩) hW)
    · cases h
  · rw [Bool.and_eq_true] at h
    have el := eq_of_beq h.1
    subst el
    have h := h.2
    split at h
    · rename_i x hfx
      have hm := List.mem_of_find?_eq_some hfx
      have hp := List.find?_some hfx
      rw [Bool.and_eq_true] at hp
      obtain ⟨v, v1, v2⟩ := (hkl x hm).1 (eq_of_beq hp.2)
      rw [eq_of_beq hp.1] at v2
      exact ck_cstI (x := v) v1 (hk _ _ h) (fun ws sh H locs ls vs hW => WG.up (fun hh => lv_ldcw X.1 X.2.1 X.2.2.1 v2 hdg hh) X.2.1 hdg (fun lg => ⟨v, by rw [v1, ← eq_of_beq hp.1]; have z : x.2.1 = 0 := eq_of_beq hp.2; rw [← z]; exact hm, rfl⟩) hW)
    · cases h
  · rw [Bool.and_eq_true] at h
    have el := eq_of_beq h.1
    subst el
    have h := h.2
    split at h
    · rename_i x hfx
      have hm := List.mem_of_find?_eq_some hfx
      have hp := List.find?_some hfx
      rw [Bool.and_eq_true] at hp
      obtain ⟨v, v1, v2⟩ := (hkl x hm).2 (eq_of_beq hp.2)
      rw [eq_of_beq hp.1] at v2
      exact ck_cstL (x := v) v1 (hk _ _ h) (fun ws sh H locs ls vs hW => WG.up (fun hh => lv_ldc2 X.1 X.2.1 X.2.2.1 v2 hdg hh) X.2.1 hdg (fun lg => ⟨v, by rw [v1, ← eq_of_beq hp.1]; have z : x.2.1 = 1 := eq_of_beq hp.2; rw [← z]; exact hm, rfl⟩) hW)
    · cases h
  · rw [Bool.and_eq_true] at h
    have el := eq_of_beq h.1
    subst el
    have h := h.2
    exact ck_ld_ok h (fun S hS => hk S _ hS) (fun H locs ls vs av ws sh n N v hok hvo hv hW => by
      obtain ⟨-, x, rfl, -⟩ := hvo.i (eq_of_beq hok)
      exact WG.ld (fun h => lv_iload_n X.1 X.2.1 hdg rfl hv h) hv X.2.1 hdg (fun _ _ h => h) hW)
  · rw [Bool.and_eq_true] at h
    have el := eq_of_beq h.1
    subst el
    have h := h.2
    exact ck_ld_ok h (fun S hS => hk S _ hS) (fun H locs ls vs av ws sh n N v hok hvo hv hW => by
      obtain ⟨-, x, rfl, -⟩ := hvo.i (eq_of_beq hok)
      exact WG.ld (fun h => lv_iload X.1 X.2.1 hdg hv h) hv X.2.1 hdg (fun _ _ h => h) hW)
  · rw [Bool.and_eq_true] at h
    have el := eq_of_beq h.1
    subst el
    have h := h.2
    exact ck_ld_ok h (fun S hS => hk S _ hS) (fun H locs ls vs av ws sh n N v hok hvo hv hW => by
      obtain ⟨-, x, rfl, -⟩ := hvo.j (eq_of_beq hok)
      exact WG.ld (fun h => lv_lload_n X.1 X.2.1 hdg rfl hv h) hv X.2.1 hdg (fun _ _ h => h) hW)
  · rw [Bool.and_eq_true] at h
    have el := eq_of_beq h.1
    subst el
    have h := h.2
    exact ck_ld_ok h (fun S hS => hk S _ hS) (fun H locs ls vs av ws sh n N v hok hvo hv hW => by
      obtain ⟨-, x, rfl, -⟩ := hvo.j (eq_of_beq hok)
      exact WG.ld (fun h => lv_lload X.1 X.2.1 hdg hv h) hv X.2.1 hdg (fun _ _ h => h) hW)
  · rw [Bool.and_eq_true] at h
    have el := eq_of_beq h.1
    subst el
    have h := h.2
    exact ck_ld_ok h (fun S hS => hk S _ hS) (fun H locs ls vs av ws sh n N v hok hvo hv hW => by
      rcases ck_isr_ok hok hvo with rfl | ⟨x, rfl⟩
      · exact WG.ld (fun h => lv_aload_nN X.1 X.2.1 hdg rfl hv h) hv X.2.1 hdg (fun _ _ h => h) hW
      · exact WG.ld (fun h => lv_aload_n X.1 X.2.1 hdg rfl hv h) hv X.2.1 hdg (fun _ _ h => h) hW)
  · rw [Bool.and_eq_true] at h
    have el := eq_of_beq h.1
    subst el
    have h := h.2
    exact ck_ld_ok h (fun S hS => hk S _ hS) (fun H locs ls vs av ws sh n N v hok hvo hv hW => by
      rcases ck_isr_ok hok hvo with rfl | ⟨x, rfl⟩
      · exact WG.ld (fun h => lv_aloadN X.1 X.2.1 hdg hv h) hv X.2.1 hdg (fun _ _ h => h) hW
      · exact WG.ld (fun h => lv_aload X.1 X.2.1 hdg hv h) hv X.2.1 hdg (fun _ _ h => h) hW)
  · rw [Bool.and_eq_true] at h
    have el := eq_of_beq h.1
    subst el
    have h := h.2
    exact ck_sto_ok h (fun v hv => by rw [eq_of_beq hv]; decide) (fun S hS => hk S _ hS) (fun H locs ls vs av ws sh n N v lv hok hvo hl hi kk => by
      obtain ⟨-, x, rfl, -⟩ := hvo.i (eq_of_beq hok)
      exact WG.st hl (fun lv0 h0 _ kk0 => lv_istore_n X.1 X.2.1 hdg rfl h0 hi rfl kk0) X.2.1 hdg (fun _ _ => ⟨_, _, rfl, rfl, rfl⟩) kk)
  · rw [Bool.and_eq_true] at h
    have el := eq_of_beq h.1
    subst el
    have h := h.2
    exact ck_sto_ok h (fun v hv => by rw [eq_of_beq hv]; decide) (fun S hS => hk S _ hS) (fun H locs ls vs av ws sh n N v lv hok hvo hl hi kk => by
      obtain ⟨-, x, rfl, -⟩ := hvo.i (eq_of_beq hok)
      exact WG.st hl (fun lv0 h0 _ kk0 => lv_istore X.1 X.2.1 hdg h0 hi rfl kk0) X.2.1 hdg (fun _ _ => ⟨_, _, rfl, rfl, rfl⟩) kk)
  · rw [Bool.and_eq_true] at h
    have el := eq_of_beq h.1
    subst el
    have h := h.2
    exact ck_sto_ok h (fun v hv => ck_isr_ne hv) (fun S hS => hk S _ hS) (fun H locs ls vs av ws sh n N v lv hok hvo hl hi kk => by
      rcases ck_isr_ok hok hvo with rfl | ⟨x, rfl⟩
      · exact WG.st hl (fun lv0 h0 _ kk0 => lv_astore_nN X.1 X.2.1 hdg rfl h0 hi rfl kk0) X.2.1 hdg (fun _ _ => ⟨_, _, rfl, rfl, rfl⟩) kk
      · exact WG.st hl (fun lv0 h0 _ kk0 => lv_astore_n X.1 X.2.1 hdg rfl h0 hi rfl kk0) X.2.1 hdg (fun _ _ => ⟨_, _, rfl, rfl, rfl⟩) kk)
  · rw [Bool.and_eq_true] at h
    have el := eq_of_beq h.1
    subst el
    have h := h.2
    exact ck_sto_ok h (fun v hv => ck_isr_ne hv) (fun S hS => hk S _ hS) (fun H locs ls vs av ws sh n N v lv hok hvo hl hi kk => by
      rcases ck_isr_ok hok hvo with rfl | ⟨x, rfl⟩
      · exact WG.st hl (fun lv0 h0 _ kk0 => lv_astoreN X.1 X.2.1 hdg h0 hi rfl kk0) X.2.1 hdg (fun _ _ => ⟨_, _, rfl, rfl, rfl⟩) kk
      · exact WG.st hl (fun lv0 h0 _ kk0 => lv_astore X.1 X.2.1 hdg h0 hi rfl kk0) X.2.1 hdg (fun _ _ => ⟨_, _, rfl, rfl, rfl⟩) kk)
  · rw [Bool.and_eq_true] at h
    have el := eq_of_beq h.1
    subst el
    have h := h.2
    exact ck_sto2_ok h (fun S hS => hk S _ hS) (fun ws sh H locs ls vs v lv hl hi kk => WG.st hl (fun lv0 h0 _ kk0 => lv_lstore_n X.1 X.2.1 hdg rfl h0 hi rfl kk0) X.2.1 hdg (fun _ _ => ⟨_, _, rfl, rfl, rfl⟩) kk)
  · rw [Bool.and_eq_true] at h
    have el := eq_of_beq h.1
    subst el
    have h := h.2
    exact ck_sto2_ok h (fun S hS => hk S _ hS) (fun ws sh H locs ls vs v lv hl hi kk => WG.st hl (fun lv0 h0 _ kk0 => lv_lstore X.1 X.2.1 hdg h0 hi rfl kk0) X.2.1 hdg (fun _ _ => ⟨_, _, rfl, rfl, rfl⟩) kk)
  · rw [Bool.and_eq_true] at h
    have el := eq_of_beq h.1
    subst el
    have h := h.2
    exact ck_iinc_ok X h (fun S hS => hk S _ hS) hdg
  · rw [Bool.and_eq_true] at h
    have el := eq_of_beq h.1
    subst el
    have h := h.2
    exact ck_b2i h (fun S hS => hk S _ hS) (fun ws sh H locs ls vs x y _ hW => WG.up (fun hh => lv_iadd X.1 X.2.1 hdg hh) X.2.1 hdg (fun lg => ⟨x, y, _, rfl, rfl⟩) hW)
  · rw [Bool.and_eq_true] at h
    have el := eq_of_beq h.1
    subst el
    have h := h.2
    exact ck_b2i h (fun S hS => hk S _ hS) (fun ws sh H locs ls vs x y _ hW => WG.up (fun hh => lv_isub X.1 X.2.1 hdg hh) X.2.1 hdg (fun lg => ⟨x, y, _, rfl, rfl⟩) hW)
  · rw [Bool.and_eq_true] at h
    have el := eq_of_beq h.1
    subst el
    have h := h.2
    exact ck_b2i h (fun S hS => hk S _ hS) (fun ws sh H locs ls vs x y _ hW => WG.up (fun hh => lv_imul X.1 X.2.1 hdg hh) X.2.1 hdg (fun lg => ⟨x, y, _, rfl, rfl⟩) hW)
  · rw [Bool.and_eq_true] at h
    have el := eq_of_beq h.1
    subst el
    have h := h.2
    exact ck_b2i h (fun S hS => hk S _ hS) (fun ws sh H locs ls vs x y _ hW => WG.up (fun hh => lv_iand X.1 X.2.1 hdg hh) X.2.1 hdg (fun lg => ⟨x, y, _, rfl, rfl⟩) hW)
  · rw [Bool.and_eq_true] at h
    have el := eq_of_beq h.1
    subst el
    have h := h.2
    exact ck_b2i h (fun S hS => hk S _ hS) (fun ws sh H locs ls vs x y _ hW => WG.up (fun hh => lv_ior X.1 X.2.1 hdg hh) X.2.1 hdg (fun lg => ⟨x, y, _, rfl, rfl⟩) hW)
  · rw [Bool.and_eq_true] at h
    have el := eq_of_beq h.1
    subst el
    have h := h.2
    exact ck_b2i h (fun S hS => hk S _ hS) (fun ws sh H locs ls vs x y _ hW => WG.up (fun hh => lv_ixor X.1 X.2.1 hdg hh) X.2.1 hdg (fun lg => ⟨x, y, _, rfl, rfl⟩) hW)
  · rw [Bool.and_eq_true] at h
    have el := eq_of_beq h.1
    subst el
    have h := h.2
    exact ck_b2i h (fun S hS => hk S _ hS) (fun ws sh H locs ls vs x y _ hW => WG.up (fun hh => lv_ishl X.1 X.2.1 hdg hh) X.2.1 hdg (fun lg => ⟨x, y, _, rfl, rfl⟩) hW)
  · rw [Bool.and_eq_true] at h
    have el := eq_of_beq h.1
    subst el
    have h := h.2
    exact ck_b2i h (fun S hS => hk S _ hS) (fun ws sh H locs ls vs x y _ hW => WG.up (fun hh => lv_ishr X.1 X.2.1 hdg hh) X.2.1 hdg (fun lg => ⟨x, y, _, rfl, rfl⟩) hW)
  · rw [Bool.and_eq_true] at h
    have el := eq_of_beq h.1
    subst el
    have h := h.2
    exact ck_b2l (by decide) h (fun S hS => hk S _ hS) (fun ws sh H locs ls vs x y hW => WG.up (fun hh => lv_ladd X.1 X.2.1 hdg hh) X.2.1 hdg (fun lg => ⟨x, y, _, rfl, rfl⟩) hW)
  · rw [Bool.and_eq_true] at h
    have el := eq_of_beq h.1
    subst el
    have h := h.2
    exact ck_b2l (by decide) h (fun S hS => hk S _ hS) (fun ws sh H locs ls vs x y hW => WG.up (fun hh => lv_lsub X.1 X.2.1 hdg hh) X.2.1 hdg (fun lg => ⟨x, y, _, rfl, rfl⟩) hW)
  · rw [Bool.and_eq_true] at h
    have el := eq_of_beq h.1
    subst el
    have h := h.2
    exact ck_b2l (by decide) h (fun S hS => hk S _ hS) (fun ws sh H locs ls vs x y hW => WG.up (fun hh => lv_lmul X.1 X.2.1 hdg hh) X.2.1 hdg (fun lg => ⟨x, y, _, rfl, rfl⟩) hW)
  · rw [Bool.and_eq_true] at h
    have el := eq_of_beq h.1
    subst el
    have h := h.2
    exact ck_b2l (by decide) h (fun S hS => hk S _ hS) (fun ws sh H locs ls vs x y hW => WG.up (fun hh => lv_land X.1 X.2.1 hdg hh) X.2.1 hdg (fun lg => ⟨x, y, _, rfl, rfl⟩) hW)
  · rw [Bool.and_eq_true] at h
    have el := eq_of_beq h.1
    subst el
    have h := h.2
    exact ck_b2l (by decide) h (fun S hS => hk S _ hS) (fun ws sh H locs ls vs x y hW => WG.up (fun hh => lv_lor X.1 X.2.1 hdg hh) X.2.1 hdg (fun lg => ⟨x, y, _, rfl, rfl⟩) hW)
  · rw [Bool.and_eq_true] at h
    have el := eq_of_beq h.1
    subst el
    have h := h.2
    exact ck_b2l (by decide) h (fun S hS => hk S _ hS) (fun ws sh H locs ls vs x y hW => WG.up (fun hh => lv_lxor X.1 X.2.1 hdg hh) X.2.1 hdg (fun lg => ⟨x, y, _, rfl, rfl⟩) hW)
  · rw [Bool.and_eq_true] at h
    have el := eq_of_beq h.1
    subst el
    have h := h.2
    unfold ck_un at h
    split at h
    · rename_i b st hst
      dsimp only at h
      split at h
      · rename_i iv hiv
        rw [Bool.and_eq_true, Bool.and_eq_true, decide_eq_true_eq, decide_eq_true_eq] at h
        refine ck_b2i h.2 (fun S hS => hk S _ hS) (fun ws sh H locs ls vs x y hy hW => WG.up (fun hh => lv_idiv X.1 X.2.1 hdg (fun z => ?_) hh) X.2.1 hdg (fun lg => ⟨x, y, _, rfl, rfl⟩) hW)
        have := hy b st hst iv hiv h.1.2
        rw [z, Int32.toInt_zero] at this
        have h1 := this.1
        have h2 := h.1.1
        omega
      · cases h
    · cases h
  · rw [Bool.and_eq_true] at h
    have el := eq_of_beq h.1
    subst el
    have h := h.2
    unfold ck_un at h
    split at h
    · rename_i b st hst
      dsimp only at h
      split at h
      · rename_i iv hiv
        rw [Bool.and_eq_true, Bool.and_eq_true, decide_eq_true_eq, decide_eq_true_eq] at h
        refine ck_b2i h.2 (fun S hS => hk S _ hS) (fun ws sh H locs ls vs x y hy hW => WG.up (fun hh => lv_irem X.1 X.2.1 hdg (fun z => ?_) (by rw [ck_rem]; exact hh)) X.2.1 hdg (fun lg => ⟨x, y, _, rfl, rfl⟩) hW)
        have := hy b st hst iv hiv h.1.2
        rw [z, Int32.toInt_zero] at this
        have h1 := this.1
        have h2 := h.1.1
        omega
      · cases h
    · cases h
  · rw [Bool.and_eq_true] at h
    have el := eq_of_beq h.1
    subst el
    have h := h.2
    exact ck_sh_ok (tag := 0) (fun n ws sh N av v z hvo => by
        obtain ⟨-, x, rfl, -⟩ := hvo.i z
        exact ⟨x, rfl⟩) h (fun S hS => hk S _ hS) (fun ws sh H locs ls vs x y kk => WG.up (fun hh => lv_iushr X.1 X.2.1 hdg rfl hh) X.2.1 hdg (fun lg => ⟨x, y, _, rfl, rfl⟩) (kk _ _ (ck_r32 _) (fun _ _ _ _ _ g1 g2 => .mi g1 (by rw [g2]))))
  · rw [Bool.and_eq_true] at h
    have el := eq_of_beq h.1
    subst el
    have h := h.2
    exact ck_sh_ok (tag := 1) (fun n ws sh N av v z hvo => by
        obtain ⟨-, x, rfl, -⟩ := hvo.j z
        exact ⟨x, rfl⟩) h (fun S hS => hk S _ hS) (fun ws sh H locs ls vs x y kk => WG.up (fun hh => lv_lushr X.1 X.2.1 hdg rfl hh) X.2.1 hdg (fun lg => ⟨x, y, _, rfl, rfl⟩) (kk _ _ (ck_r64 _) (fun _ _ _ _ _ g1 g2 => .ml g1 (by rw [g2]))))
  · rw [Bool.and_eq_true] at h
    have el := eq_of_beq h.1
    subst el
    have h := h.2
    exact ck_sh_ok (tag := 1) (fun n ws sh N av v z hvo => by
        obtain ⟨-, x, rfl, -⟩ := hvo.j z
        exact ⟨x, rfl⟩) h (fun S hS => hk S _ hS) (fun ws sh H locs ls vs x y kk => WG.up (fun hh => lv_lshr X.1 X.2.1 hdg rfl hh) X.2.1 hdg (fun lg => ⟨x, y, _, rfl, rfl⟩) (kk _ _ (ck_r64 _) (fun _ _ _ _ _ g1 g2 => .ml g1 (by rw [g2]))))
  · rw [Bool.and_eq_true] at h
    have el := eq_of_beq h.1
    subst el
    have h := h.2
    exact ck_lshl_ok X h (fun S hS => hk S _ hS) hdg
  · rw [Bool.and_eq_true] at h
    have el := eq_of_beq h.1
    subst el
    have h := h.2
    exact ck_ineg_ok X h (fun S hS => hk S _ hS) hdg
  · rw [Bool.and_eq_true] at h
    have el := eq_of_beq h.1
    subst el
    have h := h.2
    exact ck_i2l_ok X h (fun S hS => hk S _ hS) hdg
  · rw [Bool.and_eq_true] at h
    have el := eq_of_beq h.1
    subst el
    have h := h.2
    exact ck_l2i_ok X h (fun S hS => hk S _ hS) hdg
  · rw [Bool.and_eq_true] at h
    have el := eq_of_beq h.1
    subst el
    have h := h.2
    exact ck_i2b_ok X h (fun S hS => hk S _ hS) hdg
  · rw [Bool.and_eq_true] at h
    have el := eq_of_beq h.1
    subst el
    have h := h.2
    exact ck_i2s_ok X h (fun S hS => hk S _ hS) hdg
  · rw [Bool.and_eq_true] at h
    have el := eq_of_beq h.1
    subst el
    have h := h.2
    exact ck_lcmp_ok X h (fun S hS => hk S _ hS) hdg
  · rw [Bool.and_eq_true] at h
    have el := eq_of_beq h.1
    subst el
    have h := h.2
    exact ck_anull_ok X (hk _ _ h) hdg
  · rw [Bool.and_eq_true] at h
    have el := eq_of_beq h.1
    subst el
    have h := h.2
    exact ck_dup_ok X h (fun S hS => hk S _ hS) hdg
  · rw [Bool.and_eq_true] at h
    have el := eq_of_beq h.1
    subst el
    have h := h.2
    exact ck_pop_ok X h (fun S hS => hk S _ hS) hdg
  · rw [Bool.and_eq_true] at h
    have el := eq_of_beq h.1
    subst el
    have h := h.2
    exact ck_pop2_ok X h (fun S hS => hk S _ hS) hdg
  · rw [Bool.and_eq_true] at h
    have el := eq_of_beq h.1
    subst el
    have h := h.2
    exact ck_dup2_ok X h (fun S hS => hk S _ hS) hdg
  · rw [Bool.and_eq_true] at h
    have el := eq_of_beq h.1
    subst el
    have h := h.2
    exact ck_goto_ok X h hk hdg
  · rw [Bool.and_eq_true, Bool.and_eq_true, decide_eq_true_eq] at h
    have el := eq_of_beq h.1.1
    subst el
    exact ck_if_ok X h.1.2 h.2 hk hdg
  · rw [Bool.and_eq_true, Bool.and_eq_true, decide_eq_true_eq] at h
    have el := eq_of_beq h.1.1
    subst el
    exact ck_icmp_ok X h.1.2 h.2 hk hdg
  · rw [Bool.and_eq_true] at h
    have el := eq_of_beq h.1
    subst el
    have h := h.2
    exact ck_ifnull_ok X h hk hdg
  · rw [Bool.and_eq_true] at h
    have el := eq_of_beq h.1
    subst el
    have h := h.2
    exact ck_ifnon_ok X h hk hdg
  · exact ck_tsw_ok X h hk hdg
  · rw [Bool.and_eq_true] at h
    have el := eq_of_beq h.1
    subst el
    have h := h.2
    exact ck_get_ok X hfl h (fun S hS => hk S _ hS) hdg
  · rw [Bool.and_eq_true] at h
    have el := eq_of_beq h.1
    subst el
    have h := h.2
    exact ck_put_ok X hpl h (fun S hS => hk S _ hS) hdg
  · rw [Bool.and_eq_true] at h
    have el := eq_of_beq h.1
    subst el
    have h := h.2
    rw [Bool.and_eq_true] at h
    exact ck_gst_ok X (hgl _ (List.contains_iff_mem.mp h.1)) (hk _ _ h.2) hdg
  · rw [Bool.and_eq_true] at h
    have el := eq_of_beq h.1
    subst el
    have h := h.2
    split at h
    · split at h
      · exact ck_sld_ok X h (fun S hS => hk S _ hS) hdg
      · exact ck_iald_ok X h (fun S hS => hk S _ hS) hdg
    · cases h
  · rw [Bool.and_eq_true] at h
    have el := eq_of_beq h.1
    subst el
    have h := h.2
    split at h
    · split at h
      · exact ck_wld_ok X h (fun S hS => hk S _ hS) hdg
      · exact ck_lald_ok X h (fun S hS => hk S _ hS) hdg
    · cases h
  · rw [Bool.and_eq_true] at h
    have el := eq_of_beq h.1
    subst el
    have h := h.2
    exact ck_zald_ok X h (fun S hS => hk S _ hS) hdg
  · rw [Bool.and_eq_true] at h
    have el := eq_of_beq h.1
    subst el
    have h := h.2
    split at h
    · split at h
      · split at h
        · split at h
          · exact ck_aald_ok X h (fun S hS => hk S _ hS) hdg
          · exact ck_aald5_ok X h (fun S hS => hk S _ hS) hdg
        · cases h
      · cases h
    · cases h
  · rw [Bool.and_eq_true] at h
    have el := eq_of_beq h.1
    subst el
    have h := h.2
    exact ck_iast_ok X h (fun S hS => hk S _ hS) hdg
  · rw [Bool.and_eq_true] at h
    have el := eq_of_beq h.1
    subst el
    have h := h.2
    exact ck_last_ok X h (fun S hS => hk S _ hS) hdg
  · rw [Bool.and_eq_true] at h
    have el := eq_of_beq h.1
    subst el
    have h := h.2
    exact ck_zast_ok X h (fun S hS => hk S _ hS) hdg
  · rw [Bool.and_eq_true] at h
    have el := eq_of_beq h.1
    subst el
    have h := h.2
    exact ck_aast_ok X hal h (fun S hS => hk S _ hS) hdg
  · rw [Bool.and_eq_true] at h
    have el := eq_of_beq h.1
    subst el
    have h := h.2
    exact ck_len_ok X h (fun S hS => hk S _ hS) hdg
  · rw [Bool.and_eq_true] at h
    have el := eq_of_beq h.1
    subst el
    have h := h.2
    exact ck_mk_ok X hnl h (fun S hS => hk S _ hS) hdg
  · rw [Bool.and_eq_true] at h
    have el := eq_of_beq h.1
    subst el
    have h := h.2
    exact ck_ins_ok X hil h (fun S hS => hk S _ hS) hdg
  · rw [Bool.and_eq_true] at h
    have el := eq_of_beq h.1
    subst el
    have h := h.2
    exact ck_cas_ok X hxl h (fun S hS => hk S _ hS) hdg
  · rw [Bool.and_eq_true] at h
    have el := eq_of_beq h.1
    subst el
    have h := h.2
    exact ck_inv_ok X hvl h (fun S hS => hk S _ hS) (by rw [ck_ik0]; exact hdg)
  · rw [Bool.and_eq_true] at h
    have el := eq_of_beq h.1
    subst el
    have h := h.2
    exact ck_inv_ok X hvl h (fun S hS => hk S _ hS) (by rw [ck_ik1]; exact hdg)
  · rw [Bool.and_eq_true] at h
    have el := eq_of_beq h.1
    subst el
    have h := h.2
    exact ck_inv_ok X hvl h (fun S hS => hk S _ hS) (by rw [ck_ik2]; exact hdg)
  · rw [Bool.and_eq_true] at h
    have el := eq_of_beq h.1
    subst el
    have h := h.2
    split at h
    · rename_i hst
      exact hret 0 S h hst pc hdg
    · cases h
  · rw [Bool.and_eq_true] at h
    have el := eq_of_beq h.1
    subst el
    have h := h.2
    split at h
    · rename_i v hst
      rw [Bool.and_eq_true] at h
      exact hret 1 S h.2 ⟨v, hst, eq_of_beq h.1⟩ pc hdg
    · cases h
  · rw [Bool.and_eq_true] at h
    have el := eq_of_beq h.1
    subst el
    have h := h.2
    split at h
    · rename_i v hst
      rw [Bool.and_eq_true] at h
      exact hret 2 S h.2 ⟨v, hst, eq_of_beq h.1⟩ pc hdg
    · cases h
  · rw [Bool.and_eq_true] at h
    have el := eq_of_beq h.1
    subst el
    have h := h.2
    split at h
    · rename_i v hst
      rw [Bool.and_eq_true, Bool.or_eq_true, Bool.or_eq_true] at h
      exact hret 3 S h.2 ⟨v, hst, h.1.imp eq_of_beq (fun z => z.imp eq_of_beq eq_of_beq)⟩ pc hdg
    · cases h
  · cases h
end
end
noncomputable section
/-! the run of a method: from its entry, and from each place with a picture, by ranks that fall -/
abbrev ck_cd : Type := List (Nat × Instr × Nat)
def ck_fnd (code : ck_cd) (pc : Nat) : Option (Instr × Nat × ck_cd) := match code.dropWhile (fun y => !(y.1 == pc)) with
  | y :: t => if y.1 = pc then some (y.2.1, y.2.2, t) else none
  | [] => none
def ck_sfx (code suf : ck_cd) (pc : Nat) : Option (Instr × Nat × ck_cd) := match suf with
  | y :: t => if y.1 = pc then some (y.2.1, y.2.2, t) else ck_fnd code pc
  | [] => ck_fnd code pc
theorem ck_fnd_ok {code : ck_cd} {pc : Nat} {i : Instr} {l : Nat} {t : ck_cd} (h : ck_fnd code pc = some (i, l, t)) : (pc, i, l) ∈ code ∧ ∀ x ∈ t, x ∈ code := by
  unfold ck_fnd at h
  split at h
  · rename_i y u hy
    split at h
    · rename_i hp
      have e := Option.some.inj h
      have hs : ∀ x ∈ y :: u, x ∈ code := fun x hx => by
        rw [← hy] at hx
        exact (List.dropWhile_sublist _).subset hx
      cases e
      refine ⟨?_, fun x hx => hs x (List.mem_cons_of_mem _ hx)⟩
      rw [← hp]
      exact hs y List.mem_cons_self
    · cases h
  · cases h
theorem ck_sfx_ok {code suf : ck_cd} {pc : Nat} {i : Instr} {l : Nat} {t : ck_cd} (h : ck_sfx code suf pc = some (i, l, t)) (hs : ∀ x ∈ suf, x ∈ code) : (pc, i, l) ∈ code ∧ ∀ x ∈ t, x ∈ code := by
  unfold ck_sfx at h
  split at h
  · rename_i y u
    split at h
    · rename_i hp
      have e := Option.some.inj h
      cases e
      refine ⟨?_, fun x hx => hs x (List.mem_cons_of_mem _ hx)⟩
      rw [← hp]
      exact hs y List.mem_cons_self
    · exact ck_fnd_ok h
  · exact ck_fnd_ok h
/-- a rank's part, of the number z -/
def ck_rv (a : Nat × Nat × Int) (z : Int) : Nat := match a.1 with
  | 0 => a.2.2.toNat
  | 1 => (a.2.2 - z).toNat
  | _ => (z - a.2.2).toNat
def ck_k (K : ck_K) (j : Nat) : Nat × Nat × Int := K.getD j (0, 0, 0)
def ck_rk (K : ck_K) (z : Nat → Int) : Nat × Nat × Nat := (ck_rv (ck_k K 0) (z 0), ck_rv (ck_k K 1) (z 1), ck_rv (ck_k K 2) (z 2))
def ck_lx (a b : Nat × Nat × Nat) : Prop := a.1 < b.1 ∨ (a.1 = b.1 ∧ (a.2.1 < b.2.1 ∨ (a.2.1 = b.2.1 ∧ a.2.2 < b.2.2)))
theorem ck_lx_ind {P : Nat × Nat × Nat → Prop} (h : ∀ a, (∀ b, ck_lx b a → P b) → P a) : ∀ a, P a := by
  have key : ∀ x y z : Nat, P (x, y, z) := by
    intro x
    induction x using Nat.strongRecOn with
    | ind x ihx =>
      intro y
      induction y using Nat.strongRecOn with
      | ind y ihy =>
        intro z
        induction z using Nat.strongRecOn with
        | ind z ihz =>
          refine h _ fun b hb => ?_
          obtain ⟨b1, b2, b3⟩ := b
          rcases hb with hb | ⟨e1, hb | ⟨e2, hb⟩⟩
          · exact ihx b1 hb b2 b3
          · dsimp only at e1 hb
            subst e1
            exact ihy b2 hb b3
          · dsimp only at e1 e2 hb
            subst e1
            subst e2
            exact ihz b3 hb
  exact fun a => key a.1 a.2.1 a.2.2
def ck_bs (S : ck_S) (j : Nat) : Option Nat := (S.2.2.1.find? (fun m => m.1 == 0 && (m.2.1 == j && m.2.2.1 == 8))).map (fun m => m.2.2.2.1)
/-- the part's number is at least d less -/
def ck_rc (F : Nat) (S : ck_S) (g : List Nat) (j : Nat) (a b : Nat × Nat × Int) (d : Int) : Bool :=
  if a.1 = 0 ∧ b.1 = 0 then decide (b.2.2 + d ≤ a.2.2) else
  if a.1 = 0 ∧ b.1 = 1 then (match g[b.2.1]? with
    | some y => ck_ent S.2.2.2.1 S.2.2.2.2.1 F 0 y (a.2.2 - d - b.2.2)
    | none => false) else
  if a.1 = 0 ∧ b.1 = 2 then (match g[b.2.1]? with
    | some y => ck_ent S.2.2.2.1 S.2.2.2.2.1 F y 0 (a.2.2 - d + b.2.2)
    | none => false) else
  if a.1 = 1 ∧ b.1 = 0 then (match ck_bs S j with
    | some x => ck_ent S.2.2.2.1 S.2.2.2.2.1 F x 0 (a.2.2 - d - b.2.2)
    | none => false) else
  if a.1 = 2 ∧ b.1 = 0 then (match ck_bs S j with
    | some x => ck_ent S.2.2.2.1 S.2.2.2.2.1 F 0 x (-a.2.2 - d - b.2.2)
    | none => false) else
  if a.1 = 1 ∧ b.1 = 1 then (match ck_bs S j, g[b.2.1]? with
    | some x, some y => ck_ent S.2.2.2.1 S.2.2.2.2.1 F x y (a.2.2 - d - b.2.2)
    | _, _ => false) else
  if a.1 = 2 ∧ b.1 = 2 then (match ck_bs S j, g[b.2.1]? with
    | some x, some y => ck_ent S.2.2.2.1 S.2.2.2.2.1 F y x (b.2.2 - a.2.2 - d)
    | _, _ => false) else false
def ck_rp (F : Nat) (S : ck_S) (j : Nat) (a : Nat × Nat × Int) : Bool :=
  if a.1 = 0 then decide (1 ≤ a.2.2) else match ck_bs S j with
    | some x => if a.1 = 1 then ck_ent S.2.2.2.1 S.2.2.2.2.1 F x 0 (a.2.2 - 1) else a.1 == 2 && ck_ent S.2.2.2.1 S.2.2.2.2.1 F 0 x (-a.2.2 - 1)
    | none => false
/-- the part falls -/
def ck_rl (F : Nat) (S : ck_S) (g : List Nat) (j : Nat) (a b : Nat × Nat × Int) : Bool := ck_rc F S g j a b 1 && ck_rp F S j a
/-- the part doesn't grow -/
def ck_re (F : Nat) (S : ck_S) (g : List Nat) (j : Nat) (a b : Nat × Nat × Int) : Bool := ck_rc F S g j a b 0
def ck_lex (F : Nat) (S : ck_S) (g : List Nat) (A B : ck_K) : Bool :=
  ck_rl F S g 0 (ck_k A 0) (ck_k B 0) || (ck_re F S g 0 (ck_k A 0) (ck_k B 0) && (ck_rl F S g 1 (ck_k A 1) (ck_k B 1) || (ck_re F S g 1 (ck_k A 1) (ck_k B 1) && ck_rl F S g 2 (ck_k A 2) (ck_k B 2))))
def ck_gl (loc : List (Nat × ck_V)) : List (Nat × ck_V) → Option (List ck_V)
  | [] => some []
  | x :: l => match ck_look loc x.1, ck_gl loc l with
    | some v, some r => some (v :: r)
    | _, _ => none
def ck_ab (nE : Nat) : List ck_M := (List.range nE).map (fun k => (0, 1000 + k, (8, k, [])))
def ck_hb (S : ck_S) (nE : Nat) : Bool := (ck_ab nE).all (fun x => S.2.2.1.contains x)
def ck_rb (K : ck_K) : List ck_M := [(0, 0, (8, (ck_k K 0).2.1, [])), (0, 1, (8, (ck_k K 1).2.1, [])), (0, 2, (8, (ck_k K 2).2.1, []))]
/-- S is as the picture says, and the rank has fallen -/
def ck_to (F nE : Nat) (cur : Option ck_K) (S : ck_S) (I : ck_I) : Bool := match ck_gl S.1 I.1.1 with
  | some vs => (match ck_mt F S (List.range nE) (vs ++ S.2.1) (I.1.1.map Prod.snd ++ I.1.2.1, I.1.2.2.1, I.1.2.2.2.1, I.1.2.2.2.2.1) with
    | some g => decide (g.length = I.1.2.2.2.1.length) && (ck_hb S nE && (decide (I.1.2.2.2.2.2 = S.2.2.2.2.2) && match cur with
      | some K => ck_lex F S g K I.2
      | none => true))
    | none => false)
  | none => false
/-- places with a step of their own, proved by hand: place, where it goes on, what it makes of a state -/
abbrev ck_spc : Type := List (Nat × Nat × (ck_S → Option (List ck_S)))
def ck_do (M : ck_Me) (kr : Nat → ck_S → Bool) (sp : ck_spc) (code suf : ck_cd) (k : ck_cd → ck_S → Nat → Bool) (S : ck_S) (pc : Nat) : Bool := match sp.find? (fun x => x.1 == pc) with
  | some x => (match x.2.2 S with
    | some L => L.all (fun S' => k code S' x.2.1)
    | none => false)
  | none => match ck_sfx code suf pc with
      | some y => ck_step M kr (fun S pc => k y.2.2 S pc) S pc y.1 y.2.1
      | none => false
def ck_go (M : ck_Me) (kr : Nat → ck_S → Bool) (sp : ck_spc) (code : ck_cd) (ivs : List (Nat × ck_I)) (nE : Nat) (cur : Option ck_K) : Nat → ck_cd → ck_S → Nat → Bool
  | 0, _, _, _ => false
  | f + 1, suf, S, pc => if ivs.any (fun x => x.1 == pc) then ivs.any (fun x => x.1 == pc && ck_to (mF M) nE cur S x.2) else ck_do M kr sp code suf (fun suf S pc => ck_go M kr sp code ivs nE cur f suf S pc) S pc
/-- the state that a picture gives to go on from -/
def ck_si (nE : Nat) (I : ck_I) : ck_S := (I.1.1, I.1.2.1, I.1.2.2.1 ++ (ck_ab nE ++ ck_rb I.2), I.1.2.2.2)
def ck_okI (nE : Nat) (I : ck_I) : Bool := I.1.2.2.1.all (fun m => !(m.1 == 0)) && (decide (nE ≤ I.1.2.2.2.1.length) && (ck_rb I.2).all (fun m => decide (m.2.2.2.1 < I.1.2.2.2.1.length)))
def ck_one (M : ck_Me) (kr : Nat → ck_S → Bool) (sp : ck_spc) (code : ck_cd) (ivs : List (Nat × ck_I)) (nE f : Nat) (x : Nat × ck_I) : Bool := ck_okI nE x.2 && ck_do M kr sp code code (fun suf S pc => ck_go M kr sp code ivs nE (some x.2.2) f suf S pc) (ck_si nE x.2) x.1
def ck_chk (M : ck_Me) (kr : Nat → ck_S → Bool) (sp : ck_spc) (code : ck_cd) (ivs : List (Nat × ck_I)) (nE f : Nat) (S : ck_S) : Bool := ck_go M kr sp code ivs nE none f code S 0 && ivs.all (ck_one M kr sp code ivs nE f)
theorem ck_vo.sc {ws : va_W} {sh : List Nat} {sc sc' : ck_sc} (h1 : sc'.1 = sc.1) (h2 : sc'.2.1 = sc.2.1) {n : ck_N} {N : Nat} {av : ck_V} {v : Value} (h : ck_vo ws sh sc n N av v) : ck_vo ws sh sc' n N av v := by
  unfold ck_vo at h ⊢
  rw [h1, h2]
  exact h
theorem ck_mo.sc {SG : List Nat} {ws : va_W} {sh : List Nat} {sc sc' : ck_sc} (h1 : sc'.1 = sc.1) (h2 : sc'.2.1 = sc.2.1) {n : ck_N} {N : Nat} {mem : List ck_M} (hz : ∀ x ∈ mem, x.1 ≠ 0) (h : ck_mo SG ws sh sc n N mem) : ck_mo SG ws sh sc' n N mem := by
  intro x hx
  rcases h x hx with ⟨z, -⟩ | ⟨h0, h3, q, a, o, v, h4, h5, h6, h7⟩ | hy
  · exact absurd z (hz x hx)
  · exact Or.inr (Or.inl ⟨h0, h3, q, a, o, v, h4, h5, h6, h7.sc h1 h2⟩)
  · exact Or.inr (Or.inr hy)
theorem ck_gl_ok {ws : va_W} {sh : List Nat} {sc : ck_sc} {n : ck_N} {N nL : Nat} {loc : List (Nat × ck_V)} {ls : Array Slot} (h : ck_lo ws sh sc n N nL loc ls) : ∀ {l : List (Nat × ck_V)} {r : List ck_V}, ck_gl loc l = some r → ∃ xs, ck_two (ck_vo ws sh sc n N) r xs ∧ xs.length = l.length ∧ ∀ (j : Nat) (x : Nat × ck_V) (v : Value), l[j]? = some x → xs[j]? = some v → ls[x.1]? = some (.val v)
  | [], r, hr => by
    have e := Option.some.inj hr
    subst e
    exact ⟨[], trivial, rfl, fun j x v hj => by simp at hj⟩
  | x :: l, r, hr => by
    rw [ck_gl] at hr
    split at hr
    · rename_i v r' hv hr'
      have e := Option.some.inj hr
      subst e
      obtain ⟨w, w1, w2⟩ := ck_look_ok h hv
      obtain ⟨xs, x1, x2, x3⟩ := ck_gl_ok h hr'
      refine ⟨w :: xs, ⟨w2, x1⟩, by simp [x2], fun j y u hj hu => ?_⟩
      cases j with
      | zero =>
        simp only [List.getElem?_cons_zero, Option.some.injEq] at hj hu
        subst hj
        subst hu
        exact w1
      | succ j =>
        rw [List.getElem?_cons_succ] at hj hu
        exact x3 j y u hj hu
    · cases hr
theorem ck_two_split {α β : Type} {P : α → β → Prop} : ∀ {l l2 : List α} {r r2 : List β}, ck_two P (l ++ l2) (r ++ r2) → l.length = r.length → ck_two P l r ∧ ck_two P l2 r2
  | [], _, [], _, h, _ => ⟨trivial, h⟩
  | _ :: _, _, _ :: _, _, h, e => by
    obtain ⟨a, b⟩ := ck_two_split h.2 (Nat.succ.inj e)
    exact ⟨⟨h.1, a⟩, b⟩
  | [], _, _ :: _, _, _, e => by cases e
  | _ :: _, _, [], _, _, e => by cases e
theorem ck_two_zip {P : ck_V → Value → Prop} : ∀ {l : List (Nat × ck_V)} {xs : List Value}, ck_two P (l.map Prod.snd) xs → ck_two (fun (x : Nat × ck_V) (y : Nat × Value) => x.1 = y.1 ∧ P x.2 y.2) l ((l.map Prod.fst).zip xs)
  | [], [], _ => trivial
  | _ :: _, _ :: _, h => ⟨⟨rfl, h.1⟩, ck_two_zip h.2⟩
  | [], _ :: _, h => h.elim
  | _ :: _, [], h => h.elim
theorem ck_bs_ok {SG : List Nat} {ws : va_W} {sh : List Nat} {sc : ck_sc} {n : ck_N} {N : Nat} {S : ck_S} (h : ck_mo SG ws sh sc n N S.2.2.1) {j x : Nat} (hx : ck_bs S j = some x) : (n x).1 = sc.2.2 j := by
  unfold ck_bs at hx
  cases hf : S.2.2.1.find? (fun m => m.1 == 0 && (m.2.1 == j && m.2.2.1 == 8)) with
  | none => rw [hf] at hx; cases hx
  | some mm =>
    rw [hf] at hx
    have e : mm.2.2.2.1 = x := Option.some.inj hx
    have hm := List.mem_of_find?_eq_some hf
    have hp := List.find?_some hf
    simp only [Bool.and_eq_true, beq_iff_eq] at hp
    rcases h mm hm with ⟨-, -, ⟨z, -⟩ | ⟨-, z⟩⟩ | ⟨z, -⟩ | ⟨-, z, -⟩
    · rw [hp.2.2] at z; cases z
    · rw [← e, z, hp.2.1]
    · exact absurd hp.1 z
    · exact absurd hp.1 z
section
variable {SG : List Nat} {ws : va_W} {sh : List Nat} {sc : ck_sc} {n : ck_N} {nL : Nat} {S : ck_S} {ls : Array Slot} {vs : List Value} {F : Nat} {g : List Nat}
/-- the number of a part -/
def ck_ri0 (a : Nat × Nat × Int) (z : Int) : Int := match a.1 with
  | 0 => a.2.2
  | 1 => a.2.2 - z
  | _ => z - a.2.2
theorem ck_rv_eq (a : Nat × Nat × Int) (z : Int) : ck_rv a z = (ck_ri0 a z).toNat := by
  unfold ck_rv ck_ri0
  split <;> rfl
theorem ck_rc_ok (o : ck_so nL SG S n ws sh sc ls vs) {j : Nat} {a b : Nat × Nat × Int} {d : Int} (h : ck_rc F S g j a b d = true) : ck_ri0 b (ck_pl g n b.2.1).1 ≤ ck_ri0 a (sc.2.2 j) - d := by
  have hE := o.2.2.2.2.1
  have hR := o.2.2.2.2.2
  have hy : ∀ y, g[b.2.1]? = some y → (ck_pl g n b.2.1).1 = (n y).1 := fun y hy => by simp [ck_pl, List.getD_eq_getElem?_getD, hy]
  have hz := o.1.2
  unfold ck_rc at h
  unfold ck_ri0
  split at h
  · rename_i e
    rw [decide_eq_true_eq] at h
    rw [e.1, e.2]
    show b.2.2 ≤ a.2.2 - d
    omega
  · split at h
    · rename_i e
      split at h
      · rename_i y hyy
        have p1 := ck_ent_ok hE hR F _ _ _ h
        rw [e.1, e.2, hy y hyy]
        show b.2.2 - (n y).1 ≤ a.2.2 - d
        omega
      · cases h
    · split at h
      · rename_i e
        split at h
        · rename_i y hyy
          have p1 := ck_ent_ok hE hR F _ _ _ h
          rw [e.1, e.2, hy y hyy]
          show (n y).1 - b.2.2 ≤ a.2.2 - d
          omega
        · cases h
      · split at h
        · rename_i e
          split at h
          · rename_i x hx
            have p1 := ck_ent_ok hE hR F _ _ _ h
            rw [ck_bs_ok o.2.2.2.1 hx] at p1
            rw [e.1, e.2]
            show b.2.2 ≤ a.2.2 - sc.2.2 j - d
            omega
          · cases h
        · split at h
          · rename_i e
            split at h
            · rename_i x hx
              have p1 := ck_ent_ok hE hR F _ _ _ h
              rw [ck_bs_ok o.2.2.2.1 hx] at p1
              rw [e.1, e.2]
              show b.2.2 ≤ sc.2.2 j - a.2.2 - d
              omega
            · cases h
          · split at h
            · rename_i e
              split at h
              · rename_i x y hx hyy
                have p1 := ck_ent_ok hE hR F _ _ _ h
                rw [ck_bs_ok o.2.2.2.1 hx] at p1
                rw [e.1, e.2, hy y hyy]
                show b.2.2 - (n y).1 ≤ a.2.2 - sc.2.2 j - d
                omega
              · cases h
            · split at h
              · rename_i e
                split at h
                · rename_i x y hx hyy
                  have p1 := ck_ent_ok hE hR F _ _ _ h
                  rw [ck_bs_ok o.2.2.2.1 hx] at p1
                  rw [e.1, e.2, hy y hyy]
                  show (n y).1 - b.2.2 ≤ sc.2.2 j - a.2.2 - d
                  omega
                · cases h
              · cases h
theorem ck_rp_ok (o : ck_so nL SG S n ws sh sc ls vs) {j : Nat} {a : Nat × Nat × Int} (h : ck_rp F S j a = true) : 1 ≤ ck_ri0 a (sc.2.2 j) := by
  have hE := o.2.2.2.2.1
  have hR := o.2.2.2.2.2
  have hz := o.1.2
  unfold ck_rp at h
  unfold ck_ri0
  split at h
  · rename_i e
    rw [decide_eq_true_eq] at h
    rw [e]
    exact h
  · split at h
    · rename_i x hx
      split at h
      · rename_i e
        have p1 := ck_ent_ok hE hR F _ _ _ h
        rw [ck_bs_ok o.2.2.2.1 hx] at p1
        rw [e]
        show 1 ≤ a.2.2 - sc.2.2 j
        omega
      · rw [Bool.and_eq_true] at h
        have p1 := ck_ent_ok hE hR F _ _ _ h.2
        rw [ck_bs_ok o.2.2.2.1 hx] at p1
        rw [eq_of_beq h.1]
        show 1 ≤ sc.2.2 j - a.2.2
        omega
    · cases h
theorem ck_rl_ok (o : ck_so nL SG S n ws sh sc ls vs) {j : Nat} {a b : Nat × Nat × Int} (h : ck_rl F S g j a b = true) : ck_rv b (ck_pl g n b.2.1).1 < ck_rv a (sc.2.2 j) := by
  unfold ck_rl at h
  rw [Bool.and_eq_true] at h
  have p1 := ck_rc_ok o h.1
  have p2 := ck_rp_ok o h.2
  rw [ck_rv_eq, ck_rv_eq]
  omega
theorem ck_re_ok (o : ck_so nL SG S n ws sh sc ls vs) {j : Nat} {a b : Nat × Nat × Int} (h : ck_re F S g j a b = true) : ck_rv b (ck_pl g n b.2.1).1 ≤ ck_rv a (sc.2.2 j) := by
  have p1 := ck_rc_ok o h
  rw [ck_rv_eq, ck_rv_eq]
  omega
theorem ck_lex_ok (o : ck_so nL SG S n ws sh sc ls vs) {A B : ck_K} (h : ck_lex F S g A B = true) : ck_lx (ck_rk B (fun j => (ck_pl g n (ck_k B j).2.1).1)) (ck_rk A sc.2.2) := by
  unfold ck_lex at h
  unfold ck_lx ck_rk
  rw [Bool.or_eq_true, Bool.and_eq_true, Bool.or_eq_true, Bool.and_eq_true] at h
  dsimp only
  rcases h with h | ⟨e1, h | ⟨e2, h⟩⟩
  · exact Or.inl (ck_rl_ok o h)
  · rcases Nat.lt_or_ge (ck_rv (ck_k B 0) (ck_pl g n (ck_k B 0).2.1).1) (ck_rv (ck_k A 0) (sc.2.2 0)) with q | q
    · exact Or.inl q
    · exact Or.inr ⟨Nat.le_antisymm (ck_re_ok o e1) q, Or.inl (ck_rl_ok o h)⟩
  · rcases Nat.lt_or_ge (ck_rv (ck_k B 0) (ck_pl g n (ck_k B 0).2.1).1) (ck_rv (ck_k A 0) (sc.2.2 0)) with q | q
    · exact Or.inl q
    · refine Or.inr ⟨Nat.le_antisymm (ck_re_ok o e1) q, ?_⟩
      rcases Nat.lt_or_ge (ck_rv (ck_k B 1) (ck_pl g n (ck_k B 1).2.1).1) (ck_rv (ck_k A 1) (sc.2.2 1)) with q2 | q2
      · exact Or.inl q2
      · exact Or.inr ⟨Nat.le_antisymm (ck_re_ok o e2) q2, ck_rl_ok o h⟩
end
end
noncomputable section
section
variable {p : Program} {l : Launch} {e : Env} {R : Room} {s : State} {m : MethodId} {args : Array Value} {below : List Frame} {meth : Method} {c : Code} {Q : State → Prop} {cc : ByteArray} {own : String} {D : va_G} {cl : List vw_C} {tys : List (ClassId × FieldType)} {M : ck_Me} {sc : ck_sc} {A : Nat → Prop} {ws0 : va_W} {sh0 : List Nat} {Fc : Nat → Nat × fR} {s0 : fS} {kr : Nat → ck_S → Bool} {sp : ck_spc} {code : ck_cd} {ivs : List (Nat × ck_I)} {nE : Nat} {n1 : ck_N}
/-- the goal at a place with a picture -/
def ck_pi (Fc : Nat → Nat × fR) (s0 : fS) (p : Program) (l : Launch) (e : Env) (R : Room) (s : State) (m : MethodId) (args : Array Value) (below : List Frame) (meth : Method) (c : Code) (Q : State → Prop) (D : va_G) (cl : List vw_C) (tys : List (ClassId × FieldType)) (M : ck_Me) (sc : ck_sc) (A : Nat → Prop) (ws0 : va_W) (sh0 : List Nat) (x : Nat × ck_I) (n : ck_N) : Prop :=
  ∀ (ws : va_W) (sh : List Nat) (H : Heap) (locs : List Loc) (ls : Array Slot) (vs : List Value), ck_so (mnL M) (mSG M) x.2.1 n ws sh sc ls vs → ck_wo tys (mTT M) (mSG M) ws sh → ck_ex (mWr M) ws0 sh0 ws sh → va_P D cl ws H → va_D A ws → va_S A s.heap H locs →
    WG (tM M Fc sc.1) s0 p l e R s m args below meth c ws sh H locs (ck_oc R M + x.2.1.2.2.2.2.2.1) (ck_os R M + x.2.1.2.2.2.2.2.2) Q (x.1, ls, vs)
theorem ck_rng_get {nE k : Nat} {t : List Nat} (hk : k < nE) : (List.range nE ++ t).getD k 0 = k := by
  rw [List.getD_eq_getElem?_getD, List.getElem?_append_left (by simp [hk])]
  simp [hk]
theorem ck_hb_ok {SG : List Nat} {ws : va_W} {sh : List Nat} {n : ck_N} {N : Nat} {S : ck_S} {b : Nat → Int} {sc : ck_sc} (h : ck_mo SG ws sh (sc.1, sc.2.1, b) n N S.2.2.1) (hh : ck_hb S nE = true) {k : Nat} (hk : k < nE) : (n k).1 = b (1000 + k) := by
  have h1 := List.all_eq_true.mp hh (0, 1000 + k, (8, k, [])) (List.mem_map.mpr ⟨k, List.mem_range.mpr hk, rfl⟩)
  have hm := List.contains_iff_mem.mp h1
  rcases h _ hm with ⟨-, -, ⟨z, -⟩ | ⟨-, z⟩⟩ | ⟨z, -⟩ | ⟨-, z, -⟩
  · cases z
  · exact z
  · exact absurd rfl z
  · exact absurd rfl z
theorem ck_to_ok (hnE : 0 < nE) {b : Nat → Int} (hb : ∀ k, k < nE → b (1000 + k) = (n1 k).1) {cur : Option ck_K} {S : ck_S} {x : Nat × ck_I} (hx : ck_okI nE x.2 = true) (h : ck_to (mF M) nE cur S x.2 = true)
    (hI : ∀ n, (∀ K, cur = some K → ck_lx (ck_rk x.2.2 (fun j => (n (ck_k x.2.2 j).2.1).1)) (ck_rk K b)) → (∀ k, k < nE → (n k).1 = (n1 k).1) → ck_pi Fc s0 p l e R s m args below meth c Q D cl tys M sc A ws0 sh0 x n) : ck_g Fc s0 p l e R s m args below meth c Q D cl tys M (sc.1, sc.2.1, b) A ws0 sh0 S x.1 := by
  intro n ws sh H locs ls vs o hw hx1 hP hD hS
  unfold ck_to at h
  split at h
  · rename_i rs hrs
    split at h
    · rename_i g hg
      simp only [Bool.and_eq_true, decide_eq_true_eq] at h
      obtain ⟨hgl, hhb, hcell, hcur⟩ := h
      obtain ⟨xs, x1, x2, x3⟩ := ck_gl_ok o.2.1 hrs
      obtain ⟨⟨t, rfl⟩, g2, g3, g4, g5, g6⟩ := ck_mt_ok o hg (ck_two.app x1 o.2.2.1) (fun s hs => by
        have := List.mem_range.mp hs
        have h1 := List.contains_iff_mem.mp (List.all_eq_true.mp hhb (0, 1000 + s, (8, s, [])) (List.mem_map.mpr ⟨s, hs, rfl⟩))
        rcases o.2.2.2.1 _ h1 with ⟨-, z, -⟩ | ⟨z, -⟩ | ⟨-, z, -⟩
        · exact z
        · exact absurd rfl z
        · exact absurd rfl z)
      obtain ⟨l1, l2⟩ := ck_two_split g3 (by rw [List.length_map, x2])
      have hn : ∀ k, k < nE → (ck_pl (List.range nE ++ t) n k) = n k := fun k hk => by
        unfold ck_pl
        rw [ck_rng_get hk]
      unfold ck_okI at hx
      simp only [Bool.and_eq_true, decide_eq_true_eq] at hx
      have hz : ∀ y ∈ x.2.1.2.2.1, y.1 ≠ 0 := fun y hy => by
        have := List.all_eq_true.mp hx.1 y hy
        rw [Bool.not_eq_true', beq_eq_false_iff_ne] at this
        exact this
      have hfin := hI (ck_pl (List.range nE ++ t) n) (fun K hK => by
          subst hK
          exact ck_lex_ok o hcur) (fun k hk => by rw [hn k hk, ck_hb_ok o.2.2.2.1 hhb hk]; exact hb k hk) ws sh H locs ls vs
        ⟨⟨by rw [← hgl]; simp; omega, by rw [hn 0 hnE]; exact o.1.2⟩, ?_, ?_, ?_, g5, by rw [← hgl]; exact g6⟩ hw hx1 hP hD hS
      · have ec1 : x.2.1.2.2.2.2.2.1 = S.2.2.2.2.2.1 := congrArg Prod.fst hcell
        have ec2 : x.2.1.2.2.2.2.2.2 = S.2.2.2.2.2.2 := congrArg Prod.snd hcell
        rw [ec1, ec2] at hfin
        exact hfin
      · rw [← hgl]
        obtain ⟨lv, y1, y2⟩ := id o.2.1
        refine ⟨_, ⟨y1.1, y1.2.1, fun q hq => ?_⟩, (ck_two_zip l1).imp fun a b hab => ⟨hab.1, hab.2.sc rfl rfl⟩⟩
        obtain ⟨j, hj⟩ := List.getElem?_of_mem hq
        rw [List.getElem?_zip_eq_some] at hj
        obtain ⟨j1, j2⟩ := hj
        rw [List.getElem?_map] at j1
        cases hxj : x.2.1.1[j]? with
        | none => rw [hxj] at j1; cases j1
        | some z =>
          rw [hxj] at j1
          have ez : z.1 = q.1 := Option.some.inj j1
          rw [← ez]
          exact x3 j z q.2 hxj j2
      · rw [← hgl]
        exact l2.imp fun a b hab => hab.sc rfl rfl
      · rw [← hgl]
        exact ck_mo.sc (sc := (sc.1, sc.2.1, b)) (sc' := sc) rfl rfl hz g4
    · cases h
  · cases h
theorem ck_do_ok (hnE : 0 < nE) (X : ck_cx p l e R s m args below meth c cc own D cl tys M sc A) (hfl : ∀ x ∈ mfl M, ck_hg s args own cl x) (hpl : ∀ x ∈ mpl M, ck_hp s args own cl (meth.name = "<init>") x) (hnl : ∀ x ∈ mnw M, ck_hn s args own cl (mTT M) x) (hkl : ∀ x ∈ mkl M, ck_hk s args own x) (hil : ∀ x ∈ mil M, ck_hi s args own cl x) (hxl : ∀ x ∈ mxl M, ck_hx s args own cl x) (hal : ∀ x ∈ mal M, ck_ha s tys cl x)
    (hgl : ∀ i ∈ mgl M, ck_hs s args own sc i) (hvl : ∀ (b : Nat → Int), ∀ x ∈ mvl M, ck_cs Fc s0 p l e R s m args below meth c Q cc D cl tys M (sc.1, sc.2.1, b) A x) (hcode : ∀ x ∈ code, decode cc x.1 = .ok (x.2.1, x.2.2))
    (hret : ∀ (b : Nat → Int), (∀ k, k < nE → b (1000 + k) = (n1 k).1) → ∀ (kd : Nat) (S : ck_S), kr kd S = true → ck_rst kd S → ∀ pc, decode cc pc = .ok (ck_ri kd, 1) → ck_g Fc s0 p l e R s m args below meth c Q D cl tys M (sc.1, sc.2.1, b) A ws0 sh0 S pc)
    (hsp : ∀ x ∈ sp, ∀ (S : ck_S) (L : List ck_S), x.2.2 S = some L → ∀ b : Nat → Int, (∀ k, k < nE → b (1000 + k) = (n1 k).1) → (∀ S' ∈ L, ck_g Fc s0 p l e R s m args below meth c Q D cl tys M (sc.1, sc.2.1, b) A ws0 sh0 S' x.2.1) → ck_g Fc s0 p l e R s m args below meth c Q D cl tys M (sc.1, sc.2.1, b) A ws0 sh0 S x.1)
    {b : Nat → Int} (hb : ∀ k, k < nE → b (1000 + k) = (n1 k).1) {k : ck_cd → ck_S → Nat → Bool} (hk : ∀ (suf : ck_cd) (S : ck_S) (pc : Nat), (∀ x ∈ suf, x ∈ code) → k suf S pc = true → ck_g Fc s0 p l e R s m args below meth c Q D cl tys M (sc.1, sc.2.1, b) A ws0 sh0 S pc)
    {suf : ck_cd} {S : ck_S} {pc : Nat} (hsuf : ∀ x ∈ suf, x ∈ code) (h : ck_do M kr sp code suf k S pc = true) : ck_g Fc s0 p l e R s m args below meth c Q D cl tys M (sc.1, sc.2.1, b) A ws0 sh0 S pc := by
  unfold ck_do at h
  split at h
  · rename_i x hx
    have hm := List.mem_of_find?_eq_some hx
    have hp : x.1 = pc := by
      have z := List.find?_some hx
      exact eq_of_beq z
    split at h
    · rename_i L hL
      have := hsp x hm S L hL b hb (fun S' hS' => hk code S' x.2.1 (fun _ h => h) (List.all_eq_true.mp h S' hS'))
      rw [hp] at this
      exact this
    · cases h
  · split at h
    · rename_i y hy
      obtain ⟨y1, y2⟩ := ck_sfx_ok (i := y.1) (l := y.2.1) (t := y.2.2) hy hsuf
      have X' : ck_cx p l e R s m args below meth c cc own D cl tys M (sc.1, sc.2.1, b) A := X
      have hgl' : ∀ i ∈ mgl M, ck_hs s args own (sc.1, sc.2.1, b) i := hgl
      exact ck_step_ok (sc := (sc.1, sc.2.1, b)) (kr := kr) (k := fun S pc => k y.2.2 S pc) X' hfl hpl hnl hkl hil hxl hal hgl' (hvl b) (fun S pc hq => hk y.2.2 S pc y2 hq) (hret b hb) h (hcode (pc, y.1, y.2.1) y1)
    · cases h
theorem ck_go_ok (hnE : 0 < nE) (X : ck_cx p l e R s m args below meth c cc own D cl tys M sc A) (hfl : ∀ x ∈ mfl M, ck_hg s args own cl x) (hpl : ∀ x ∈ mpl M, ck_hp s args own cl (meth.name = "<init>") x) (hnl : ∀ x ∈ mnw M, ck_hn s args own cl (mTT M) x) (hkl : ∀ x ∈ mkl M, ck_hk s args own x) (hil : ∀ x ∈ mil M, ck_hi s args own cl x) (hxl : ∀ x ∈ mxl M, ck_hx s args own cl x) (hal : ∀ x ∈ mal M, ck_ha s tys cl x)
    (hgl : ∀ i ∈ mgl M, ck_hs s args own sc i) (hvl : ∀ (b : Nat → Int), ∀ x ∈ mvl M, ck_cs Fc s0 p l e R s m args below meth c Q cc D cl tys M (sc.1, sc.2.1, b) A x) (hcode : ∀ x ∈ code, decode cc x.1 = .ok (x.2.1, x.2.2))
    (hret : ∀ (b : Nat → Int), (∀ k, k < nE → b (1000 + k) = (n1 k).1) → ∀ (kd : Nat) (S : ck_S), kr kd S = true → ck_rst kd S → ∀ pc, decode cc pc = .ok (ck_ri kd, 1) → ck_g Fc s0 p l e R s m args below meth c Q D cl tys M (sc.1, sc.2.1, b) A ws0 sh0 S pc)
    (hsp : ∀ x ∈ sp, ∀ (S : ck_S) (L : List ck_S), x.2.2 S = some L → ∀ b : Nat → Int, (∀ k, k < nE → b (1000 + k) = (n1 k).1) → (∀ S' ∈ L, ck_g Fc s0 p l e R s m args below meth c Q D cl tys M (sc.1, sc.2.1, b) A ws0 sh0 S' x.2.1) → ck_g Fc s0 p l e R s m args below meth c Q D cl tys M (sc.1, sc.2.1, b) A ws0 sh0 S x.1)
    (hiv : ∀ x ∈ ivs, ck_okI nE x.2 = true) {b : Nat → Int} (hb : ∀ k, k < nE → b (1000 + k) = (n1 k).1) {cur : Option ck_K}
    (hI : ∀ x ∈ ivs, ∀ n, (∀ K, cur = some K → ck_lx (ck_rk x.2.2 (fun j => (n (ck_k x.2.2 j).2.1).1)) (ck_rk K b)) → (∀ k, k < nE → (n k).1 = (n1 k).1) → ck_pi Fc s0 p l e R s m args below meth c Q D cl tys M sc A ws0 sh0 x n) :
    ∀ (f : Nat) (suf : ck_cd) (S : ck_S) (pc : Nat), (∀ x ∈ suf, x ∈ code) → ck_go M kr sp code ivs nE cur f suf S pc = true → ck_g Fc s0 p l e R s m args below meth c Q D cl tys M (sc.1, sc.2.1, b) A ws0 sh0 S pc := by
  intro f
  induction f with
  | zero => intro suf S pc _ h; cases h
  | succ f ih =>
    intro suf S pc hsuf h
    rw [ck_go] at h
    split at h
    · obtain ⟨x, hm, hx2⟩ := List.any_eq_true.mp h
      rw [Bool.and_eq_true] at hx2
      have ep : x.1 = pc := eq_of_beq hx2.1
      have := ck_to_ok (p := p) (l := l) (e := e) (R := R) (s := s) (m := m) (args := args) (below := below) (meth := meth) (c := c) (Q := Q) (D := D) (cl := cl) (tys := tys) (A := A) (ws0 := ws0) (sh0 := sh0) hnE hb (hiv x hm) hx2.2 (hI x hm)
      rw [ep] at this
      exact this
    · exact ck_do_ok hnE X hfl hpl hnl hkl hil hxl hal hgl hvl hcode hret hsp hb (fun suf S pc hs hq => ih suf S pc hs hq) hsuf h
theorem ck_run_ok (hnE : 0 < nE) (X : ck_cx p l e R s m args below meth c cc own D cl tys M sc A) (hfl : ∀ x ∈ mfl M, ck_hg s args own cl x) (hpl : ∀ x ∈ mpl M, ck_hp s args own cl (meth.name = "<init>") x) (hnl : ∀ x ∈ mnw M, ck_hn s args own cl (mTT M) x) (hkl : ∀ x ∈ mkl M, ck_hk s args own x) (hil : ∀ x ∈ mil M, ck_hi s args own cl x) (hxl : ∀ x ∈ mxl M, ck_hx s args own cl x) (hal : ∀ x ∈ mal M, ck_ha s tys cl x)
    (hgl : ∀ i ∈ mgl M, ck_hs s args own sc i) (hvl : ∀ (b : Nat → Int), ∀ x ∈ mvl M, ck_cs Fc s0 p l e R s m args below meth c Q cc D cl tys M (sc.1, sc.2.1, b) A x) (hcode : ∀ x ∈ code, decode cc x.1 = .ok (x.2.1, x.2.2))
    (hret : ∀ (b : Nat → Int), (∀ k, k < nE → b (1000 + k) = (n1 k).1) → ∀ (kd : Nat) (S : ck_S), kr kd S = true → ck_rst kd S → ∀ pc, decode cc pc = .ok (ck_ri kd, 1) → ck_g Fc s0 p l e R s m args below meth c Q D cl tys M (sc.1, sc.2.1, b) A ws0 sh0 S pc)
    (hsp : ∀ x ∈ sp, ∀ (S : ck_S) (L : List ck_S), x.2.2 S = some L → ∀ b : Nat → Int, (∀ k, k < nE → b (1000 + k) = (n1 k).1) → (∀ S' ∈ L, ck_g Fc s0 p l e R s m args below meth c Q D cl tys M (sc.1, sc.2.1, b) A ws0 sh0 S' x.2.1) → ck_g Fc s0 p l e R s m args below meth c Q D cl tys M (sc.1, sc.2.1, b) A ws0 sh0 S x.1)
    {f : Nat} {S0 : ck_S} (h : ck_chk M kr sp code ivs nE f S0 = true) {b : Nat → Int} (hb : ∀ k, k < nE → b (1000 + k) = (n1 k).1) : ck_g Fc s0 p l e R s m args below meth c Q D cl tys M (sc.1, sc.2.1, b) A ws0 sh0 S0 0 := by
  unfold ck_chk at h
  rw [Bool.and_eq_true] at h
  obtain ⟨h0, hall⟩ := h
  have hiv : ∀ x ∈ ivs, ck_okI nE x.2 = true := fun x hx => by
    have h1 := List.all_eq_true.mp hall x hx
    unfold ck_one at h1
    rw [Bool.and_eq_true] at h1
    exact h1.1
  have key : ∀ r : Nat × Nat × Nat, ∀ x ∈ ivs, ∀ n : ck_N, ck_rk x.2.2 (fun j => (n (ck_k x.2.2 j).2.1).1) = r → (∀ k, k < nE → (n k).1 = (n1 k).1) → ck_pi Fc s0 p l e R s m args below meth c Q D cl tys M sc A ws0 sh0 x n := by
    refine ck_lx_ind fun r ih => ?_
    intro x hx n hr hn ws sh H locs ls vs o hw hx1 hP hD hS
    have h1 := List.all_eq_true.mp hall x hx
    unfold ck_one at h1
    rw [Bool.and_eq_true] at h1
    obtain ⟨hok, h1⟩ := h1
    obtain ⟨b', hb'⟩ : ∃ b' : Nat → Int, b' = fun j => if j < 1000 then (n (ck_k x.2.2 j).2.1).1 else (n1 (j - 1000)).1 := ⟨_, rfl⟩
    have q1 : ∀ k, k < nE → b' (1000 + k) = (n1 k).1 := fun k _ => by
      rw [hb']
      dsimp only
      rw [if_neg (by omega)]
      have e9 : 1000 + k - 1000 = k := by omega
      rw [e9]
    have q2 : ∀ j, j < 1000 → b' j = (n (ck_k x.2.2 j).2.1).1 := fun j hj => by
      rw [hb']
      exact if_pos hj
    have erk : ck_rk x.2.2 b' = r := by
      rw [← hr]
      unfold ck_rk
      rw [q2 0 (by omega), q2 1 (by omega), q2 2 (by omega)]
    unfold ck_okI at hok
    simp only [Bool.and_eq_true, decide_eq_true_eq] at hok
    obtain ⟨k1, k2, k3⟩ := hok
    have hz : ∀ y ∈ x.2.1.2.2.1, y.1 ≠ 0 := fun y hy => by
      have := List.all_eq_true.mp k1 y hy
      rw [Bool.not_eq_true', beq_eq_false_iff_ne] at this
      exact this
    have X' : ck_cx p l e R s m args below meth c cc own D cl tys M (sc.1, sc.2.1, b') A := X
    have hgl' : ∀ i ∈ mgl M, ck_hs s args own (sc.1, sc.2.1, b') i := hgl
    have hgo : ∀ (suf : ck_cd) (S : ck_S) (pc : Nat), (∀ x ∈ suf, x ∈ code) → ck_go M kr sp code ivs nE (some x.2.2) f suf S pc = true → ck_g Fc s0 p l e R s m args below meth c Q D cl tys M (sc.1, sc.2.1, b') A ws0 sh0 S pc := fun suf S pc hsu hk =>
      ck_go_ok (n1 := n1) (b := b') hnE X hfl hpl hnl hkl hil hxl hal hgl hvl hcode hret hsp hiv q1 (cur := some x.2.2) (fun x' hx' n' hlt hn' => ih _ (by rw [← erk]; exact hlt _ rfl) x' hx' n' rfl hn') f suf S pc hsu hk
    have hg := ck_do_ok (S := ck_si nE x.2) (b := b') hnE X hfl hpl hnl hkl hil hxl hal hgl hvl hcode hret hsp q1 hgo (fun _ h => h) h1
    refine hg n ws sh H locs ls vs ⟨o.1, ?_, o.2.2.1.imp (fun a c hac => hac.sc rfl rfl), ?_, o.2.2.2.2⟩ hw hx1 hP hD hS
    · obtain ⟨lv, u1, u2⟩ := o.2.1
      exact ⟨lv, u1, u2.imp fun a c hac => ⟨hac.1, hac.2.sc rfl rfl⟩⟩
    · intro z hzm
      rcases List.mem_append.mp hzm with hzm | hzm
      · exact (ck_mo.sc (sc := sc) (sc' := (sc.1, sc.2.1, b')) rfl rfl hz o.2.2.2.1) z hzm
      · rcases List.mem_append.mp hzm with hzm | hzm
        · obtain ⟨k, hk, rfl⟩ := List.mem_map.mp hzm
          have hk := List.mem_range.mp hk
          exact Or.inl ⟨rfl, Nat.lt_of_lt_of_le hk k2, Or.inr ⟨rfl, by rw [hn k hk]; exact (q1 k hk).symm⟩⟩
        · have hl := List.all_eq_true.mp k3 z hzm
          rw [decide_eq_true_eq] at hl
          simp only [ck_rb, List.mem_cons, List.not_mem_nil, or_false] at hzm
          rcases hzm with rfl | rfl | rfl
          · exact Or.inl ⟨rfl, hl, Or.inr ⟨rfl, (q2 0 (by omega)).symm⟩⟩
          · exact Or.inl ⟨rfl, hl, Or.inr ⟨rfl, (q2 1 (by omega)).symm⟩⟩
          · exact Or.inl ⟨rfl, hl, Or.inr ⟨rfl, (q2 2 (by omega)).symm⟩⟩
  exact ck_go_ok (n1 := n1) (b := b) hnE X hfl hpl hnl hkl hil hxl hal hgl hvl hcode hret hsp hiv hb (cur := none) (fun x hx n _ hn => key _ x hx n rfl hn) f code S0 0 (fun _ h => h) h0
end
end
noncomputable section
/-! the step with its dispatch outermost: a function for each instruction -/
abbrev ck_stp : Type := ck_Me → (Nat → ck_S → Bool) → ck_cont → ck_S → Nat → Nat → Bool
/-- what a relation adds, by the numbers' forms -/
noncomputable def ck_lset {α : Type} (l : List α) : Nat → α → List α := @List.rec α (fun _ => Nat → α → List α) (fun _ _ => []) (fun x t ih n v => @Nat.rec (fun _ => List α) (v :: t) (fun m _ => x :: ih m v) n) l
theorem ck_lset_eq {α : Type} : ∀ {l : List α} {n : Nat} {v : α}, ck_lset l n v = l.set n v
  | [], _, _ => by
    rw [List.set_nil]
    rfl
  | x :: t, 0, v => by
    rw [List.set_cons_zero]
    rfl
  | x :: t, n + 1, v => by
    rw [List.set_cons_succ, ← ck_lset_eq (l := t) (n := n) (v := v)]
    rfl
theorem ck_set_same {α : Type} {l : List α} {i : Nat} {x : α} (h : l[i]? = some x) : l.set i x = l := by
  apply List.ext_getElem?
  intro j
  rw [List.getElem?_set]
  by_cases e : i = j
  · subst e
    rw [if_pos rfl, if_pos (List.getElem?_eq_some_iff.mp h).1, h]
  · rw [if_neg e]
def ck_ie (a b : Int) : Bool := ck_il a b && ck_il b a
theorem ck_ie_iff {a b : Int} : ck_ie a b = true ↔ a = b := by
  unfold ck_ie
  rw [Bool.and_eq_true, ck_il_iff, ck_il_iff]
  omega
def ck_rG (x y : Int × Int) (r : ck_R) (R : List ck_R) : List ck_R := match ck_ie x.1 x.2 || ck_ie y.1 y.2 with
  | true => R
  | false => r :: R
theorem ck_rG_eq {x y : Int × Int} {r : ck_R} {R : List ck_R} : ck_rG x y r R = if x.1 = x.2 ∨ y.1 = y.2 then R else r :: R := by
  unfold ck_rG
  by_cases h : x.1 = x.2 ∨ y.1 = y.2
  · have e : (ck_ie x.1 x.2 || ck_ie y.1 y.2) = true := by
      rw [Bool.or_eq_true, ck_ie_iff, ck_ie_iff]
      exact h
    rw [e, if_pos h]
  · have e : (ck_ie x.1 x.2 || ck_ie y.1 y.2) = false := by
      rw [Bool.eq_false_iff]
      intro z
      rw [Bool.or_eq_true, ck_ie_iff, ck_ie_iff] at z
      exact h z
    rw [e, if_neg h]
def ck_wl2 (a b : Nat) (c : Int) (S : ck_S) (k : ck_S → Bool) (x y : Int × Int) : Bool :=
  match ck_il x.2 (y.2 + c) with
  | true => (match ck_il (x.1 - c) y.1 with
    | true => k (S.1, S.2.1, S.2.2.1, S.2.2.2.1, ck_rG x y (a, b, c) S.2.2.2.2.1, S.2.2.2.2.2)
    | false => (match ck_il (x.1 - c) y.2 with
      | true => k (S.1, S.2.1, S.2.2.1, ck_lset S.2.2.2.1 b (x.1 - c, y.2), ck_rG x y (a, b, c) S.2.2.2.2.1, S.2.2.2.2.2)
      | false => true))
  | false => (match ck_il x.1 (y.2 + c) with
    | true => (match ck_il (x.1 - c) y.1 with
      | true => k (S.1, S.2.1, S.2.2.1, ck_lset S.2.2.2.1 a (x.1, y.2 + c), ck_rG x y (a, b, c) S.2.2.2.2.1, S.2.2.2.2.2)
      | false => (match ck_il (x.1 - c) y.2 with
        | true => k (S.1, S.2.1, S.2.2.1, ck_lset (ck_lset S.2.2.2.1 a (x.1, y.2 + c)) b (x.1 - c, y.2), ck_rG x y (a, b, c) S.2.2.2.2.1, S.2.2.2.2.2)
        | false => true))
    | false => true)
def ck_wle0 (a b : Nat) (c : Int) (S : ck_S) (k : ck_S → Bool) : Bool := ck_wle a b c S k
def ck_wleG (a b : Nat) (c : Int) (S : ck_S) (k : ck_S → Bool) : Bool :=
  match ck_nth S.2.2.2.1 a, ck_nth S.2.2.2.1 b with
  | some x, some y => (match ck_il x.1 x.2 && ck_il y.1 y.2 with
    | true => (match Nat.beq a b with
      | true => ck_wle0 a b c S k
      | false => ck_wl2 a b c S k x y)
    | false => false)
  | _, _ => false
theorem ck_il_t {a b : Int} (h : a ≤ b) : ck_il a b = true := ck_il_iff.mpr h
theorem ck_il_f {a b : Int} (h : ¬ a ≤ b) : ck_il a b = false := Bool.eq_false_iff.mpr (fun z => h (ck_il_iff.mp z))
theorem ck_wl2_eq {a b : Nat} {c : Int} {S : ck_S} {k : ck_S → Bool} {x y : Int × Int} (hx : S.2.2.2.1[a]? = some x) (hy : S.2.2.2.1[b]? = some y) (h1 : x.1 ≤ x.2 ∧ y.1 ≤ y.2) (h2 : ¬ a = b) : ck_wl2 a b c S k x y = ck_wle a b c S k := by
  have la : a < S.2.2.2.1.length := (List.getElem?_eq_some_iff.mp hx).1
  have lb : b < S.2.2.2.1.length := (List.getElem?_eq_some_iff.mp hy).1
  have hp : ck_le a b c S.2.2.2.1 S.2.2.2.2.1 = ((S.2.2.2.1.set a (x.1, ck_min x.2 (y.2 + c))).set b (ck_max y.1 (x.1 - c), y.2), ck_rG x y (a, b, c) S.2.2.2.2.1) := by
    rw [ck_rG_eq]
    unfold ck_le
    rw [hx, hy]
    dsimp only
    rw [if_pos h1, if_neg h2]
  have e0 : ck_wle a b c S k = (ck_dead (ck_le a b c S.2.2.2.1 S.2.2.2.2.1).1 a || (ck_dead (ck_le a b c S.2.2.2.1 S.2.2.2.2.1).1 b || k (S.1, S.2.1, S.2.2.1, (ck_le a b c S.2.2.2.1 S.2.2.2.2.1).1, (ck_le a b c S.2.2.2.1 S.2.2.2.2.1).2, S.2.2.2.2.2))) := by
    unfold ck_wle
    rw [hx, hy]
    exact if_pos h1
  have da : ck_dead ((S.2.2.2.1.set a (x.1, ck_min x.2 (y.2 + c))).set b (ck_max y.1 (x.1 - c), y.2)) a = decide (ck_min x.2 (y.2 + c) < x.1) := by
    unfold ck_dead
    rw [List.getElem?_set, if_neg (fun z => h2 z.symm), List.getElem?_set, if_pos rfl, if_pos la]
  have db : ck_dead ((S.2.2.2.1.set a (x.1, ck_min x.2 (y.2 + c))).set b (ck_max y.1 (x.1 - c), y.2)) b = decide (y.2 < ck_max y.1 (x.1 - c)) := by
    unfold ck_dead
    rw [List.getElem?_set, if_pos rfl, if_pos (by rw [List.length_set]; exact lb)]
  rw [e0, hp]
  dsimp only
  rw [da, db]
  unfold ck_wl2
  simp only [ck_lset_eq]
  by_cases c1 : x.2 ≤ y.2 + c
  · have m1 : ck_min x.2 (y.2 + c) = x.2 := if_pos c1
    rw [ck_il_t c1, m1, decide_eq_false (by omega : ¬ x.2 < x.1), ck_set_same (x := (x.1, x.2)) hx]
    by_cases c2 : x.1 - c ≤ y.1
    · have m2 : ck_max y.1 (x.1 - c) = y.1 := by
        unfold ck_max
        split <;> omega
      rw [ck_il_t c2, m2, decide_eq_false (by omega : ¬ y.2 < y.1), ck_set_same (x := (y.1, y.2)) hy]
      rfl
    · have m2 : ck_max y.1 (x.1 - c) = x.1 - c := by
        unfold ck_max
        split <;> omega
      rw [ck_il_f c2, m2]
      by_cases c3 : x.1 - c ≤ y.2
      · rw [ck_il_t c3, decide_eq_false (by omega : ¬ y.2 < x.1 - c)]
        rfl
      · rw [ck_il_f c3, decide_eq_true (by omega : y.2 < x.1 - c)]
        rfl
  · have m1 : ck_min x.2 (y.2 + c) = y.2 + c := if_neg c1
    rw [ck_il_f c1, m1]
    by_cases c4 : x.1 ≤ y.2 + c
    · rw [ck_il_t c4, decide_eq_false (by omega : ¬ y.2 + c < x.1)]
      by_cases c2 : x.1 - c ≤ y.1
      · have m2 : ck_max y.1 (x.1 - c) = y.1 := by
          unfold ck_max
          split <;> omega
        have hy' : (S.2.2.2.1.set a (x.1, y.2 + c))[b]? = some (y.1, y.2) := by
          rw [List.getElem?_set, if_neg h2]
          exact hy
        rw [ck_il_t c2, m2, decide_eq_false (by omega : ¬ y.2 < y.1), ck_set_same hy']
        rfl
      · have m2 : ck_max y.1 (x.1 - c) = x.1 - c := by
          unfold ck_max
          split <;> omega
        rw [ck_il_f c2, m2]
        by_cases c3 : x.1 - c ≤ y.2
        · rw [ck_il_t c3, decide_eq_false (by omega : ¬ y.2 < x.1 - c)]
          rfl
        · rw [ck_il_f c3, decide_eq_true (by omega : y.2 < x.1 - c)]
          rfl
    · rw [ck_il_f c4, decide_eq_true (by omega : y.2 + c < x.1)]
      rfl
theorem ck_wleG_f : @ck_wleG = @ck_wle := by
  funext a b c S k
  unfold ck_wleG
  rw [ck_nth_eq, ck_nth_eq]
  cases hx : S.2.2.2.1[a]? with
  | none =>
    have e : ck_wle a b c S k = false := by
      unfold ck_wle
      rw [hx]
      try rfl
    exact e.symm
  | some x =>
    cases hy : S.2.2.2.1[b]? with
    | none =>
      have e : ck_wle a b c S k = false := by
        unfold ck_wle
        rw [hx, hy]
        try rfl
      exact e.symm
    | some y =>
      dsimp only
      by_cases h1 : x.1 ≤ x.2 ∧ y.1 ≤ y.2
      · have e1 : (ck_il x.1 x.2 && ck_il y.1 y.2) = true := by
          rw [Bool.and_eq_true]
          exact ⟨ck_il_t h1.1, ck_il_t h1.2⟩
        rw [e1]
        dsimp only
        by_cases h2 : a = b
        · have e2 : Nat.beq a b = true := by
            rw [Nat.beq_eq]
            exact h2
          rw [e2]
          rfl
        · have e2 : Nat.beq a b = false := Bool.eq_false_iff.mpr (fun z => h2 (Nat.eq_of_beq_eq_true z))
          rw [e2]
          exact ck_wl2_eq hx hy h1 h2
      · have e1 : (ck_il x.1 x.2 && ck_il y.1 y.2) = false := by
          rw [Bool.eq_false_iff]
          intro z
          rw [Bool.and_eq_true] at z
          exact h1 ⟨ck_il_iff.mp z.1, ck_il_iff.mp z.2⟩
        have e : ck_wle a b c S k = false := by
          unfold ck_wle
          rw [hx, hy]
          exact if_neg h1
        rw [e1]
        exact e.symm
def ck_weqG (a b : Nat) (S : ck_S) (k : ck_S → Bool) : Bool := ck_wleG a b 0 S (fun S => ck_wleG b a 0 S k)
theorem ck_weqG_f : @ck_weqG = @ck_weq := by
  funext a b S k
  unfold ck_weqG ck_weq
  rw [ck_wleG_f]
  try rfl
def ck_wneG (F : Nat) (a b : Nat) (S : ck_S) (k : ck_S → Bool) : Bool :=
  if ck_ent S.2.2.2.1 S.2.2.2.2.1 F a b 0 then (ck_ent S.2.2.2.1 S.2.2.2.2.1 F b a 0 || ck_wleG a b (-1) S k) else if ck_ent S.2.2.2.1 S.2.2.2.2.1 F b a 0 then ck_wleG b a (-1) S k else k S
theorem ck_wneG_f : @ck_wneG = @ck_wne := by
  funext F a b S k
  unfold ck_wneG ck_wne
  rw [ck_wleG_f]
  try rfl
def ck_wcG (F : Nat) (cd : ClassFile.Cond) (a b : Nat) (S : ck_S) (kt kf : ck_S → Bool) : Bool := match cd with
  | .eq => ck_weqG a b S kt && ck_wneG F a b S kf
  | .ne => ck_wneG F a b S kt && ck_weqG a b S kf
  | .lt => ck_wleG a b (-1) S kt && ck_wleG b a 0 S kf
  | .ge => ck_wleG b a 0 S kt && ck_wleG a b (-1) S kf
  | .gt => ck_wleG b a (-1) S kt && ck_wleG a b 0 S kf
  | .le => ck_wleG a b 0 S kt && ck_wleG b a (-1) S kf
theorem ck_wcG_f : @ck_wcG = @ck_wc := by
  funext F cd a b S kt kf
  cases cd <;> (show _ = _; unfold ck_wcG ck_wc; dsimp only; simp only [ck_weqG_f, ck_wneG_f, ck_wleG_f])
def ck_wlesG (g : List Nat) (N : Nat) : List ck_R → ck_S → (ck_S → Bool) → Bool
  | [], S, k => k S
  | r :: rs, S, k => ck_wleG (ck_ren g N r.1) (ck_ren g N r.2.1) r.2.2 S (fun S => ck_wlesG g N rs S k)
theorem ck_wlesG_f : @ck_wlesG = @ck_wles := by
  funext g N rs
  induction rs with
  | nil => rfl
  | cons r rs ih =>
    funext S k
    show ck_wleG (ck_ren g N r.1) (ck_ren g N r.2.1) r.2.2 S (fun S => ck_wlesG g N rs S k) = ck_wle (ck_ren g N r.1) (ck_ren g N r.2.1) r.2.2 S (fun S => ck_wles g N rs S k)
    rw [ck_wleG_f, ih]
def ck_aftG (S : ck_S) (st : List ck_V) (g : List Nat) (wr : List (Nat × Nat)) (mc ms : Nat) (P : ck_P) (k : ck_S → Bool) : Bool :=
  ck_wlesG g S.2.2.2.1.length P.2.2.2
    (S.1, P.1.map (ck_renV g S.2.2.2.1.length) ++ st, P.2.1.map (fun m => (m.1, m.2.1, ck_renV g S.2.2.2.1.length m.2.2)) ++ S.2.2.1.filter (fun m => m.1 == 0 || !(wr.contains (m.1, m.2.1))),
      S.2.2.2.1 ++ P.2.2.1.drop g.length, S.2.2.2.2.1, S.2.2.2.2.2.1 + mc, S.2.2.2.2.2.2 + ms) k
theorem ck_aftG_f : @ck_aftG = @ck_aft := by
  funext S st g wr mc ms P k
  unfold ck_aftG ck_aft
  rw [ck_wlesG_f]
  try rfl
def ck_callG (F : Nat) (Wr : List (Nat × Nat)) (Rm : Nat × Nat) (S : ck_S) (na : Nat) (C : ck_C) (k : ck_S → Bool) : Bool :=
  (decide (na ≤ S.2.1.length) && (decide (S.2.2.2.2.2.1 + C.2.2.2.1 ≤ Rm.1) && (decide (S.2.2.2.2.2.2 + C.2.2.2.2 ≤ Rm.2) && decide (((S.2.1.drop na).map ck_cat).sum ≤ 8)))) && ((C.2.2.1.all (fun x => Wr.contains x)) &&
  match ck_mt F S [0] (S.2.1.take na).reverse C.1 with
  | some g => decide (g.length = C.1.2.2.1.length) && (C.2.1.all (fun P => (P.1.all (fun v => decide (v.1 < 5)) && P.2.1.all ck_okm) && ck_aftG S (S.2.1.drop na) g C.2.2.1 C.2.2.2.1 C.2.2.2.2 P k))
  | none => false)
theorem ck_callG_f : @ck_callG = @ck_call := by
  funext F Wr Rm S na C k
  unfold ck_callG ck_call
  rw [ck_aftG_f]
  try rfl
def ck_invG (M : ck_Me) (i : Nat) (S : ck_S) (k : ck_S → Bool) : Bool := match (mvl M).find? (fun x => x.1 == i) with
  | some x => if x.2.1 = 0 then (mvl M).any (fun y => y.1 == i && (y.2.1 == 0 && ck_callG (mF M) (mWr M) (mRm M) S y.2.2.1 y.2.2.2 k)) else
      decide (1 ≤ x.2.2.1) && (match S.2.1[x.2.2.1 - 1]? with
        | some r => r.1 == 2 && r.2.2.all (fun t => (mvl M).any (fun y => (y.1 == i && y.2.1 == t) && (y.2.2.1 == x.2.2.1 && (!(t == 0) && ck_callG (mF M) (mWr M) (mRm M) (if r.2.2 = [t] then S else ck_subS r.2.1 (2, r.2.1, [t]) S) x.2.2.1 y.2.2.2 k))))
        | none => false)
  | none => false
theorem ck_invG_f : @ck_invG = @ck_inv := by
  funext M i S k
  unfold ck_invG ck_inv
  rw [ck_callG_f]
  try rfl
def cf_iconst (v : Int) (_ : ck_Me) (_ : Nat → ck_S → Bool) (k : ck_cont) (S : ck_S) (pc : Nat) (len : Nat) : Bool := len == 1 && (decide (-2147483648 ≤ v ∧ v < 2147483648) && k (ck_cst S 0 v) (pc + 1))
def cf_bipush (v : Int) (_ : ck_Me) (_ : Nat → ck_S → Bool) (k : ck_cont) (S : ck_S) (pc : Nat) (len : Nat) : Bool := len == 2 && (decide (-128 ≤ v ∧ v < 128) && k (ck_cst S 0 v) (pc + 2))
def cf_sipush (v : Int) (_ : ck_Me) (_ : Nat → ck_S → Bool) (k : ck_cont) (S : ck_S) (pc : Nat) (len : Nat) : Bool := len == 3 && (decide (-32768 ≤ v ∧ v < 32768) && k (ck_cst S 0 v) (pc + 3))
def cf_lconst (v : Fin 2) (_ : ck_Me) (_ : Nat → ck_S → Bool) (k : ck_cont) (S : ck_S) (pc : Nat) (len : Nat) : Bool := len == 1 && k (ck_cst S 1 (v : Nat)) (pc + 1)
def cf_ldc (i : Nat) (M : ck_Me) (_ : Nat → ck_S → Bool) (k : ck_cont) (S : ck_S) (pc : Nat) (len : Nat) : Bool := len == 2 && (match (mkl M).find? (fun x => x.1 == i && x.2.1 == 0) with
  | some x => k (ck_cst S 0 x.2.2) (pc + 2)
  | none => false)
def cf_ldc_w (i : Nat) (M : ck_Me) (_ : Nat → ck_S → Bool) (k : ck_cont) (S : ck_S) (pc : Nat) (len : Nat) : Bool := len == 3 && (match (mkl M).find? (fun x => x.1 == i && x.2.1 == 0) with
  | some x => k (ck_cst S 0 x.2.2) (pc + 3)
  | none => false)
def cf_ldc2_w (i : Nat) (M : ck_Me) (_ : Nat → ck_S → Bool) (k : ck_cont) (S : ck_S) (pc : Nat) (len : Nat) : Bool := len == 3 && (match (mkl M).find? (fun x => x.1 == i && x.2.1 == 1) with
  | some x => k (ck_cst S 1 x.2.2) (pc + 3)
  | none => false)
def cf_iload_n (i : Fin 4) (_ : ck_Me) (_ : Nat → ck_S → Bool) (k : ck_cont) (S : ck_S) (pc : Nat) (len : Nat) : Bool := len == 1 && ck_ld S i (fun v => v.1 == 0) (fun S => k S (pc + 1))
def cf_iload (i : Nat) (_ : ck_Me) (_ : Nat → ck_S → Bool) (k : ck_cont) (S : ck_S) (pc : Nat) (len : Nat) : Bool := len == 2 && ck_ld S i (fun v => v.1 == 0) (fun S => k S (pc + 2))
def cf_lload_n (i : Fin 4) (_ : ck_Me) (_ : Nat → ck_S → Bool) (k : ck_cont) (S : ck_S) (pc : Nat) (len : Nat) : Bool := len == 1 && ck_ld S i (fun v => v.1 == 1) (fun S => k S (pc + 1))
def cf_lload (i : Nat) (_ : ck_Me) (_ : Nat → ck_S → Bool) (k : ck_cont) (S : ck_S) (pc : Nat) (len : Nat) : Bool := len == 2 && ck_ld S i (fun v => v.1 == 1) (fun S => k S (pc + 2))
def cf_aload_n (i : Fin 4) (_ : ck_Me) (_ : Nat → ck_S → Bool) (k : ck_cont) (S : ck_S) (pc : Nat) (len : Nat) : Bool := len == 1 && ck_ld S i ck_isr (fun S => k S (pc + 1))
def cf_aload (i : Nat) (_ : ck_Me) (_ : Nat → ck_S → Bool) (k : ck_cont) (S : ck_S) (pc : Nat) (len : Nat) : Bool := len == 2 && ck_ld S i ck_isr (fun S => k S (pc + 2))
def cf_istore_n (i : Fin 4) (M : ck_Me) (_ : Nat → ck_S → Bool) (k : ck_cont) (S : ck_S) (pc : Nat) (len : Nat) : Bool := len == 1 && ck_sto (mnL M) S i (fun v => v.1 == 0) (fun S => k S (pc + 1))
def cf_istore (i : Nat) (M : ck_Me) (_ : Nat → ck_S → Bool) (k : ck_cont) (S : ck_S) (pc : Nat) (len : Nat) : Bool := len == 2 && ck_sto (mnL M) S i (fun v => v.1 == 0) (fun S => k S (pc + 2))
def cf_astore_n (i : Fin 4) (M : ck_Me) (_ : Nat → ck_S → Bool) (k : ck_cont) (S : ck_S) (pc : Nat) (len : Nat) : Bool := len == 1 && ck_sto (mnL M) S i ck_isr (fun S => k S (pc + 1))
def cf_astore (i : Nat) (M : ck_Me) (_ : Nat → ck_S → Bool) (k : ck_cont) (S : ck_S) (pc : Nat) (len : Nat) : Bool := len == 2 && ck_sto (mnL M) S i ck_isr (fun S => k S (pc + 2))
def cf_lstore_n (i : Fin 4) (M : ck_Me) (_ : Nat → ck_S → Bool) (k : ck_cont) (S : ck_S) (pc : Nat) (len : Nat) : Bool := len == 1 && ck_sto2 (mnL M) S i (fun S => k S (pc + 1))
def cf_lstore (i : Nat) (M : ck_Me) (_ : Nat → ck_S → Bool) (k : ck_cont) (S : ck_S) (pc : Nat) (len : Nat) : Bool := len == 2 && ck_sto2 (mnL M) S i (fun S => k S (pc + 2))
def cf_iinc (i : Nat) (c : Int) (M : ck_Me) (_ : Nat → ck_S → Bool) (k : ck_cont) (S : ck_S) (pc : Nat) (len : Nat) : Bool := len == 3 && (decide (-32768 ≤ c ∧ c < 32768) && (decide (i < mnL M) && match ck_look S.1 i with
  | some v => v.1 == 0 && (let S1 := ck_cst S 0 c
      match ck_binS 32 0 S1 S.2.1 0 v.2.1 S.2.2.2.1.length with
      | some S' => (match S'.2.1 with
        | w :: _ => k (ck_st1 S.1 i w, S.2.1, S'.2.2) (pc + 3)
        | [] => false)
      | none => false)
  | none => false))
def cf_iadd (_ : ck_Me) (_ : Nat → ck_S → Bool) (k : ck_cont) (S : ck_S) (pc : Nat) (len : Nat) : Bool := len == 1 && ck_b2 32 0 0 S (fun S => k S (pc + 1))
def cf_isub (_ : ck_Me) (_ : Nat → ck_S → Bool) (k : ck_cont) (S : ck_S) (pc : Nat) (len : Nat) : Bool := len == 1 && ck_b2 32 1 0 S (fun S => k S (pc + 1))
def cf_imul (_ : ck_Me) (_ : Nat → ck_S → Bool) (k : ck_cont) (S : ck_S) (pc : Nat) (len : Nat) : Bool := len == 1 && ck_b2 32 2 0 S (fun S => k S (pc + 1))
def cf_iand (_ : ck_Me) (_ : Nat → ck_S → Bool) (k : ck_cont) (S : ck_S) (pc : Nat) (len : Nat) : Bool := len == 1 && ck_b2 32 3 0 S (fun S => k S (pc + 1))
def cf_ior (_ : ck_Me) (_ : Nat → ck_S → Bool) (k : ck_cont) (S : ck_S) (pc : Nat) (len : Nat) : Bool := len == 1 && ck_b2 32 4 0 S (fun S => k S (pc + 1))
def cf_ixor (_ : ck_Me) (_ : Nat → ck_S → Bool) (k : ck_cont) (S : ck_S) (pc : Nat) (len : Nat) : Bool := len == 1 && ck_b2 32 5 0 S (fun S => k S (pc + 1))
def cf_ishl (_ : ck_Me) (_ : Nat → ck_S → Bool) (k : ck_cont) (S : ck_S) (pc : Nat) (len : Nat) : Bool := len == 1 && ck_b2 32 6 0 S (fun S => k S (pc + 1))
def cf_ishr (_ : ck_Me) (_ : Nat → ck_S → Bool) (k : ck_cont) (S : ck_S) (pc : Nat) (len : Nat) : Bool := len == 1 && ck_b2 32 7 0 S (fun S => k S (pc + 1))
def cf_ladd (_ : ck_Me) (_ : Nat → ck_S → Bool) (k : ck_cont) (S : ck_S) (pc : Nat) (len : Nat) : Bool := len == 1 && ck_b2 64 0 1 S (fun S => k S (pc + 1))
def cf_lsub (_ : ck_Me) (_ : Nat → ck_S → Bool) (k : ck_cont) (S : ck_S) (pc : Nat) (len : Nat) : Bool := len == 1 && ck_b2 64 1 1 S (fun S => k S (pc + 1))
def cf_lmul (_ : ck_Me) (_ : Nat → ck_S → Bool) (k : ck_cont) (S : ck_S) (pc : Nat) (len : Nat) : Bool := len == 1 && ck_b2 64 2 1 S (fun S => k S (pc + 1))
def cf_land (_ : ck_Me) (_ : Nat → ck_S → Bool) (k : ck_cont) (S : ck_S) (pc : Nat) (len : Nat) : Bool := len == 1 && ck_b2 64 3 1 S (fun S => k S (pc + 1))
def cf_lor (_ : ck_Me) (_ : Nat → ck_S → Bool) (k : ck_cont) (S : ck_S) (pc : Nat) (len : Nat) : Bool := len == 1 && ck_b2 64 4 1 S (fun S => k S (pc + 1))
def cf_lxor (_ : ck_Me) (_ : Nat → ck_S → Bool) (k : ck_cont) (S : ck_S) (pc : Nat) (len : Nat) : Bool := len == 1 && ck_b2 64 5 1 S (fun S => k S (pc + 1))
def cf_idiv (_ : ck_Me) (_ : Nat → ck_S → Bool) (k : ck_cont) (S : ck_S) (pc : Nat) (len : Nat) : Bool := len == 1 && ck_un S (fun b _ => match S.2.2.2.1[b.2.1]? with
  | some x => (decide (0 < x.1) && decide (x.1 ≤ x.2)) && ck_b2 32 9 0 S (fun S => k S (pc + 1))
  | none => false)
def cf_irem (_ : ck_Me) (_ : Nat → ck_S → Bool) (k : ck_cont) (S : ck_S) (pc : Nat) (len : Nat) : Bool := len == 1 && ck_un S (fun b _ => match S.2.2.2.1[b.2.1]? with
  | some x => (decide (0 < x.1) && decide (x.1 ≤ x.2)) && ck_b2 32 10 0 S (fun S => k S (pc + 1))
  | none => false)
def cf_iushr (_ : ck_Me) (_ : Nat → ck_S → Bool) (k : ck_cont) (S : ck_S) (pc : Nat) (len : Nat) : Bool := len == 1 && (match S.2.1 with
  | b :: a :: st => b.1 == 0 && (a.1 == 0 && k (ck_new S st 0 [] (ck_top 32) []) (pc + 1))
  | _ => false)
def cf_lushr (_ : ck_Me) (_ : Nat → ck_S → Bool) (k : ck_cont) (S : ck_S) (pc : Nat) (len : Nat) : Bool := len == 1 && (match S.2.1 with
  | b :: a :: st => b.1 == 0 && (a.1 == 1 && k (ck_new S st 1 [] (ck_top 64) []) (pc + 1))
  | _ => false)
def cf_lshr (_ : ck_Me) (_ : Nat → ck_S → Bool) (k : ck_cont) (S : ck_S) (pc : Nat) (len : Nat) : Bool := len == 1 && (match S.2.1 with
  | b :: a :: st => b.1 == 0 && (a.1 == 1 && k (ck_new S st 1 [] (ck_top 64) []) (pc + 1))
  | _ => false)
def cf_lshl (_ : ck_Me) (_ : Nat → ck_S → Bool) (k : ck_cont) (S : ck_S) (pc : Nat) (len : Nat) : Bool := len == 1 && (match S.2.1 with
  | b :: a :: st => b.1 == 0 && (a.1 == 1 && (match S.2.2.2.1[a.2.1]?, S.2.2.2.1[b.2.1]? with
    | some x, some y => decide (x.1 ≤ x.2 ∧ y.1 ≤ y.2) && k (ck_new S st 1 [] (ck_bin 64 6 x y) []) (pc + 1)
    | _, _ => false))
  | _ => false)
def cf_ineg (_ : ck_Me) (_ : Nat → ck_S → Bool) (k : ck_cont) (S : ck_S) (pc : Nat) (len : Nat) : Bool := len == 1 && (match S.2.1 with
  | a :: st => a.1 == 0 && (match S.2.2.2.1[a.2.1]? with
    | some x => decide (x.1 ≤ x.2) && k (ck_new S st 0 [] (ck_cl 32 (-x.2, -x.1)) []) (pc + 1)
    | none => false)
  | _ => false)
def cf_i2l (_ : ck_Me) (_ : Nat → ck_S → Bool) (k : ck_cont) (S : ck_S) (pc : Nat) (len : Nat) : Bool := len == 1 && ck_un S (fun v st => v.1 == 0 && k (ck_ss S ((1, v.2.1, []) :: st)) (pc + 1))
def cf_l2i (_ : ck_Me) (_ : Nat → ck_S → Bool) (k : ck_cont) (S : ck_S) (pc : Nat) (len : Nat) : Bool := len == 1 && ck_un S (fun v st => v.1 == 1 && (match S.2.2.2.1[v.2.1]? with
  | some x => decide (x.1 ≤ x.2) && k (if -2147483648 ≤ x.1 ∧ x.2 < 2147483648 then ck_ss S ((0, v.2.1, []) :: st) else ck_new S st 0 [] (ck_top 32) []) (pc + 1)
  | none => false))
def cf_i2b (_ : ck_Me) (_ : Nat → ck_S → Bool) (k : ck_cont) (S : ck_S) (pc : Nat) (len : Nat) : Bool := len == 1 && ck_un S (fun v st => v.1 == 0 && k (ck_new S st 0 [] (-128, 127) []) (pc + 1))
def cf_i2s (_ : ck_Me) (_ : Nat → ck_S → Bool) (k : ck_cont) (S : ck_S) (pc : Nat) (len : Nat) : Bool := len == 1 && ck_un S (fun v st => v.1 == 0 && k (ck_new S st 0 [] (-32768, 32767) []) (pc + 1))
def cf_lcmp (_ : ck_Me) (_ : Nat → ck_S → Bool) (k : ck_cont) (S : ck_S) (pc : Nat) (len : Nat) : Bool := len == 1 && (match S.2.1 with
  | b :: a :: st => b.1 == 1 && (a.1 == 1 && k (ck_ss S ((7, a.2.1, [b.2.1]) :: st)) (pc + 1))
  | _ => false)
def cf_aconst_null (_ : ck_Me) (_ : Nat → ck_S → Bool) (k : ck_cont) (S : ck_S) (pc : Nat) (len : Nat) : Bool := len == 1 && k (ck_new S S.2.1 4 [] (1, 0) []) (pc + 1)
def cf_dup (_ : ck_Me) (_ : Nat → ck_S → Bool) (k : ck_cont) (S : ck_S) (pc : Nat) (len : Nat) : Bool := len == 1 && ck_un S (fun v st => ck_cat v == 1 && k (ck_ss S (v :: v :: st)) (pc + 1))
def cf_pop (_ : ck_Me) (_ : Nat → ck_S → Bool) (k : ck_cont) (S : ck_S) (pc : Nat) (len : Nat) : Bool := len == 1 && ck_un S (fun v st => ck_cat v == 1 && k (ck_ss S st) (pc + 1))
def cf_pop2 (_ : ck_Me) (_ : Nat → ck_S → Bool) (k : ck_cont) (S : ck_S) (pc : Nat) (len : Nat) : Bool := len == 1 && ck_un S (fun v st => v.1 == 1 && k (ck_ss S st) (pc + 1))
def cf_dup2 (_ : ck_Me) (_ : Nat → ck_S → Bool) (k : ck_cont) (S : ck_S) (pc : Nat) (len : Nat) : Bool := len == 1 && (match S.2.1 with
  | a :: b :: st => ck_cat a == 1 && (ck_cat b == 1 && k (ck_ss S (a :: b :: a :: b :: st)) (pc + 1))
  | _ => false)
def cf_goto (o : Int) (_ : ck_Me) (_ : Nat → ck_S → Bool) (k : ck_cont) (S : ck_S) (pc : Nat) (len : Nat) : Bool := len == 3 && ck_tgt pc o (k S)
def cf_ifCond (cd : ClassFile.Cond) (o : Int) (M : ck_Me) (_ : Nat → ck_S → Bool) (k : ck_cont) (S : ck_S) (pc : Nat) (len : Nat) : Bool := len == 3 && decide (0 ≤ (pc : Int) + o) && ck_un S (fun v st => if v.1 = 7 then (match v.2.2 with
    | [b] => ck_wcG (mF M) cd v.2.1 b (ck_ss S st) (fun S => ck_tgt pc o (k S)) (fun S => k S (pc + 3))
    | _ => false) else v.1 == 0 && ck_wcG (mF M) cd v.2.1 0 (ck_ss S st) (fun S => ck_tgt pc o (k S)) (fun S => k S (pc + 3)))
def cf_if_icmp (cd : ClassFile.Cond) (o : Int) (M : ck_Me) (_ : Nat → ck_S → Bool) (k : ck_cont) (S : ck_S) (pc : Nat) (len : Nat) : Bool := len == 3 && decide (0 ≤ (pc : Int) + o) && (match S.2.1 with
  | b :: a :: st => b.1 == 0 && (a.1 == 0 && ck_wcG (mF M) cd a.2.1 b.2.1 (ck_ss S st) (fun S => ck_tgt pc o (k S)) (fun S => k S (pc + 3)))
  | _ => false)
def cf_ifnull (o : Int) (_ : ck_Me) (_ : Nat → ck_S → Bool) (k : ck_cont) (S : ck_S) (pc : Nat) (len : Nat) : Bool := len == 3 && ck_nul S (fun S => ck_tgt pc o (k S)) (fun S => k S (pc + 3))
def cf_ifnonnull (o : Int) (_ : ck_Me) (_ : Nat → ck_S → Bool) (k : ck_cont) (S : ck_S) (pc : Nat) (len : Nat) : Bool := len == 3 && ck_nul S (fun S => k S (pc + 3)) (fun S => ck_tgt pc o (k S))
def cf_tableswitch (d : Int) (lo : Int) (hi : Int) (os : Array Int) (_ : ck_Me) (_ : Nat → ck_S → Bool) (k : ck_cont) (S : ck_S) (pc : Nat) (_ : Nat) : Bool := ck_un S (fun v st => v.1 == 0 && (decide (hi = lo + (os.size : Int) - 1) && (ck_sw v.2.1 lo (ck_ss S st) pc k os.toList &&
    (ck_iv v.2.1 (-2147483648) (lo - 1) (ck_ss S st) (fun S => ck_tgt pc d (k S)) && ck_iv v.2.1 (hi + 1) 2147483647 (ck_ss S st) (fun S => ck_tgt pc d (k S))))))
def cf_getfield (i : Nat) (M : ck_Me) (_ : Nat → ck_S → Bool) (k : ck_cont) (S : ck_S) (pc : Nat) (len : Nat) : Bool := len == 3 && ck_get M i S (fun S => k S (pc + 3))
def cf_putfield (i : Nat) (M : ck_Me) (_ : Nat → ck_S → Bool) (k : ck_cont) (S : ck_S) (pc : Nat) (len : Nat) : Bool := len == 3 && ck_put M i S (fun S => k S (pc + 3))
def cf_getstatic (i : Nat) (M : ck_Me) (_ : Nat → ck_S → Bool) (k : ck_cont) (S : ck_S) (pc : Nat) (len : Nat) : Bool := len == 3 && ((mgl M).contains i && k (ck_new S S.2.1 6 [] (1, 0) []) (pc + 3))
def cf_iaload (M : ck_Me) (_ : Nat → ck_S → Bool) (k : ck_cont) (S : ck_S) (pc : Nat) (len : Nat) : Bool := len == 1 && (match S.2.1 with
  | _ :: r :: _ => if r.1 = 5 then ck_sld M S (fun S => k S (pc + 1)) else ck_ald M 1 S (fun S => k S (pc + 1))
  | _ => false)
def cf_laload (M : ck_Me) (_ : Nat → ck_S → Bool) (k : ck_cont) (S : ck_S) (pc : Nat) (len : Nat) : Bool := len == 1 && (match S.2.1 with
  | _ :: r :: _ => if r.1 = 6 then ck_wld M S (fun S => k S (pc + 1)) else ck_ald M 2 S (fun S => k S (pc + 1))
  | _ => false)
def cf_baload (M : ck_Me) (_ : Nat → ck_S → Bool) (k : ck_cont) (S : ck_S) (pc : Nat) (len : Nat) : Bool := len == 1 && ck_ald M 4 S (fun S => k S (pc + 1))
def cf_aaload (M : ck_Me) (_ : Nat → ck_S → Bool) (k : ck_cont) (S : ck_S) (pc : Nat) (len : Nat) : Bool := len == 1 && (match S.2.1 with
  | _ :: r :: _ => (match r.2.2 with
    | t :: _ => (match (mTT M)[t]? with
      | some td => if td.1 = 3 then ck_ald M 3 S (fun S => k S (pc + 1)) else ck_ald M 5 S (fun S => k S (pc + 1))
      | none => false)
    | [] => false)
  | _ => false)
def cf_iastore (M : ck_Me) (_ : Nat → ck_S → Bool) (k : ck_cont) (S : ck_S) (pc : Nat) (len : Nat) : Bool := len == 1 && ck_ast M 1 S (fun S => k S (pc + 1))
def cf_lastore (M : ck_Me) (_ : Nat → ck_S → Bool) (k : ck_cont) (S : ck_S) (pc : Nat) (len : Nat) : Bool := len == 1 && ck_ast M 2 S (fun S => k S (pc + 1))
def cf_bastore (M : ck_Me) (_ : Nat → ck_S → Bool) (k : ck_cont) (S : ck_S) (pc : Nat) (len : Nat) : Bool := len == 1 && ck_ast M 4 S (fun S => k S (pc + 1))
def cf_aastore (M : ck_Me) (_ : Nat → ck_S → Bool) (k : ck_cont) (S : ck_S) (pc : Nat) (len : Nat) : Bool := len == 1 && ck_aast M S (fun S => k S (pc + 1))
def cf_arraylength (M : ck_Me) (_ : Nat → ck_S → Bool) (k : ck_cont) (S : ck_S) (pc : Nat) (len : Nat) : Bool := len == 1 && ck_len M S (fun S => k S (pc + 1))
def cf_new (i : Nat) (M : ck_Me) (_ : Nat → ck_S → Bool) (k : ck_cont) (S : ck_S) (pc : Nat) (len : Nat) : Bool := len == 3 && ck_mk M i S (fun S => k S (pc + 3))
def cf_instanceof (i : Nat) (M : ck_Me) (_ : Nat → ck_S → Bool) (k : ck_cont) (S : ck_S) (pc : Nat) (len : Nat) : Bool := len == 3 && ck_ins M i S (fun S => k S (pc + 3))
def cf_checkcast (i : Nat) (M : ck_Me) (_ : Nat → ck_S → Bool) (k : ck_cont) (S : ck_S) (pc : Nat) (len : Nat) : Bool := len == 3 && ck_cas M i S (fun S => k S (pc + 3))
def cf_invokevirtual (i : Nat) (M : ck_Me) (_ : Nat → ck_S → Bool) (k : ck_cont) (S : ck_S) (pc : Nat) (len : Nat) : Bool := len == 3 && ck_invG M (3 * i) S (fun S => k S (pc + 3))
def cf_invokestatic (i : Nat) (M : ck_Me) (_ : Nat → ck_S → Bool) (k : ck_cont) (S : ck_S) (pc : Nat) (len : Nat) : Bool := len == 3 && ck_invG M (3 * i + 1) S (fun S => k S (pc + 3))
def cf_invokespecial (i : Nat) (M : ck_Me) (_ : Nat → ck_S → Bool) (k : ck_cont) (S : ck_S) (pc : Nat) (len : Nat) : Bool := len == 3 && ck_invG M (3 * i + 2) S (fun S => k S (pc + 3))
def cf_return (_ : ck_Me) (kr : Nat → ck_S → Bool) (_ : ck_cont) (S : ck_S) (_ : Nat) (len : Nat) : Bool := len == 1 && (match S.2.1 with
  | [] => kr 0 S
  | _ => false)
def cf_ireturn (_ : ck_Me) (kr : Nat → ck_S → Bool) (_ : ck_cont) (S : ck_S) (_ : Nat) (len : Nat) : Bool := len == 1 && (match S.2.1 with
  | [v] => v.1 == 0 && kr 1 S
  | _ => false)
def cf_lreturn (_ : ck_Me) (kr : Nat → ck_S → Bool) (_ : ck_cont) (S : ck_S) (_ : Nat) (len : Nat) : Bool := len == 1 && (match S.2.1 with
  | [v] => v.1 == 1 && kr 2 S
  | _ => false)
def cf_areturn (_ : ck_Me) (kr : Nat → ck_S → Bool) (_ : ck_cont) (S : ck_S) (_ : Nat) (len : Nat) : Bool := len == 1 && (match S.2.1 with
  | [v] => (v.1 == 2 || (v.1 == 3 || v.1 == 4)) && kr 3 S
  | _ => false)
def ck_stepG (ins : Instr) : ck_stp := match ins with
  | .iconst v => cf_iconst v
  | .bipush v => cf_bipush v
  | .sipush v => cf_sipush v
  | .lconst v => cf_lconst v
  | .ldc i => cf_ldc i
  | .ldc_w i => cf_ldc_w i
  | .ldc2_w i => cf_ldc2_w i
  | .iload_n i => cf_iload_n i
  | .iload i => cf_iload i
  | .lload_n i => cf_lload_n i
  | .lload i => cf_lload i
  | .aload_n i => cf_aload_n i
  | .aload i => cf_aload i
  | .istore_n i => cf_istore_n i
  | .istore i => cf_istore i
  | .astore_n i => cf_astore_n i
  | .astore i => cf_astore i
  | .lstore_n i => cf_lstore_n i
  | .lstore i => cf_lstore i
  | .iinc i c => cf_iinc i c
  | .iadd => cf_iadd
  | .isub => cf_isub
  | .imul => cf_imul
  | .iand => cf_iand
  | .ior => cf_ior
  | .ixor => cf_ixor
  | .ishl => cf_ishl
  | .ishr => cf_ishr
  | .ladd => cf_ladd
  | .lsub => cf_lsub
  | .lmul => cf_lmul
  | .land => cf_land
  | .lor => cf_lor
  | .lxor => cf_lxor
  | .idiv => cf_idiv
  | .irem => cf_irem
  | .iushr => cf_iushr
  | .lushr => cf_lushr
  | .lshr => cf_lshr
  | .lshl => cf_lshl
  | .ineg => cf_ineg
  | .i2l => cf_i2l
  | .l2i => cf_l2i
  | .i2b => cf_i2b
  | .i2s => cf_i2s
  | .lcmp => cf_lcmp
  | .aconst_null => cf_aconst_null
  | .dup => cf_dup
  | .pop => cf_pop
  | .pop2 => cf_pop2
  | .dup2 => cf_dup2
  | .goto o => cf_goto o
  | .ifCond cd o => cf_ifCond cd o
  | .if_icmp cd o => cf_if_icmp cd o
  | .ifnull o => cf_ifnull o
  | .ifnonnull o => cf_ifnonnull o
  | .tableswitch d lo hi os => cf_tableswitch d lo hi os
  | .getfield i => cf_getfield i
  | .putfield i => cf_putfield i
  | .getstatic i => cf_getstatic i
  | .iaload => cf_iaload
  | .laload => cf_laload
  | .baload => cf_baload
  | .aaload => cf_aaload
  | .iastore => cf_iastore
  | .lastore => cf_lastore
  | .bastore => cf_bastore
  | .aastore => cf_aastore
  | .arraylength => cf_arraylength
  | .new i => cf_new i
  | .instanceof i => cf_instanceof i
  | .checkcast i => cf_checkcast i
  | .invokevirtual i => cf_invokevirtual i
  | .invokestatic i => cf_invokestatic i
  | .invokespecial i => cf_invokespecial i
  | .return_ => cf_return
  | .ireturn => cf_ireturn
  | .lreturn => cf_lreturn
  | .areturn => cf_areturn
  | _ => fun _ _ _ _ _ _ => false
theorem cfe_ifCond {M : ck_Me} {kr : Nat → ck_S → Bool} {k : ck_cont} {S : ck_S} {pc len : Nat} {cd : ClassFile.Cond} {o : Int} : cf_ifCond cd o M kr k S pc len = ck_step M kr k S pc (.ifCond cd o) len := by
  unfold cf_ifCond
  rw [ck_wcG_f]
  rfl
theorem cfe_if_icmp {M : ck_Me} {kr : Nat → ck_S → Bool} {k : ck_cont} {S : ck_S} {pc len : Nat} {cd : ClassFile.Cond} {o : Int} : cf_if_icmp cd o M kr k S pc len = ck_step M kr k S pc (.if_icmp cd o) len := by
  unfold cf_if_icmp
  rw [ck_wcG_f]
  rfl
theorem cfe_invokevirtual {M : ck_Me} {kr : Nat → ck_S → Bool} {k : ck_cont} {S : ck_S} {pc len : Nat} {i : Nat} : cf_invokevirtual i M kr k S pc len = ck_step M kr k S pc (.invokevirtual i) len := by
  unfold cf_invokevirtual
  rw [ck_invG_f]
  rfl
theorem cfe_invokestatic {M : ck_Me} {kr : Nat → ck_S → Bool} {k : ck_cont} {S : ck_S} {pc len : Nat} {i : Nat} : cf_invokestatic i M kr k S pc len = ck_step M kr k S pc (.invokestatic i) len := by
  unfold cf_invokestatic
  rw [ck_invG_f]
  rfl
theorem cfe_invokespecial {M : ck_Me} {kr : Nat → ck_S → Bool} {k : ck_cont} {S : ck_S} {pc len : Nat} {i : Nat} : cf_invokespecial i M kr k S pc len = ck_step M kr k S pc (.invokespecial i) len := by
  unfold cf_invokespecial
  rw [ck_invG_f]
  rfl
theorem ck_stepG_eq {M : ck_Me} {kr : Nat → ck_S → Bool} {k : ck_cont} {S : ck_S} {pc len : Nat} {ins : Instr} : ck_stepG ins M kr k S pc len = ck_step M kr k S pc ins len := by
  cases ins with
  | ifCond cd o => exact cfe_ifCond
  | if_icmp cd o => exact cfe_if_icmp
  | invokevirtual i => exact cfe_invokevirtual
  | invokestatic i => exact cfe_invokestatic
  | invokespecial i => exact cfe_invokespecial
  | _ => rfl
abbrev ck_cdG : Type := List (Nat × ck_stp × Nat)
def ck_gG (y : Nat × Instr × Nat) : Nat × ck_stp × Nat := (y.1, ck_stepG y.2.1, y.2.2)
theorem ck_nb (a b : Nat) : Nat.beq a b = (a == b) := Bool.eq_iff_iff.mpr (by rw [Nat.beq_eq, beq_iff_eq])
def ck_fndG (code : ck_cdG) (pc : Nat) : Option (ck_stp × Nat × ck_cdG) := @List.rec (Nat × ck_stp × Nat) (fun _ => Option (ck_stp × Nat × ck_cdG)) none (fun y t ih => match Nat.beq y.1 pc with
  | true => some (y.2.1, y.2.2, t)
  | false => ih) code
def ck_sfxG (code suf : ck_cdG) (pc : Nat) : Option (ck_stp × Nat × ck_cdG) := match suf with
  | y :: t => (match Nat.beq y.1 pc with
    | true => some (y.2.1, y.2.2, t)
    | false => ck_fndG code pc)
  | [] => ck_fndG code pc
def ck_fdG (sp : ck_spc) (pc : Nat) : Option (Nat × Nat × (ck_S → Option (List ck_S))) := @List.rec (Nat × Nat × (ck_S → Option (List ck_S))) (fun _ => Option (Nat × Nat × (ck_S → Option (List ck_S)))) none (fun x _ ih => match Nat.beq x.1 pc with
  | true => some x
  | false => ih) sp
theorem ck_fdG_eq {pc : Nat} : ∀ {sp : ck_spc}, ck_fdG sp pc = sp.find? (fun x => x.1 == pc)
  | [] => rfl
  | x :: t => by
    have ih := ck_fdG_eq (pc := pc) (sp := t)
    rw [List.find?_cons, ← ck_nb, ← ih]
    show (match Nat.beq x.1 pc with
      | true => some x
      | false => ck_fdG t pc) = _
    cases Nat.beq x.1 pc <;> rfl
abbrev ck_yG (y : Instr × Nat × ck_cd) : ck_stp × Nat × ck_cdG := (ck_stepG y.1, y.2.1, y.2.2.map ck_gG)
theorem ck_fnd_c {y : Nat × Instr × Nat} {t : ck_cd} {pc : Nat} : ck_fnd (y :: t) pc = match Nat.beq y.1 pc with
    | true => some (y.2.1, y.2.2, t)
    | false => ck_fnd t pc := by
  by_cases h : y.1 = pc
  · have hb : Nat.beq y.1 pc = true := by
      rw [Nat.beq_eq]
      exact h
    have e : (y :: t).dropWhile (fun y => !(y.1 == pc)) = y :: t := by
      rw [List.dropWhile_cons, ← ck_nb, hb]
      rfl
    rw [hb]
    unfold ck_fnd
    rw [e]
    exact if_pos h
  · have hb : Nat.beq y.1 pc = false := Bool.eq_false_iff.mpr (fun z => h (Nat.eq_of_beq_eq_true z))
    have e : (y :: t).dropWhile (fun y => !(y.1 == pc)) = t.dropWhile (fun y => !(y.1 == pc)) := by
      rw [List.dropWhile_cons, ← ck_nb, hb]
      rfl
    rw [hb]
    show ck_fnd (y :: t) pc = ck_fnd t pc
    unfold ck_fnd
    rw [e]
theorem ck_fndG_eq {pc : Nat} : ∀ {l : ck_cd}, ck_fndG (l.map ck_gG) pc = (ck_fnd l pc).map ck_yG
  | [] => rfl
  | y :: t => by
    have ih := ck_fndG_eq (pc := pc) (l := t)
    rw [ck_fnd_c]
    show (match Nat.beq y.1 pc with
      | true => some (ck_stepG y.2.1, y.2.2, t.map ck_gG)
      | false => ck_fndG (t.map ck_gG) pc) = _
    rw [ih]
    cases Nat.beq y.1 pc <;> rfl
theorem ck_sfxG_eq {code suf : ck_cd} {pc : Nat} : ck_sfxG (code.map ck_gG) (suf.map ck_gG) pc = (ck_sfx code suf pc).map ck_yG := by
  cases suf with
  | nil => exact ck_fndG_eq
  | cons y t =>
    have e : ck_sfx code (y :: t) pc = match Nat.beq y.1 pc with
        | true => some (y.2.1, y.2.2, t)
        | false => ck_fnd code pc := by
      by_cases h : y.1 = pc
      · have hb : Nat.beq y.1 pc = true := by
          rw [Nat.beq_eq]
          exact h
        rw [hb]
        exact if_pos h
      · have hb : Nat.beq y.1 pc = false := Bool.eq_false_iff.mpr (fun z => h (Nat.eq_of_beq_eq_true z))
        rw [hb]
        exact if_neg h
    rw [e]
    show (match Nat.beq y.1 pc with
      | true => some (ck_stepG y.2.1, y.2.2, t.map ck_gG)
      | false => ck_fndG (code.map ck_gG) pc) = _
    rw [ck_fndG_eq]
    cases Nat.beq y.1 pc <;> rfl
def ck_doG (M : ck_Me) (kr : Nat → ck_S → Bool) (sp : ck_spc) (code suf : ck_cdG) (k : ck_cdG → ck_S → Nat → Bool) (S : ck_S) (pc : Nat) : Bool := match ck_fdG sp pc with
  | some x => (match x.2.2 S with
    | some L => L.all (fun S' => k code S' x.2.1)
    | none => false)
  | none => match ck_sfxG code suf pc with
      | some y => y.1 M kr (fun S pc => k y.2.2 S pc) S pc y.2.1
      | none => false
theorem ck_doG_eq {M : ck_Me} {kr : Nat → ck_S → Bool} {sp : ck_spc} {code suf : ck_cd} {kG : ck_cdG → ck_S → Nat → Bool} {k : ck_cd → ck_S → Nat → Bool} (hk : ∀ suf S pc, kG (suf.map ck_gG) S pc = k suf S pc) {S : ck_S} {pc : Nat} :
    ck_doG M kr sp (code.map ck_gG) (suf.map ck_gG) kG S pc = ck_do M kr sp code suf k S pc := by
  unfold ck_doG ck_do
  rw [ck_fdG_eq, ck_sfxG_eq]
  cases sp.find? (fun x => x.1 == pc) with
  | some x =>
    dsimp only
    cases x.2.2 S with
    | some L =>
      dsimp only
      have e : (fun S' => kG (code.map ck_gG) S' x.2.1) = (fun S' => k code S' x.2.1) := funext (fun _ => hk _ _ _)
      rw [e]
    | none => rfl
  | none =>
    dsimp only
    cases ck_sfx code suf pc with
    | some y =>
      have e : (fun S pc => kG (y.2.2.map ck_gG) S pc) = (fun S pc => k y.2.2 S pc) := funext (fun _ => funext (fun _ => hk _ _ _))
      show ck_stepG y.1 M kr (fun S pc => kG (y.2.2.map ck_gG) S pc) S pc y.2.1 = _
      rw [e]
      exact ck_stepG_eq
    | none => rfl
def ck_goG (M : ck_Me) (kr : Nat → ck_S → Bool) (sp : ck_spc) (code : ck_cdG) (ivs : List (Nat × ck_I)) (nE : Nat) (cur : Option ck_K) (f : Nat) : ck_cdG → ck_S → Nat → Bool :=
  @Nat.rec (fun _ => ck_cdG → ck_S → Nat → Bool) (fun _ _ _ => false) (fun _ ih suf S pc => match ck_ex1 ivs (fun x => Nat.beq x.1 pc) with
    | true => ck_ex1 ivs (fun x => Nat.beq x.1 pc && ck_to (mF M) nE cur S x.2)
    | false => ck_doG M kr sp code suf ih S pc) f
theorem ck_goG_eq {M : ck_Me} {kr : Nat → ck_S → Bool} {sp : ck_spc} {code : ck_cd} {ivs : List (Nat × ck_I)} {nE : Nat} {cur : Option ck_K} : ∀ (f : Nat) (suf : ck_cd) (S : ck_S) (pc : Nat),
    ck_goG M kr sp (code.map ck_gG) ivs nE cur f (suf.map ck_gG) S pc = ck_go M kr sp code ivs nE cur f suf S pc
  | 0, _, _, _ => rfl
  | f + 1, suf, S, pc => by
    have e1 : ck_ex1 ivs (fun x => Nat.beq x.1 pc) = ivs.any (fun x => x.1 == pc) := by
      rw [ck_ex1_eq]
      exact congrArg ivs.any (funext (fun x => ck_nb x.1 pc))
    have e2 : ck_ex1 ivs (fun x => Nat.beq x.1 pc && ck_to (mF M) nE cur S x.2) = ivs.any (fun x => x.1 == pc && ck_to (mF M) nE cur S x.2) := by
      rw [ck_ex1_eq]
      refine congrArg ivs.any (funext (fun x => ?_))
      rw [ck_nb]
    show (match ck_ex1 ivs (fun x => Nat.beq x.1 pc) with
      | true => ck_ex1 ivs (fun x => Nat.beq x.1 pc && ck_to (mF M) nE cur S x.2)
      | false => ck_doG M kr sp (code.map ck_gG) (suf.map ck_gG) (fun suf S pc => ck_goG M kr sp (code.map ck_gG) ivs nE cur f suf S pc) S pc) = _
    rw [ck_doG_eq (fun suf S pc => ck_goG_eq f suf S pc), e1, e2, ck_go]
    cases ivs.any (fun x => x.1 == pc) <;> rfl
def ck_oneG (M : ck_Me) (kr : Nat → ck_S → Bool) (sp : ck_spc) (code : ck_cdG) (ivs : List (Nat × ck_I)) (nE f : Nat) (x : Nat × ck_I) : Bool := ck_okI nE x.2 && ck_doG M kr sp code code (fun suf S pc => ck_goG M kr sp code ivs nE (some x.2.2) f suf S pc) (ck_si nE x.2) x.1
def ck_chkG (M : ck_Me) (kr : Nat → ck_S → Bool) (sp : ck_spc) (code : ck_cdG) (ivs : List (Nat × ck_I)) (nE f : Nat) (S : ck_S) : Bool := ck_goG M kr sp code ivs nE none f code S 0 && ivs.all (ck_oneG M kr sp code ivs nE f)
theorem ck_chkG_ok {M : ck_Me} {kr : Nat → ck_S → Bool} {sp : ck_spc} {code : ck_cd} {cG : ck_cdG} (hc : code.map ck_gG = cG) {ivs : List (Nat × ck_I)} {nE f : Nat} {S : ck_S} (h : ck_chkG M kr sp cG ivs nE f S = true) : ck_chk M kr sp code ivs nE f S = true := by
  subst hc
  unfold ck_chkG at h
  unfold ck_chk
  rw [ck_goG_eq] at h
  have e : ck_oneG M kr sp (code.map ck_gG) ivs nE f = ck_one M kr sp code ivs nE f := by
    funext x
    unfold ck_oneG ck_one
    rw [ck_doG_eq (fun suf S pc => ck_goG_eq f suf S pc)]
  rw [e] at h
  exact h
end
