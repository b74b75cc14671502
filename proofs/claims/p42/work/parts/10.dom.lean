noncomputable section
/-! A CHECKER: straight-line abstract runs of a method, proved sound once over the kit's rows; methods are then checked by the kernel. Words: a value (tag, sym, types): 0 int, 1 long, 2 a cell of one of the types, 3 the same or null, 4 null, 5 the script, 7 an lcmp of two syms. -/
abbrev ck_V : Type := Nat × Nat × List Nat
abbrev ck_T : Type := Nat × Int × Int × List Nat
abbrev ck_D : Type := Nat × Nat × Nat × List ck_T
abbrev ck_R : Type := Nat × Nat × Int
abbrev ck_M : Type := Nat × Nat × ck_V
abbrev ck_E : Type := List (Int × Int)
/-- a state: locals, stack, memory, intervals, relations, cells and slots made -/
abbrev ck_S : Type := List (Nat × ck_V) × List ck_V × List ck_M × ck_E × List ck_R × Nat × Nat
/-- a pattern: values, memory, intervals, relations -/
abbrev ck_P : Type := List ck_V × List ck_M × ck_E × List ck_R
/-- a contract: entry, cases, what it may write, cells and slots made -/
abbrev ck_C : Type := ck_P × List ck_P × List (Nat × Nat) × Nat × Nat
/-- a place with a picture: locals, stack, memory, intervals, relations, made, rank -/
abbrev ck_K : Type := List (Nat × Nat × Int)
abbrev ck_I : Type := ck_S × ck_K
def ck_max (a b : Int) : Int := if a ≤ b then b else a
def ck_min (a b : Int) : Int := if a ≤ b then a else b
theorem ck_max_le {a b c : Int} : ck_max a b ≤ c ↔ a ≤ c ∧ b ≤ c := by unfold ck_max; split <;> omega
theorem ck_le_min {a b c : Int} : c ≤ ck_min a b ↔ c ≤ a ∧ c ≤ b := by unfold ck_min; split <;> omega
/-- a ≤ b, by the numbers' forms: cheap for the kernel -/
def ck_il (a b : Int) : Bool := Int.casesOn a (fun m => Int.casesOn b (fun n => Nat.ble m n) (fun _ => false)) (fun m => Int.casesOn b (fun _ => true) (fun n => Nat.ble n m))
theorem ck_il_iff {a b : Int} : ck_il a b = true ↔ a ≤ b := by
  cases a with
  | ofNat m =>
    have e1 : Int.ofNat m = (m : Int) := rfl
    cases b with
    | ofNat n =>
      have e2 : Int.ofNat n = (n : Int) := rfl
      show Nat.ble m n = true ↔ _
      rw [Nat.ble_eq, e1, e2]
      omega
    | negSucc n =>
      have e2 := Int.negSucc_eq n
      show false = true ↔ _
      rw [e1, e2]
      exact ⟨fun z => absurd z Bool.false_ne_true, fun z => by omega⟩
  | negSucc m =>
    have e1 := Int.negSucc_eq m
    cases b with
    | ofNat n =>
      have e2 : Int.ofNat n = (n : Int) := rfl
      show true = true ↔ _
      rw [e1, e2]
      exact ⟨fun _ => by omega, fun _ => rfl⟩
    | negSucc n =>
      have e2 := Int.negSucc_eq n
      show Nat.ble n m = true ↔ _
      rw [Nat.ble_eq, e1, e2]
      omega
/-- the k-th, and 'some', by the rows' own recursion -/
noncomputable def ck_nth {α : Type} (l : List α) : Nat → Option α := @List.rec α (fun _ => Nat → Option α) (fun _ => none) (fun x _ ih k => @Nat.rec (fun _ => Option α) (some x) (fun m _ => ih m) k) l
theorem ck_nth_eq {α : Type} : ∀ {l : List α} {k : Nat}, ck_nth l k = l[k]?
  | [], _ => by
    rw [List.getElem?_nil]
    rfl
  | x :: l, 0 => by
    rw [List.getElem?_cons_zero]
    rfl
  | x :: l, k + 1 => by
    rw [List.getElem?_cons_succ, ← ck_nth_eq (l := l) (k := k)]
    rfl
noncomputable def ck_ex1 {α : Type} (l : List α) (p : α → Bool) : Bool := @List.rec α (fun _ => Bool) false (fun x _ ih => @Bool.rec (fun _ => Bool) ih true (p x)) l
theorem ck_ex1_eq {α : Type} {p : α → Bool} : ∀ {l : List α}, ck_ex1 l p = l.any p
  | [] => rfl
  | x :: l => by
    rw [List.any_cons, ← ck_ex1_eq (l := l) (p := p)]
    show @Bool.rec (fun _ => Bool) (ck_ex1 l p) true (p x) = _
    cases p x <;> rfl
/-- some relation of a leads on -/
noncomputable def ck_exE (R : List ck_R) (a : Nat) (p : Nat → Int → Bool) : Bool := @List.rec ck_R (fun _ => Bool) false (fun r _ ih => @Bool.rec (fun _ => Bool) ih (@Bool.rec (fun _ => Bool) ih true (p r.2.1 r.2.2)) (Nat.beq r.1 a)) R
theorem ck_exE_eq {a : Nat} {p : Nat → Int → Bool} : ∀ {R : List ck_R}, ck_exE R a p = R.any (fun r => Nat.beq r.1 a && p r.2.1 r.2.2)
  | [] => rfl
  | r :: R => by
    rw [List.any_cons, ← ck_exE_eq (a := a) (p := p) (R := R)]
    show @Bool.rec (fun _ => Bool) (ck_exE R a p) (@Bool.rec (fun _ => Bool) (ck_exE R a p) true (p r.2.1 r.2.2)) (Nat.beq r.1 a) = _
    cases Nat.beq r.1 a <;> cases p r.2.1 r.2.2 <;> rfl
noncomputable def ck_dir (E : ck_E) (a b : Nat) (c : Int) : Bool :=
  (Nat.beq a b && ck_il 0 c) || match ck_nth E a, ck_nth E b with
    | some x, some y => ck_il x.1 x.2 && (ck_il y.1 y.2 && ck_il x.2 (Int.add y.1 c))
    | _, _ => false
noncomputable def ck_ent (E : ck_E) (R : List ck_R) (F : Nat) : Nat → Nat → Int → Bool :=
  @Nat.rec (fun _ => Nat → Nat → Int → Bool) (fun a b c => ck_dir E a b c) (fun _ ih a b c => @Bool.rec (fun _ => Bool) (ck_exE R a (fun d e => ih d b (Int.sub c e))) true (ck_dir E a b c)) F
theorem ck_ent_s {E : ck_E} {R : List ck_R} {F a b : Nat} {c : Int} : ck_ent E R (F + 1) a b c = (ck_dir E a b c || R.any (fun r => Nat.beq r.1 a && ck_ent E R F r.2.1 b (c - r.2.2))) := by
  have e : ck_exE R a (fun d e => ck_ent E R F d b (Int.sub c e)) = R.any (fun r => Nat.beq r.1 a && ck_ent E R F r.2.1 b (c - r.2.2)) := ck_exE_eq
  rw [← e]
  show @Bool.rec (fun _ => Bool) (ck_exE R a (fun d e => ck_ent E R F d b (Int.sub c e))) true (ck_dir E a b c) = _
  cases ck_dir E a b c <;> rfl
/-- the meaning -/
abbrev ck_N : Type := Nat → Int × Value
def ck_eo (E : ck_E) (n : ck_N) : Prop := ∀ (k : Nat) (x : Int × Int), E[k]? = some x → x.1 ≤ x.2 → x.1 ≤ (n k).1 ∧ (n k).1 ≤ x.2
def ck_ro (R : List ck_R) (n : ck_N) (N : Nat) : Prop := ∀ r ∈ R, r.1 < N ∧ r.2.1 < N ∧ (n r.1).1 ≤ (n r.2.1).1 + r.2.2
theorem ck_dir_ok {E : ck_E} {n : ck_N} (hE : ck_eo E n) {a b : Nat} {c : Int} (h : ck_dir E a b c = true) : (n a).1 ≤ (n b).1 + c := by
  unfold ck_dir at h
  rw [Bool.or_eq_true] at h
  rcases h with h | h
  · rw [Bool.and_eq_true] at h
    have h1 := Nat.eq_of_beq_eq_true h.1
    have h2 := ck_il_iff.mp h.2
    subst h1
    omega
  · split at h
    · rename_i x y hx hy
      rw [ck_nth_eq] at hx hy
      rw [Bool.and_eq_true, Bool.and_eq_true] at h
      have h1 := ck_il_iff.mp h.1
      have h2 := ck_il_iff.mp h.2.1
      have h3 := ck_il_iff.mp h.2.2
      have h3 : x.2 ≤ y.1 + c := h3
      have a1 := hE a x hx h1
      have a2 := hE b y hy h2
      omega
    · cases h
theorem ck_ent_ok {E : ck_E} {R : List ck_R} {n : ck_N} {N : Nat} (hE : ck_eo E n) (hR : ck_ro R n N) : ∀ (f a b : Nat) (c : Int), ck_ent E R f a b c = true → (n a).1 ≤ (n b).1 + c := by
  intro f
  induction f with
  | zero => exact fun a b c h => ck_dir_ok hE h
  | succ f ih =>
    intro a b c h
    rw [ck_ent_s, Bool.or_eq_true] at h
    rcases h with h | h
    · exact ck_dir_ok hE h
    · obtain ⟨r, hr, h⟩ := List.any_eq_true.mp h
      rw [Bool.and_eq_true] at h
      have h1 := Nat.eq_of_beq_eq_true h.1
      have h2 := ih _ _ _ h.2
      have h3 := (hR r hr).2.2
      rw [h1] at h3
      omega
/-- learn that a ≤ b + c -/
def ck_le (a b : Nat) (c : Int) (E : ck_E) (R : List ck_R) : ck_E × List ck_R :=
  match E[a]?, E[b]? with
  | some x, some y =>
    if x.1 ≤ x.2 ∧ y.1 ≤ y.2 then
      ((E.set a (x.1, ck_min x.2 (y.2 + c))).set b (ck_max y.1 (x.1 - c), if a = b then ck_min x.2 (y.2 + c) else y.2), if x.1 = x.2 ∨ y.1 = y.2 then R else (a, b, c) :: R)
    else (E, R)
  | _, _ => (E, R)
/-- no number is left for a -/
def ck_dead (E : ck_E) (a : Nat) : Bool := match E[a]? with
  | some x => decide (x.2 < x.1)
  | none => false
theorem ck_le_len (a b : Nat) (c : Int) (E : ck_E) (R : List ck_R) : (ck_le a b c E R).1.length = E.length := by
  unfold ck_le
  split
  · split <;> simp
  · rfl
theorem ck_le_ok {E : ck_E} {R : List ck_R} {n : ck_N} (hE : ck_eo E n) (hR : ck_ro R n E.length) {a b : Nat} {c : Int} (h : (n a).1 ≤ (n b).1 + c) :
    ck_eo (ck_le a b c E R).1 n ∧ ck_ro (ck_le a b c E R).2 n E.length ∧ (∀ x, E[a]? = some x → x.1 ≤ x.2 → ck_dead (ck_le a b c E R).1 a = false) ∧ (∀ x, E[b]? = some x → x.1 ≤ x.2 → ck_dead (ck_le a b c E R).1 b = false) := by
  have dead0 : ∀ (k : Nat) (x : Int × Int), E[k]? = some x → x.1 ≤ x.2 → ck_dead E k = false := by
    intro k x hx hle
    simp only [ck_dead, hx]
    exact decide_eq_false (by omega)
  unfold ck_le
  split
  · rename_i x y hx hy
    split
    · rename_i hxy
      have hla : a < E.length := (List.getElem?_eq_some_iff.mp hx).1
      have hlb : b < E.length := (List.getElem?_eq_some_iff.mp hy).1
      have ha := hE a x hx hxy.1
      have hb := hE b y hy hxy.2
      have key : ∀ (k : Nat) (z : Int × Int), ((E.set a (x.1, ck_min x.2 (y.2 + c))).set b (ck_max y.1 (x.1 - c), if a = b then ck_min x.2 (y.2 + c) else y.2))[k]? = some z → (k = a ∨ k = b ∨ z.1 ≤ z.2) → z.1 ≤ (n k).1 ∧ (n k).1 ≤ z.2 := by
        intro k z hz hk
        rw [List.getElem?_set] at hz
        by_cases e1 : b = k
        · subst e1
          rw [if_pos rfl] at hz
          simp only [List.length_set, hlb, if_true, Option.some.injEq] at hz
          subst hz
          refine ⟨ck_max_le.mpr ⟨hb.1, by omega⟩, ?_⟩
          show (n b).1 ≤ (if a = b then ck_min x.2 (y.2 + c) else y.2)
          split
          · rename_i e2
            subst e2
            exact ck_le_min.mpr ⟨ha.2, by omega⟩
          · exact hb.2
        · rw [if_neg e1, List.getElem?_set] at hz
          by_cases e2 : a = k
          · subst e2
            rw [if_pos rfl] at hz
            simp only [hla, if_true, Option.some.injEq] at hz
            subst hz
            exact ⟨ha.1, ck_le_min.mpr ⟨ha.2, by omega⟩⟩
          · rw [if_neg e2] at hz
            rcases hk with hk | hk | hk
            · exact absurd hk.symm e2
            · exact absurd hk.symm e1
            · exact hE k z hz hk
      refine ⟨fun k z hz hk => key k z hz (Or.inr (Or.inr hk)), ?_, fun _ _ _ => ?_, fun _ _ _ => ?_⟩
      · intro r hr
        dsimp only at hr
        split at hr
        · exact hR r hr
        · rcases List.mem_cons.mp hr with rfl | hr
          · exact ⟨hla, hlb, h⟩
          · exact hR r hr
      · unfold ck_dead
        split
        · rename_i z hz
          exact decide_eq_false (by have := key a z hz (Or.inl rfl); omega)
        · rfl
      · unfold ck_dead
        split
        · rename_i z hz
          exact decide_eq_false (by have := key b z hz (Or.inr (Or.inl rfl)); omega)
        · rfl
    · exact ⟨hE, hR, dead0 a, dead0 b⟩
  · exact ⟨hE, hR, dead0 a, dead0 b⟩
end
