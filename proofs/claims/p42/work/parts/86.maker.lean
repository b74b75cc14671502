noncomputable section
/-! the makers: constructors, run on known numbers over a known world -/
abbrev mk_V : Type := Nat × Int × Nat
abbrev mk_C : Type := Nat × Nat × Nat × List mk_V
abbrev mk_W : Type := List mk_C
abbrev mk_S : Type := List (Nat × mk_V) × List mk_V × mk_W × Nat × Nat
abbrev mk_F : Type := mk_W → List mk_V → Option (List mk_V × mk_W)
/-- getfield, putfield, new, anewarray, multianewarray, constants, aastore, calls, locals, room -/
abbrev mk_T : Type := List (Nat × Nat × Nat) × List (Nat × Nat × Nat × Nat) × List (Nat × Nat × Nat × List mk_V) × List (Nat × Nat) × List (Nat × Nat) × List (Nat × Nat × Int) × List (Nat × Nat) × List (Nat × Nat × mk_F × Nat × Nat) × Nat × Nat × Nat
def mfl0 (T : mk_T) := T.1
def mpl0 (T : mk_T) := T.2.1
def mnw0 (T : mk_T) := T.2.2.1
def man0 (T : mk_T) := T.2.2.2.1
def mmn0 (T : mk_T) := T.2.2.2.2.1
def mkl0 (T : mk_T) := T.2.2.2.2.2.1
def mal0 (T : mk_T) := T.2.2.2.2.2.2.1
def mcl0 (T : mk_T) := T.2.2.2.2.2.2.2.1
def mnL0 (T : mk_T) := T.2.2.2.2.2.2.2.2.1
def mRC0 (T : mk_T) := T.2.2.2.2.2.2.2.2.2.1
def mRS0 (T : mk_T) := T.2.2.2.2.2.2.2.2.2.2
/-- values: null; an int; the place of a cell -/
def mk_vo (ws : va_W) (x : mk_V) (v : Value) : Prop := match x.1 with
  | 0 => v = .null
  | 1 => ∃ w : Int32, v = .int w ∧ w.toInt = x.2.1
  | _ => ∃ (a : Nat) (e : va_E), ws[x.2.2]? = some (a, e) ∧ v = .ref a
def mk_df (k : Nat) : mk_V := if k = 1 then (1, 0, 0) else (0, 0, 0)
def mk_at (c : mk_C) (i : Nat) : mk_V := c.2.2.2.getD i (mk_df c.1)
def mk_up (c : mk_C) (i : Nat) (v : mk_V) : mk_C := (c.1, c.2.1, c.2.2.1, (c.2.2.2 ++ List.replicate (i + 1 - c.2.2.2.length) (mk_df c.1)).set i v)
theorem mk_up_at (c : mk_C) (i j : Nat) (v : mk_V) : mk_at (mk_up c i v) j = if j = i then v else mk_at c j := by
  unfold mk_at mk_up
  dsimp only
  rw [List.getD_eq_getElem?_getD, List.getD_eq_getElem?_getD, List.getElem?_set]
  have hl : i < (c.2.2.2 ++ List.replicate (i + 1 - c.2.2.2.length) (mk_df c.1)).length := by simp; omega
  by_cases e : i = j
  · subst e
    rw [if_pos rfl, if_pos hl, if_pos rfl]
    rfl
  · rw [if_neg e, if_neg (fun z => e z.symm), List.getElem?_append]
    split
    · rfl
    · rename_i h
      have h2 : c.2.2.2[j]? = none := List.getElem?_eq_none (Nat.not_lt.mp h)
      rw [h2, List.getElem?_replicate]
      split <;> rfl
def mk_co (tys : List (ClassId × FieldType)) (ws : va_W) (c : mk_C) (e : va_E) : Prop := match c.1 with
  | 0 => ∃ vs : List Value, e = .inr (c.2.1, vs) ∧ vs.length = c.2.2.1 ∧ c.2.2.2.length = c.2.2.1 ∧ ck_two (mk_vo ws) c.2.2.2 vs
  | 1 => ∃ (cA : ClassId) (f : Nat → Int32), tys[c.2.1]? = some (cA, .int) ∧ e = .inl (cA, c.2.2.1, .inl f) ∧ ∀ i, mk_vo ws (mk_at c i) (.int (f i))
  | 2 => ∃ (cA : ClassId) (f : Nat → Int64), tys[c.2.1]? = some (cA, .long) ∧ e = .inl (cA, c.2.2.1, .inr (.inl f))
  | 3 => ∃ (cA : ClassId) (C : String) (f : Nat → Option Nat), tys[c.2.1]? = some (cA, .object C) ∧ e = .inl (cA, c.2.2.1, .inr (.inr (.inr (.inr f)))) ∧ ∀ i, mk_vo ws (mk_at c i) (va_rf (f i))
  | 4 => ∃ (cA : ClassId) (f : Nat → Int32), tys[c.2.1]? = some (cA, .boolean) ∧ e = .inl (cA, c.2.2.1, .inl f) ∧ ∀ i, f i = 0
  | _ => ∃ (cA : ClassId) (f : Nat → Option Nat), tys[c.2.1]? = some (cA, .array .int) ∧ e = .inl (cA, c.2.2.1, .inr (.inr (.inr (.inr f)))) ∧ ∀ i, i < c.2.2.1 → mk_vo ws (mk_at c i) (va_rf (f i))
def mk_le (ws ws' : va_W) : Prop := ∀ (i a : Nat) (e : va_E), ws[i]? = some (a, e) → ∃ e', ws'[i]? = some (a, e')
theorem mk_le.rf {ws : va_W} : mk_le ws ws := fun _ _ e h => ⟨e, h⟩
theorem mk_le.tr {a b c : va_W} (h : mk_le a b) (h2 : mk_le b c) : mk_le a c := fun i x e q => by
  obtain ⟨e1, q1⟩ := h i x e q
  exact h2 i x e1 q1
theorem mk_le.set {ws : va_W} {q a : Nat} {e e' : va_E} (h : ws[q]? = some (a, e)) : mk_le ws (ws.set q (a, e')) := fun i b u hi => by
  by_cases eq : q = i
  · subst eq
    rw [h] at hi
    cases hi
    exact ⟨e', List.getElem?_set_self (List.getElem?_eq_some_iff.mp h).1⟩
  · exact ⟨u, by rw [List.getElem?_set_ne eq]; exact hi⟩
theorem mk_le.app {ws l : va_W} : mk_le ws (ws ++ l) := fun i b u hi => ⟨u, by rw [List.getElem?_append_left (List.getElem?_eq_some_iff.mp hi).1]; exact hi⟩
theorem mk_vo.mv {ws ws' : va_W} (h : mk_le ws ws') {x : mk_V} {v : Value} (hv : mk_vo ws x v) : mk_vo ws' x v := by
  unfold mk_vo at hv ⊢
  split
  · rename_i e
    rw [e] at hv
    exact hv
  · rename_i e
    rw [e] at hv
    exact hv
  · rename_i h0 h1
    split at hv
    · rename_i e; exact absurd e h0
    · rename_i e; exact absurd e h1
    · obtain ⟨a, e, h2, h3⟩ := hv
      obtain ⟨e', h4⟩ := h _ a e h2
      exact ⟨a, e', h4, h3⟩
theorem mk_co.mv {tys : List (ClassId × FieldType)} {ws ws' : va_W} (h : mk_le ws ws') {c : mk_C} {e : va_E} (hc : mk_co tys ws c e) : mk_co tys ws' c e := by
  unfold mk_co at hc ⊢
  split at hc
  · obtain ⟨vs, h1, h2, h3, h4⟩ := hc
    exact ⟨vs, h1, h2, h3, h4.imp fun _ _ z => z.mv h⟩
  · obtain ⟨cA, f, h1, h2, h3⟩ := hc
    exact ⟨cA, f, h1, h2, fun i => (h3 i).mv h⟩
  · exact hc
  · obtain ⟨cA, C, f, h1, h2, h3⟩ := hc
    exact ⟨cA, C, f, h1, h2, fun i => (h3 i).mv h⟩
  · exact hc
  · obtain ⟨cA, f, h1, h2, h3⟩ := hc
    exact ⟨cA, f, h1, h2, fun i hi => (h3 i hi).mv h⟩
def mk_wo (tys : List (ClassId × FieldType)) (ws : va_W) (W : mk_W) : Prop := ws.length = W.length ∧ ∀ (i a : Nat) (e : va_E) (c : mk_C), ws[i]? = some (a, e) → W[i]? = some c → mk_co tys ws c e
theorem mk_wo.get {tys : List (ClassId × FieldType)} {ws : va_W} {W : mk_W} (h : mk_wo tys ws W) {j : Nat} {c : mk_C} (hj : W[j]? = some c) : ∃ (a : Nat) (e : va_E), ws[j]? = some (a, e) ∧ mk_co tys ws c e := by
  have hl : j < ws.length := by rw [h.1]; exact (List.getElem?_eq_some_iff.mp hj).1
  have hw : ws[j]? = some (ws[j].1, ws[j].2) := List.getElem?_eq_getElem hl
  exact ⟨_, _, hw, h.2 j _ _ c hw hj⟩
theorem mk_wo.set {tys : List (ClassId × FieldType)} {ws : va_W} {W : mk_W} (h : mk_wo tys ws W) {j a : Nat} {e e' : va_E} {c : mk_C} (hj : ws[j]? = some (a, e)) (hc : mk_co tys ws c e') : mk_wo tys (ws.set j (a, e')) (W.set j c) := by
  have hle : mk_le ws (ws.set j (a, e')) := mk_le.set hj
  have hlt := (List.getElem?_eq_some_iff.mp hj).1
  refine ⟨by rw [List.length_set, List.length_set]; exact h.1, fun i b u d hi hd => ?_⟩
  by_cases eq : j = i
  · subst eq
    rw [List.getElem?_set_self hlt] at hi
    rw [List.getElem?_set_self (by rw [← h.1]; exact hlt)] at hd
    cases hi
    cases hd
    exact hc.mv hle
  · rw [List.getElem?_set_ne eq] at hi hd
    exact (h.2 i b u d hi hd).mv hle
theorem mk_wo.app {tys : List (ClassId × FieldType)} {ws : va_W} {W : mk_W} (h : mk_wo tys ws W) {a : Nat} {e : va_E} {c : mk_C} (hc : mk_co tys (ws ++ [(a, e)]) c e) : mk_wo tys (ws ++ [(a, e)]) (W ++ [c]) := by
  refine ⟨by simp [h.1], fun i b u d hi hd => ?_⟩
  by_cases hlt : i < ws.length
  · rw [List.getElem?_append_left hlt] at hi
    rw [List.getElem?_append_left (by rw [← h.1]; exact hlt)] at hd
    exact (h.2 i b u d hi hd).mv mk_le.app
  · have ei : i = ws.length := by
      have := (List.getElem?_eq_some_iff.mp hi).1
      simp at this
      omega
    subst ei
    have h1 : (ws ++ [(a, e)])[ws.length]? = some (a, e) := by simp
    have h2 : (W ++ [c])[ws.length]? = some c := by rw [h.1]; simp
    rw [h1] at hi
    rw [h2] at hd
    cases hi
    cases hd
    exact hc
theorem mk_vo.cat {ws : va_W} {x : mk_V} {v : Value} (h : mk_vo ws x v) : v.category = 1 := by
  unfold mk_vo at h
  split at h
  · rw [h]; rfl
  · obtain ⟨w, rfl, -⟩ := h; rfl
  · obtain ⟨a, e, -, rfl⟩ := h; rfl
theorem mk_vo.i {ws : va_W} {x : mk_V} {v : Value} (h : mk_vo ws x v) (e : x.1 = 1) : ∃ w : Int32, v = .int w ∧ w.toInt = x.2.1 := by
  unfold mk_vo at h
  rw [e] at h
  exact h
theorem mk_vo.r {ws : va_W} {x : mk_V} {v : Value} (h : mk_vo ws x v) (e : x.1 = 2) : ∃ (a : Nat) (e : va_E), ws[x.2.2]? = some (a, e) ∧ v = .ref a := by
  unfold mk_vo at h
  rw [e] at h
  exact h
theorem mk_vo.ni {ws : va_W} {x : mk_V} {v : Value} (h : mk_vo ws x v) (e : x.1 ≠ 1) : v = .null ∨ ∃ a : Nat, v = .ref a := by
  unfold mk_vo at h
  split at h
  · exact Or.inl h
  · rename_i q; exact absurd q e
  · obtain ⟨a, _, -, rfl⟩ := h; exact Or.inr ⟨a, rfl⟩
theorem mk_vo.int {ws : va_W} {z : Int} {w : Int32} {j : Nat} (h : w.toInt = z) : mk_vo ws (1, z, j) (.int w) := ⟨w, rfl, h⟩
/-! the step -/
def mk_look (loc : List (Nat × mk_V)) (i : Nat) : Option mk_V := (loc.find? (fun q => q.1 == i)).map Prod.snd
def mk_s1 (loc : List (Nat × mk_V)) (i : Nat) (v : mk_V) : List (Nat × mk_V) := (i, v) :: loc.filter (fun q => !(q.1 == i))
def mk_psh (S : mk_S) (v : mk_V) : mk_S := (S.1, v :: S.2.1, S.2.2)
def mk_cst (S : mk_S) (pc : Nat) (v : Int) (ok : Bool) : Option (mk_S × Nat) := if ok = true then some (mk_psh S (1, v, 0), pc) else none
def mk_ld (S : mk_S) (pc i : Nat) (ok : mk_V → Bool) : Option (mk_S × Nat) := match mk_look S.1 i with
  | some v => if ok v = true then some (mk_psh S v, pc) else none
  | none => none
def mk_sto (nL : Nat) (S : mk_S) (pc i : Nat) (ok : mk_V → Bool) : Option (mk_S × Nat) := match S.2.1 with
  | v :: st => if ok v = true ∧ i < nL then some ((mk_s1 S.1 i v, st, S.2.2), pc) else none
  | [] => none
def mk_isi (v : mk_V) : Bool := v.1 == 1
def mk_isr (v : mk_V) : Bool := !(v.1 == 1)
def mk_in32 (z : Int) : Bool := decide (-2147483648 ≤ z ∧ z ≤ 2147483647)
def mk_inc (nL : Nat) (S : mk_S) (pc i : Nat) (c : Int) : Option (mk_S × Nat) := match mk_look S.1 i with
  | some v => if v.1 = 1 ∧ i < nL ∧ (-32768 ≤ c ∧ c < 32768) ∧ mk_in32 (v.2.1 + c) = true then some ((mk_s1 S.1 i (1, v.2.1 + c, 0), S.2), pc) else none
  | none => none
def mk_goto (S : mk_S) (t : Int) : Option (mk_S × Nat) := if 0 ≤ t then some (S, t.toNat) else none
def mk_cmp (cd : ClassFile.Cond) (x y : Int) : Bool := match cd with
  | .eq => decide (x = y)
  | .ne => !decide (x = y)
  | .lt => decide (x < y)
  | .ge => decide (y ≤ x)
  | .gt => decide (y < x)
  | .le => decide (x ≤ y)
def mk_icmp (S : mk_S) (pc : Nat) (cd : ClassFile.Cond) (off : Int) : Option (mk_S × Nat) := match S.2.1 with
  | y :: x :: st => if x.1 = 1 ∧ y.1 = 1 ∧ 0 ≤ (pc : Int) + off then (if mk_cmp cd x.2.1 y.2.1 = true then some ((S.1, st, S.2.2), ((pc : Int) + off).toNat) else some ((S.1, st, S.2.2), pc + 3)) else none
  | _ => none
def mk_shr (S : mk_S) (pc : Nat) : Option (mk_S × Nat) := match S.2.1 with
  | y :: x :: st => if x.1 = 1 ∧ y.1 = 1 ∧ 0 ≤ y.2.1 ∧ y.2.1 < 32 then some ((S.1, (1, x.2.1 >>> y.2.1.toNat, 0) :: st, S.2.2), pc) else none
  | _ => none
def mk_alen (S : mk_S) (pc : Nat) : Option (mk_S × Nat) := match S.2.1 with
  | r :: st => if r.1 = 2 then (match S.2.2.1[r.2.2]? with
    | some c => if c.1 ≠ 0 ∧ c.2.2.1 < 100000 then some ((S.1, (1, (c.2.2.1 : Int), 0) :: st, S.2.2), pc) else none
    | none => none) else none
  | [] => none
def mk_dup (S : mk_S) (pc : Nat) : Option (mk_S × Nat) := match S.2.1 with
  | v :: st => some ((S.1, v :: v :: st, S.2.2), pc)
  | [] => none
def mk_al (S : mk_S) (st : List mk_V) (cs : List mk_C) (n k RC RS : Nat) (pc : Nat) : Option (mk_S × Nat) :=
  if S.2.2.2.1 + n ≤ RC ∧ S.2.2.2.2 + k ≤ RS then some ((S.1, (2, 0, S.2.2.1.length) :: st, S.2.2.1 ++ cs, S.2.2.2.1 + n, S.2.2.2.2 + k), pc) else none
def mk_at0 (a : ArrayType) : Option (Nat × Nat) := match a with
  | .int => some (1, 0)
  | .long => some (2, 1)
  | .boolean => some (4, 2)
  | _ => none
def mk_nar (T : mk_T) (S : mk_S) (pc : Nat) (a : ArrayType) : Option (mk_S × Nat) := match S.2.1, mk_at0 a with
  | v :: st, some x => if v.1 = 1 ∧ 0 ≤ v.2.1 ∧ v.2.1 ≤ 60000 then mk_al S st [(x.1, x.2, v.2.1.toNat, [])] 1 v.2.1.toNat (mRC0 T) (mRS0 T) pc else none
  | _, _ => none
def mk_anr (T : mk_T) (S : mk_S) (pc idx : Nat) : Option (mk_S × Nat) := match S.2.1, (man0 T).find? (fun x => x.1 == idx) with
  | v :: st, some x => if v.1 = 1 ∧ 0 ≤ v.2.1 ∧ v.2.1 ≤ 60000 then mk_al S st [(3, x.2, v.2.1.toNat, [])] 1 v.2.1.toNat (mRC0 T) (mRS0 T) pc else none
  | _, _ => none
def mk_mnr (T : mk_T) (S : mk_S) (pc idx : Nat) : Option (mk_S × Nat) := match S.2.1, (mmn0 T).find? (fun x => x.1 == idx) with
  | k :: n :: st, some x => if k.1 = 1 ∧ n.1 = 1 ∧ 0 ≤ k.2.1 ∧ 0 ≤ n.2.1 ∧ k.2.1 ≤ 60000 ∧ n.2.1 ≤ 60000 then
      mk_al S st ((5, x.2, n.2.1.toNat, (List.range n.2.1.toNat).map (fun i => (2, 0, S.2.2.1.length + 1 + i))) :: List.replicate n.2.1.toNat (1, 0, k.2.1.toNat, [])) (1 + n.2.1.toNat) (n.2.1.toNat + n.2.1.toNat * k.2.1.toNat) (mRC0 T) (mRS0 T) pc else none
  | _, _ => none
def mk_new (T : mk_T) (S : mk_S) (pc idx : Nat) : Option (mk_S × Nat) := match (mnw0 T).find? (fun x => x.1 == idx) with
  | some x => if x.2.2.2.length = x.2.2.1 then mk_al S S.2.1 [(0, x.2.1, x.2.2.1, x.2.2.2)] 1 x.2.2.1 (mRC0 T) (mRS0 T) pc else none
  | none => none
def mk_get (T : mk_T) (S : mk_S) (pc idx : Nat) : Option (mk_S × Nat) := match S.2.1 with
  | r :: st => if r.1 = 2 then (match S.2.2.1[r.2.2]? with
    | some c => if c.1 = 0 then (match (mfl0 T).find? (fun x => x.1 == idx && x.2.1 == c.2.1) with
      | some x => (match c.2.2.2[x.2.2]? with
        | some v => some ((S.1, v :: st, S.2.2), pc)
        | none => none)
      | none => none) else none
    | none => none) else none
  | [] => none
def mk_pok (b : Nat) (v : mk_V) : Bool := match b with
  | 0 => v.1 == 1
  | 1 => v.1 == 1 && decide (0 ≤ v.2.1 ∧ v.2.1 ≤ 1)
  | _ => !(v.1 == 1)
def mk_put (T : mk_T) (S : mk_S) (pc idx : Nat) : Option (mk_S × Nat) := match S.2.1 with
  | v :: r :: st => if r.1 = 2 then (match S.2.2.1[r.2.2]? with
    | some c => if c.1 = 0 then (match (mpl0 T).find? (fun x => x.1 == idx && x.2.1 == c.2.1) with
      | some x => if mk_pok x.2.2.2 v = true ∧ x.2.2.1 < c.2.2.1 then some ((S.1, st, S.2.2.1.set r.2.2 (0, c.2.1, c.2.2.1, c.2.2.2.set x.2.2.1 v), S.2.2.2), pc) else none
      | none => none) else none
    | none => none) else none
  | _ => none
def mk_iast (S : mk_S) (pc : Nat) : Option (mk_S × Nat) := match S.2.1 with
  | v :: i :: r :: st => if v.1 = 1 ∧ i.1 = 1 ∧ r.1 = 2 ∧ 0 ≤ i.2.1 then (match S.2.2.1[r.2.2]? with
    | some c => if c.1 = 1 ∧ i.2.1.toNat < c.2.2.1 then some ((S.1, st, S.2.2.1.set r.2.2 (mk_up c i.2.1.toNat v), S.2.2.2), pc) else none
    | none => none) else none
  | _ => none
def mk_aast (T : mk_T) (S : mk_S) (pc : Nat) : Option (mk_S × Nat) := match S.2.1 with
  | v :: i :: r :: st => if v.1 = 2 ∧ i.1 = 1 ∧ r.1 = 2 ∧ 0 ≤ i.2.1 then (match S.2.2.1[r.2.2]?, S.2.2.1[v.2.2]? with
    | some c, some o => if c.1 = 3 ∧ o.1 = 0 ∧ i.2.1.toNat < c.2.2.1 ∧ (mal0 T).contains (c.2.1, o.2.1) = true then some ((S.1, st, S.2.2.1.set r.2.2 (mk_up c i.2.1.toNat v), S.2.2.2), pc) else none
    | _, _ => none) else none
  | _ => none
def mk_hd (key : Nat) (xs : List mk_V) : Bool := !(key % 3 == 2) || (match xs with
  | v :: _ => v.1 == 2
  | [] => false)
def mk_call (T : mk_T) (S : mk_S) (pc key : Nat) : Option (mk_S × Nat) := match (mcl0 T).find? (fun x => x.1 == key) with
  | some x => if x.2.1 ≤ S.2.1.length ∧ S.2.1.length ≤ 8 ∧ S.2.2.2.1 + x.2.2.2.1 ≤ mRC0 T ∧ S.2.2.2.2 + x.2.2.2.2 ≤ mRS0 T ∧ mk_hd key (S.2.1.take x.2.1).reverse = true then (match x.2.2.1 S.2.2.1 (S.2.1.take x.2.1).reverse with
    | some r => some ((S.1, r.1 ++ S.2.1.drop x.2.1, r.2, S.2.2.2.1 + x.2.2.2.1, S.2.2.2.2 + x.2.2.2.2), pc)
    | none => none) else none
  | none => none
def mk_st (T : mk_T) (S : mk_S) (pc : Nat) (i : Instr) (l : Nat) : Option (mk_S × Nat) := match i with
  | .iconst v => if l = 1 then mk_cst S (pc + 1) v (mk_in32 v) else none
  | .bipush v => if l = 2 then mk_cst S (pc + 2) v (decide (-128 ≤ v ∧ v ≤ 127)) else none
  | .sipush v => if l = 3 then mk_cst S (pc + 3) v (decide (-32768 ≤ v ∧ v ≤ 32767)) else none
  | .ldc idx => if l = 2 then (match (mkl0 T).find? (fun x => x.1 == idx && x.2.1 == 0) with
    | some x => mk_cst S (pc + 2) x.2.2 true
    | none => none) else none
  | .iload_n k => if l = 1 then mk_ld S (pc + 1) k mk_isi else none
  | .iload k => if l = 2 then mk_ld S (pc + 2) k mk_isi else none
  | .aload_n k => if l = 1 then mk_ld S (pc + 1) k mk_isr else none
  | .istore_n k => if l = 1 then mk_sto (mnL0 T) S (pc + 1) k mk_isi else none
  | .istore k => if l = 2 then mk_sto (mnL0 T) S (pc + 2) k mk_isi else none
  | .astore_n k => if l = 1 then mk_sto (mnL0 T) S (pc + 1) k mk_isr else none
  | .iinc k c => if l = 3 then mk_inc (mnL0 T) S (pc + 3) k c else none
  | .goto off => if l = 3 then mk_goto S ((pc : Int) + off) else none
  | .if_icmp cd off => if l = 3 then mk_icmp S pc cd off else none
  | .ishr => if l = 1 then mk_shr S (pc + 1) else none
  | .arraylength => if l = 1 then mk_alen S (pc + 1) else none
  | .dup => if l = 1 then mk_dup S (pc + 1) else none
  | .newarray a => if l = 2 then mk_nar T S (pc + 2) a else none
  | .anewarray idx => if l = 3 then mk_anr T S (pc + 3) idx else none
  | .multianewarray idx d => if l = 4 ∧ d = 2 then mk_mnr T S (pc + 4) idx else none
  | .new idx => if l = 3 then mk_new T S (pc + 3) idx else none
  | .getfield idx => if l = 3 then mk_get T S (pc + 3) idx else none
  | .putfield idx => if l = 3 then mk_put T S (pc + 3) idx else none
  | .iastore => if l = 1 then mk_iast S (pc + 1) else none
  | .aastore => if l = 1 then mk_aast T S (pc + 1) else none
  | .invokestatic idx => if l = 3 then mk_call T S (pc + 3) (3 * idx + 1) else none
  | .invokespecial idx => if l = 3 then mk_call T S (pc + 3) (3 * idx + 2) else none
  | _ => none
def mk_ret (T : mk_T) (rt : Nat) (i : Instr) (l : Nat) (S : mk_S) : Option (List mk_V × mk_W) := if S.2.2.2.1 ≤ mRC0 T ∧ S.2.2.2.2 ≤ mRS0 T then (match i with
  | .return_ => if rt = 0 ∧ l = 1 ∧ S.2.1 = [] then some ([], S.2.2.1) else none
  | .ireturn => if rt = 1 ∧ l = 1 ∧ S.2.1.length = 1 ∧ S.2.1.all mk_isi = true then some (S.2.1, S.2.2.1) else none
  | .areturn => if rt = 4 ∧ l = 1 ∧ S.2.1.length = 1 ∧ S.2.1.all mk_isr = true then some (S.2.1, S.2.2.1) else none
  | _ => none) else none
def mk_run (T : mk_T) (rt : Nat) (code : ck_cd) : Nat → mk_S → Nat → Option (List mk_V × mk_W)
  | 0, _, _ => none
  | f + 1, S, pc => match code.find? (fun y => y.1 == pc) with
    | none => none
    | some y => match mk_ret T rt y.2.1 y.2.2 S with
      | some r => some r
      | none => match mk_st T S pc y.2.1 y.2.2 with
        | some x => mk_run T rt code f x.1 x.2
        | none => none
def mk_ar : Nat → List mk_V → List (Nat × mk_V)
  | _, [] => []
  | i, v :: l => (i, v) :: mk_ar (i + 1) l
/-- a method as a function -/
def mk_fn (T : mk_T) (rt : Nat) (code : ck_cd) (f : Nat) : mk_F := fun W xs => if xs.length ≤ mnL0 T then mk_run T rt code f (mk_ar 0 xs, [], W, 0, 0) 0 else none
end
