noncomputable section
/-! what is said of a trace holds of it -/
theorem lk_mem : ∀ {l : fL_} {i : Nat} {v : Value}, lk l i = some v → ∃ x ∈ l, x.1 = i ∧ x.2.2 = v
  | [], _, _, h => by cases h
  | x :: l, i, v, h => by
    unfold lk at h
    cases hx : x.1 == i with
    | true =>
      rw [hx] at h
      exact ⟨x, List.mem_cons_self, eq_of_beq hx, Option.some.inj h⟩
    | false =>
      rw [hx] at h
      obtain ⟨y, h1, h2⟩ := lk_mem (l := l) h
      exact ⟨y, List.mem_cons_of_mem _ h1, h2⟩
theorem lkb_mem : ∀ {l : fL_} {i : Nat} {v : Bool × Value}, lkb l i = some v → ∃ x ∈ l, x.1 = i ∧ x.2 = v
  | [], _, _, h => by cases h
  | x :: l, i, v, h => by
    unfold lkb at h
    cases hx : x.1 == i with
    | true =>
      rw [hx] at h
      exact ⟨x, List.mem_cons_self, eq_of_beq hx, Option.some.inj h⟩
    | false =>
      rw [hx] at h
      obtain ⟨y, h1, h2⟩ := lkb_mem (l := l) h
      exact ⟨y, List.mem_cons_of_mem _ h1, h2⟩
def f_rel (l : fL_) (lg : List (Nat × Value)) : Prop := ∀ x ∈ l, (x.1, x.2.2) ∈ lg ∧ (x.2.1 = false → x.2.2.category = 1)
theorem f_rel.sub {l l2 : fL_} {lg : List (Nat × Value)} (h : f_rel l2 lg) (hs : f_sub l l2) : f_rel l lg := by
  induction l with
  | nil => exact fun x hx => absurd hx List.not_mem_nil
  | cons y l ih =>
    intro x hx
    rcases List.mem_cons.mp hx with rfl | hx
    · obtain ⟨z, z1, z2, z3⟩ := lkb_mem hs.1
      have := h z z1
      rw [z2, z3] at this
      exact this
    · exact ih hs.2 x hx
theorem f_rel.st1 {l : fL_} {lg : List (Nat × Value)} (h : f_rel l lg) {i : Nat} {v : Value} (hc : v.category = 1) : f_rel (ls1 l i v) (f_st1 lg i v) := by
  intro x hx
  rcases List.mem_cons.mp hx with rfl | hx
  · exact ⟨List.mem_cons_self, fun _ => hc⟩
  · obtain ⟨h1, h2⟩ := List.mem_filter.mp hx
    obtain ⟨h3, h4⟩ := h x h1
    refine ⟨List.mem_cons_of_mem _ (List.mem_filter.mpr ⟨h3, ?_⟩), h4⟩
    rw [Bool.and_eq_true] at h2 ⊢
    refine ⟨h2.1, ?_⟩
    cases hb : x.2.1 with
    | false =>
      rw [h4 hb]
      simp
    | true =>
      have h5 := h2.2
      rw [hb, Bool.and_true, Bool.not_eq_true'] at h5
      rw [h5]
      rfl
theorem f_rel.st2 {l : fL_} {lg : List (Nat × Value)} (h : f_rel l lg) {i : Nat} {v : Value} : f_rel (ls2 l i v) (f_st2 lg i v) := by
  intro x hx
  rcases List.mem_cons.mp hx with rfl | hx
  · exact ⟨List.mem_cons_self, fun z => by cases z⟩
  · obtain ⟨h1, h2⟩ := List.mem_filter.mp hx
    obtain ⟨h3, h4⟩ := h x h1
    refine ⟨List.mem_cons_of_mem _ (List.mem_filter.mpr ⟨h3, ?_⟩), h4⟩
    rw [Bool.and_eq_true, Bool.and_eq_true] at h2 ⊢
    refine ⟨h2.1, h2.2.1, ?_⟩
    cases hb : x.2.1 with
    | false =>
      rw [h4 hb]
      simp
    | true =>
      have h5 := h2.2.2
      rw [hb, Bool.and_true, Bool.not_eq_true'] at h5
      rw [h5]
      rfl
/-- the tables name each thing once -/
def f_ok5 (a : List (Nat × Nat × Nat)) (b c : List (Nat × Nat × Nat × Nat)) (d : List (Nat × Nat × Int)) (e : List (Nat × Nat × Nat)) : Bool := a.all (fun x => a.find? (fun y => y.1 == x.1 && y.2.1 == x.2.1) == some x) && (b.all (fun x => b.find? (fun y => y.1 == x.1 && y.2.1 == x.2.1) == some x) && (c.all (fun x => c.find? (fun y => y.1 == x.1) == some x) &&
  (d.all (fun x => d.find? (fun y => y.1 == x.1 && y.2.1 == x.2.1) == some x) && e.all (fun x => e.find? (fun y => y.1 == x.1 && y.2.1 == x.2.1) == some x))))
def f_ok (T : fT) : Bool := f_ok5 T.1 T.2.1 T.2.2.1 T.2.2.2.1 T.2.2.2.2.1
theorem hof_at {ws : va_W} (hd : f_dj ws) {q p : Nat} {e : va_E} (h : ws[q]? = some (p, e)) : hof ws p = some e := by
  unfold hof
  cases hf : ws.find? (fun x => x.1 == p) with
  | none =>
    have := List.find?_eq_none.mp hf (p, e) (List.mem_of_getElem? h)
    simp at this
  | some y =>
    have hm := List.mem_of_find?_eq_some hf
    have hp := List.find?_some hf
    obtain ⟨j, hj⟩ := List.getElem?_of_mem hm
    have e1 := hd j q y (p, e) hj h (eq_of_beq hp)
    subst e1
    rw [hj] at h
    have e2 := Option.some.inj h
    rw [e2]
    rfl
theorem hof_out {ws : va_W} {p : Nat} (h : f_out ws p) : hof ws p = none := by
  unfold hof
  cases hf : ws.find? (fun x => x.1 == p) with
  | none => rfl
  | some y =>
    have hm := List.mem_of_find?_eq_some hf
    have hp := List.find?_some hf
    obtain ⟨j, hj⟩ := List.getElem?_of_mem hm
    have hp : y.1 = p := eq_of_beq hp
    exact absurd (by rw [hj, ← hp]) (h j y.2)
theorem hof_some {ws : va_W} {p : Nat} {e : va_E} (h : hof ws p = some e) : ∃ q : Nat, ws[q]? = some (p, e) := by
  unfold hof at h
  cases hf : ws.find? (fun x => x.1 == p) with
  | none => rw [hf] at h; cases h
  | some y =>
    rw [hf] at h
    have hm := List.mem_of_find?_eq_some hf
    have hp := List.find?_some hf
    obtain ⟨j, hj⟩ := List.getElem?_of_mem hm
    have hp : y.1 = p := eq_of_beq hp
    have e1 : y.2 = e := Option.some.inj h
    exact ⟨j, by rw [hj, ← hp, ← e1]⟩
theorem f_dj.set {ws : va_W} (hd : f_dj ws) {q p : Nat} {e e' : va_E} (h : ws[q]? = some (p, e)) : f_dj (ws.set q (p, e')) := by
  have hlt := (List.getElem?_eq_some_iff.mp h).1
  have key : ∀ (i : Nat) (x : Nat × va_E), (ws.set q (p, e'))[i]? = some x → ∃ y, ws[i]? = some y ∧ y.1 = x.1 := by
    intro i x hx
    by_cases e1 : q = i
    · subst e1
      rw [List.getElem?_set_self hlt] at hx
      have e2 := Option.some.inj hx
      exact ⟨_, h, by rw [← e2]⟩
    · rw [List.getElem?_set_ne e1] at hx
      exact ⟨x, hx, rfl⟩
  intro i j x y hx hy hxy
  obtain ⟨x', x1, x2⟩ := key i x hx
  obtain ⟨y', y1, y2⟩ := key j y hy
  exact hd i j x' y' x1 y1 (by rw [x2, y2, hxy])
theorem hof_set {ws : va_W} (hd : f_dj ws) {q p : Nat} {e e' : va_E} (h : ws[q]? = some (p, e)) : hof (ws.set q (p, e')) = hset (hof ws) p e' := by
  have hlt := (List.getElem?_eq_some_iff.mp h).1
  funext a
  unfold hset
  split
  · rename_i ea
    subst ea
    exact hof_at (hd.set h) (List.getElem?_set_self hlt)
  · rename_i ea
    cases ho : hof ws a with
    | none =>
      refine hof_out (fun j u hj => ?_)
      by_cases e1 : q = j
      · subst e1
        rw [List.getElem?_set_self hlt] at hj
        exact ea (congrArg Prod.fst (Option.some.inj hj)).symm
      · rw [List.getElem?_set_ne e1] at hj
        rw [hof_at hd hj] at ho
        cases ho
    | some u =>
      obtain ⟨j, hj⟩ := hof_some ho
      refine hof_at (q := j) (hd.set h) ?_
      rw [List.getElem?_set_ne (fun e1 => ?_)]
      · exact hj
      · subst e1
        rw [h] at hj
        exact ea (congrArg Prod.fst (Option.some.inj hj)).symm
theorem hof_app {ws : va_W} {q : Nat} {e : va_E} (hd : f_dj (ws ++ [(q, e)])) : hof (ws ++ [(q, e)]) = hset (hof ws) q e ∧ hof ws q = none ∧ f_dj ws := by
  have hq : (ws ++ [(q, e)])[ws.length]? = some (q, e) := by simp
  have hl : ∀ (i : Nat) (x : Nat × va_E), ws[i]? = some x → (ws ++ [(q, e)])[i]? = some x := fun i x hx => by
    rw [List.getElem?_append_left (List.getElem?_eq_some_iff.mp hx).1]; exact hx
  have hdj : f_dj ws := fun i j x y hx hy hxy => hd i j x y (hl i x hx) (hl j y hy) hxy
  have hout : hof ws q = none := hof_out (fun j u hj => by
    have e1 := hd j ws.length _ _ (hl j _ hj) hq rfl
    have := (List.getElem?_eq_some_iff.mp hj).1
    omega)
  refine ⟨?_, hout, hdj⟩
  funext a
  unfold hset
  split
  · rename_i ea
    subst ea
    exact hof_at hd hq
  · rename_i ea
    cases ho : hof ws a with
    | none =>
      refine hof_out (fun j u hj => ?_)
      by_cases hlt : j < ws.length
      · rw [List.getElem?_append_left hlt] at hj
        rw [hof_at hdj hj] at ho
        cases ho
      · have hje : j = ws.length := by
          have := (List.getElem?_eq_some_iff.mp hj).1
          simp at this
          omega
        subst hje
        rw [hq] at hj
        exact ea (congrArg Prod.fst (Option.some.inj hj)).symm
    | some u =>
      obtain ⟨j, hj⟩ := hof_some ho
      exact hof_at hd (hl j _ hj)
/-- a world that follows the machine's -/
def f_wr {W : Type} (O : fO W) (Rw : W → va_W → List Nat → Prop) : Prop :=
  (∀ (w : W) (ws : va_W) (sh : List Nat), Rw w ws sh → O.1 w = hof ws ∧ f_dj ws) ∧
  (∀ (w : W) (ws : va_W) (sh : List Nat) (p q : Nat) (e e' : va_E) (K : W → Prop), Rw w ws sh → ws[q]? = some (p, e) → O.2.1 w p e' K → ∃ w', Rw w' (ws.set q (p, e')) sh ∧ K w') ∧
  ∀ (w : W) (ws : va_W) (sh : List Nat) (q t : Nat) (e : va_E) (K : W → Prop), Rw w ws sh → f_dj (ws ++ [(q, e)]) → O.2.2 w q e t K → ∃ w', Rw w' (ws ++ [(q, e)]) (sh ++ [t]) ∧ K w'
def f_sp {W : Type} (T : fT) (Sp : fP W) (Rw : W → va_W → List Nat → Prop) : Prop := ∀ x ∈ Sp, (T.2.2.2.2.2.1 x.1).1 = x.2.1 ∧ ∀ (As : List Value) (w : W) (ws : va_W) (sh : List Nat) (rv : Option Value) (ws' : va_W) (sh' : List Nat), Rw w ws sh → (T.2.2.2.2.2.1 x.1).2 As ws sh rv ws' sh' → ∃ w', Rw w' ws' sh' ∧ x.2.2 As w rv w'
end
