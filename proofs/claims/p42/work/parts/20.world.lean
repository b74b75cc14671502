noncomputable section
/-! values and worlds under a valuation -/
/-- the script, the row of constants WITH, and the numbers that a rank began with -/
abbrev ck_sc : Type := Option (Nat × Nat × (Nat → Int32)) × Option Nat × (Nat → Int)
def ck_rf (ws : va_W) (sh : List Nat) (ts : List Nat) (v : Value) : Prop := ∃ (q : Nat) (a : Nat) (e : va_E) (t : Nat), v = .ref a ∧ ws[q]? = some (a, e) ∧ sh[q]? = some t ∧ t ∈ ts
def ck_vo (ws : va_W) (sh : List Nat) (sc : ck_sc) (n : ck_N) (N : Nat) (av : ck_V) (v : Value) : Prop :=
  av.2.1 < N ∧ match av.1 with
  | 0 => ∃ x : Int32, v = .int x ∧ x.toInt = (n av.2.1).1
  | 1 => ∃ x : Int64, v = .long x ∧ x.toInt = (n av.2.1).1
  | 2 => v = (n av.2.1).2 ∧ ck_rf ws sh av.2.2 v
  | 3 => v = (n av.2.1).2 ∧ (v = .null ∨ ck_rf ws sh av.2.2 v)
  | 4 => v = (n av.2.1).2 ∧ v = .null
  | 5 => ∃ (b L : Nat) (xs : Nat → Int32), sc.1 = some (b, L, xs) ∧ v = .ref b ∧ (n av.2.1).1 = (L : Int)
  | 6 => ∃ w : Nat, sc.2.1 = some w ∧ v = .ref w
  | 7 => ∃ k2 : Nat, av.2.2 = [k2] ∧ k2 < N ∧ ∃ x y : Int64, v = .int (lg_cmp x y) ∧ x.toInt = (n av.2.1).1 ∧ y.toInt = (n k2).1
  | _ => False
def ck_fo (ws : va_W) (sh : List Nat) (t : ck_T) (v : Value) : Prop := match t.1 with
  | 0 => ∃ x : Int32, v = .int x ∧ t.2.1 ≤ x.toInt ∧ x.toInt ≤ t.2.2.1
  | 1 => ∃ x : Int64, v = .long x
  | 2 => ck_rf ws sh t.2.2.2 v
  | 3 => v = .null ∨ ck_rf ws sh t.2.2.2 v
  | _ => False
/-- what is a type's cell: 0 an object, 1 ints, 2 longs, 3 references to objects, 4 truths, 5 references to rows of ints -/
def ck_co (tys : List (ClassId × FieldType)) (ws : va_W) (sh : List Nat) (td : ck_D) (e : va_E) : Prop := match td.1 with
  | 0 => ∃ vs : List Value, e = .inr (td.2.1, vs) ∧ vs.length = td.2.2.2.length ∧ ∀ (k : Nat) (t : ck_T), td.2.2.2[k]? = some t → ∃ v, vs[k]? = some v ∧ ck_fo ws sh t v
  | 1 => ∃ (cA : ClassId) (f : Nat → Int32), tys[td.2.2.1]? = some (cA, .int) ∧ e = .inl (cA, td.2.1, .inl f) ∧ ∀ t : ck_T, td.2.2.2[0]? = some t → t.1 = 0 ∧ ∀ i, i < td.2.1 → t.2.1 ≤ (f i).toInt ∧ (f i).toInt ≤ t.2.2.1
  | 2 => ∃ (cA : ClassId) (f : Nat → Int64), tys[td.2.2.1]? = some (cA, .long) ∧ e = .inl (cA, td.2.1, .inr (.inl f))
  | 3 => ∃ (cA : ClassId) (C : String) (f : Nat → Option Nat), tys[td.2.2.1]? = some (cA, .object C) ∧ e = .inl (cA, td.2.1, .inr (.inr (.inr (.inr f)))) ∧ ∀ t : ck_T, td.2.2.2[0]? = some t → ∀ i, i < td.2.1 → ck_fo ws sh t (va_rf (f i))
  | 4 => ∃ (cA : ClassId) (f : Nat → Int32), tys[td.2.2.1]? = some (cA, .boolean) ∧ e = .inl (cA, td.2.1, .inl f) ∧ ∀ i, i < td.2.1 → 0 ≤ (f i).toInt ∧ (f i).toInt ≤ 1
  | 5 => ∃ (cA : ClassId) (f : Nat → Option Nat), tys[td.2.2.1]? = some (cA, .array .int) ∧ e = .inl (cA, td.2.1, .inr (.inr (.inr (.inr f)))) ∧ ∀ t : ck_T, td.2.2.2[0]? = some t → ∀ i, i < td.2.1 → ck_fo ws sh t (va_rf (f i))
  | _ => False
/-- a world as its types say -/
def ck_wo (tys : List (ClassId × FieldType)) (TT : List ck_D) (SG : List Nat) (ws : va_W) (sh : List Nat) : Prop :=
  sh.length = ws.length ∧ (∀ (q : Nat) (a : Nat) (e : va_E) (t : Nat), ws[q]? = some (a, e) → sh[q]? = some t → ∃ td, TT[t]? = some td ∧ ck_co tys ws sh td e) ∧
  ∀ t ∈ SG, ∀ q r : Nat, sh[q]? = some t → sh[r]? = some t → q = r
/-- what stays of a cell -/
def ck_sm (Wr : List (Nat × Nat)) (t : Nat) (e e' : va_E) : Prop := match e, e' with
  | .inr o, .inr o' => o'.1 = o.1 ∧ ∀ k, (t, k) ∉ Wr → o'.2[k]? = o.2[k]?
  | .inl x, .inl y => (t, 0) ∉ Wr → y = x
  | _, _ => False
def ck_ex (Wr : List (Nat × Nat)) (ws : va_W) (sh : List Nat) (ws' : va_W) (sh' : List Nat) : Prop :=
  (∀ (q t : Nat), sh[q]? = some t → sh'[q]? = some t) ∧ ∀ (q a : Nat) (e : va_E) (t : Nat), ws[q]? = some (a, e) → sh[q]? = some t → ∃ e', ws'[q]? = some (a, e') ∧ ck_sm Wr t e e'
theorem ck_sm.rf {Wr : List (Nat × Nat)} {t : Nat} {e : va_E} : ck_sm Wr t e e := by
  cases e with
  | inl x => exact fun _ => rfl
  | inr o => exact ⟨rfl, fun _ _ => rfl⟩
theorem ck_sm.tr {W1 W2 : List (Nat × Nat)} {t : Nat} {e e1 e2 : va_E} (hw : ∀ x ∈ W2, x ∈ W1) (h1 : ck_sm W1 t e e1) (h2 : ck_sm W2 t e1 e2) : ck_sm W1 t e e2 := by
  cases e <;> cases e1 <;> cases e2 <;> first | exact h1.elim | exact h2.elim | skip
  · exact fun h => (h2 (fun z => h (hw _ z))).trans (h1 h)
  · exact ⟨h2.1.trans h1.1, fun k hk => (h2.2 k (fun z => hk (hw _ z))).trans (h1.2 k hk)⟩
theorem ck_ex.rf {Wr : List (Nat × Nat)} {ws : va_W} {sh : List Nat} : ck_ex Wr ws sh ws sh := ⟨fun _ _ h => h, fun _ _ e _ h _ => ⟨e, h, ck_sm.rf⟩⟩
theorem ck_ex.tr {W1 W2 : List (Nat × Nat)} {ws ws1 ws2 : va_W} {sh sh1 sh2 : List Nat} (hw : ∀ x ∈ W2, x ∈ W1) (h1 : ck_ex W1 ws sh ws1 sh1) (h2 : ck_ex W2 ws1 sh1 ws2 sh2) : ck_ex W1 ws sh ws2 sh2 := by
  refine ⟨fun q t h => h2.1 q t (h1.1 q t h), fun q a e t h ht => ?_⟩
  obtain ⟨e1, a1, b1⟩ := h1.2 q a e t h ht
  obtain ⟨e2, a2, b2⟩ := h2.2 q a e1 t a1 (h1.1 q t ht)
  exact ⟨e2, a2, b1.tr hw b2⟩
theorem ck_rf.mv {Wr : List (Nat × Nat)} {ws ws' : va_W} {sh sh' : List Nat} (h : ck_ex Wr ws sh ws' sh') {ts : List Nat} {v : Value} (hv : ck_rf ws sh ts v) : ck_rf ws' sh' ts v := by
  obtain ⟨q, a, e, t, h1, h2, h3, h4⟩ := hv
  obtain ⟨e', h5, -⟩ := h.2 q a e t h2 h3
  exact ⟨q, a, e', t, h1, h5, h.1 q t h3, h4⟩
theorem ck_rf.sub {ws : va_W} {sh : List Nat} {ts us : List Nat} {v : Value} (h : ∀ t ∈ ts, t ∈ us) (hv : ck_rf ws sh ts v) : ck_rf ws sh us v := by
  obtain ⟨q, a, e, t, h1, h2, h3, h4⟩ := hv
  exact ⟨q, a, e, t, h1, h2, h3, h t h4⟩
theorem ck_fo.mv {Wr : List (Nat × Nat)} {ws ws' : va_W} {sh sh' : List Nat} (h : ck_ex Wr ws sh ws' sh') {t : ck_T} {v : Value} (hv : ck_fo ws sh t v) : ck_fo ws' sh' t v := by
  unfold ck_fo at hv ⊢
  split at hv
  · exact hv
  · exact hv
  · exact hv.mv h
  · exact hv.imp id (·.mv h)
  · exact hv.elim
theorem ck_co.mv {Wr : List (Nat × Nat)} {tys : List (ClassId × FieldType)} {ws ws' : va_W} {sh sh' : List Nat} (h : ck_ex Wr ws sh ws' sh') {td : ck_D} {e : va_E} (hv : ck_co tys ws sh td e) : ck_co tys ws' sh' td e := by
  unfold ck_co at hv ⊢
  split at hv
  · obtain ⟨vs, h1, h2, h3⟩ := hv
    refine ⟨vs, h1, h2, fun k t hk => ?_⟩
    obtain ⟨v, a1, a2⟩ := h3 k t hk
    exact ⟨v, a1, a2.mv h⟩
  · exact hv
  · exact hv
  · obtain ⟨cA, C, f, h1, h2, h3⟩ := hv
    exact ⟨cA, C, f, h1, h2, fun t ht i hi => (h3 t ht i hi).mv h⟩
  · exact hv
  · obtain ⟨cA, f, h1, h2, h3⟩ := hv
    exact ⟨cA, f, h1, h2, fun t ht i hi => (h3 t ht i hi).mv h⟩
  · exact hv.elim
theorem ck_vo.mv {Wr : List (Nat × Nat)} {ws ws' : va_W} {sh sh' : List Nat} (h : ck_ex Wr ws sh ws' sh') {sc : ck_sc} {n : ck_N} {N : Nat} {av : ck_V} {v : Value} (hv : ck_vo ws sh sc n N av v) : ck_vo ws' sh' sc n N av v := by
  unfold ck_vo at hv ⊢
  refine ⟨hv.1, ?_⟩
  have hv := hv.2
  split at hv
  · exact hv
  · exact hv
  · exact ⟨hv.1, hv.2.mv h⟩
  · exact ⟨hv.1, hv.2.imp id (·.mv h)⟩
  · exact hv
  · exact hv
  · exact hv
  · exact hv
  · exact hv.elim
theorem ck_vo.up {ws : va_W} {sh : List Nat} {sc : ck_sc} {n n' : ck_N} {N N' : Nat} (hn : ∀ k, k < N → n' k = n k) (hN : N ≤ N') {av : ck_V} {v : Value} (hv : ck_vo ws sh sc n N av v) : ck_vo ws sh sc n' N' av v := by
  unfold ck_vo at hv ⊢
  have h1 := hn _ hv.1
  refine ⟨Nat.lt_of_lt_of_le hv.1 hN, ?_⟩
  have hv := hv.2
  rw [h1]
  split at hv
  · exact hv
  · exact hv
  · exact hv
  · exact hv
  · exact hv
  · exact hv
  · exact hv
  · obtain ⟨k2, a1, a2, a3⟩ := hv
    exact ⟨k2, a1, Nat.lt_of_lt_of_le a2 hN, by rw [hn _ a2]; exact a3⟩
  · exact hv.elim
/-- the valuation with a number more -/
def ck_nx (n : ck_N) (N : Nat) (x : Int × Value) : ck_N := fun k => if k = N then x else n k
theorem ck_nx_lt {n : ck_N} {N : Nat} {x : Int × Value} : ∀ k, k < N → ck_nx n N x k = n k := fun k h => if_neg (by omega)
theorem ck_nx_eq {n : ck_N} {N : Nat} {x : Int × Value} : ck_nx n N x N = x := if_pos rfl
theorem ck_vo.cat {ws : va_W} {sh : List Nat} {sc : ck_sc} {n : ck_N} {N : Nat} {av : ck_V} {v : Value} (h : ck_vo ws sh sc n N av v) : v.category = if av.1 = 1 then 2 else 1 := by
  unfold ck_vo at h
  have h := h.2
  split at h
  · rename_i e; obtain ⟨x, rfl, -⟩ := h; rw [e]; rfl
  · rename_i e; obtain ⟨x, rfl, -⟩ := h; rw [e]; rfl
  · rename_i e; obtain ⟨-, q, a, w, t, rfl, -⟩ := h; rw [e]; rfl
  · rename_i e
    rw [e]
    rcases h.2 with rfl | ⟨q, a, w, t, rfl, -⟩ <;> rfl
  · rename_i e; obtain ⟨-, rfl⟩ := h; rw [e]; rfl
  · rename_i e; obtain ⟨b, L, xs, -, rfl, -⟩ := h; rw [e]; rfl
  · rename_i e; obtain ⟨w, -, rfl⟩ := h; rw [e]; rfl
  · rename_i e; obtain ⟨k2, -, -, x, y, rfl, -⟩ := h; rw [e]; rfl
  · exact h.elim
/-- lists side by side -/
def ck_two {α β : Type} (P : α → β → Prop) : List α → List β → Prop
  | [], [] => True
  | a :: l, b :: r => P a b ∧ ck_two P l r
  | _, _ => False
theorem ck_two.imp {α β : Type} {P P' : α → β → Prop} (h : ∀ a b, P a b → P' a b) : ∀ {l : List α} {r : List β}, ck_two P l r → ck_two P' l r
  | [], [], _ => trivial
  | _ :: _, _ :: _, hh => ⟨h _ _ hh.1, ck_two.imp h hh.2⟩
  | [], _ :: _, hh => hh.elim
  | _ :: _, [], hh => hh.elim
theorem ck_two.flt {α β : Type} {P : α → β → Prop} {f : α → Bool} {g : β → Bool} (h : ∀ a b, P a b → f a = g b) : ∀ {l : List α} {r : List β}, ck_two P l r → ck_two P (l.filter f) (r.filter g)
  | [], [], _ => trivial
  | a :: l, b :: r, hh => by
    have h1 := h a b hh.1
    have h2 := ck_two.flt h hh.2
    rw [List.filter_cons, List.filter_cons, h1]
    split
    · exact ⟨hh.1, h2⟩
    · exact h2
  | [], _ :: _, hh => hh.elim
  | _ :: _, [], hh => hh.elim
theorem ck_two.app {α β : Type} {P : α → β → Prop} : ∀ {l l2 : List α} {r r2 : List β}, ck_two P l r → ck_two P l2 r2 → ck_two P (l ++ l2) (r ++ r2)
  | [], _, [], _, _, h => h
  | _ :: _, _, _ :: _, _, hh, h => ⟨hh.1, ck_two.app hh.2 h⟩
  | [], _, _ :: _, _, hh, _ => hh.elim
  | _ :: _, _, [], _, hh, _ => hh.elim
theorem ck_two.mem {α β : Type} {P : α → β → Prop} {a : α} : ∀ {l : List α} {r : List β}, ck_two P l r → a ∈ l → ∃ b ∈ r, P a b
  | [], _, _, h => by cases h
  | x :: l, y :: r, hh, h => by
    rcases List.mem_cons.mp h with rfl | h
    · exact ⟨y, List.mem_cons_self, hh.1⟩
    · obtain ⟨b, h1, h2⟩ := ck_two.mem hh.2 h
      exact ⟨b, List.mem_cons_of_mem _ h1, h2⟩
  | _ :: _, [], hh, _ => hh.elim
theorem ck_two.map {α β γ : Type} {P : α → β → Prop} {P' : γ → β → Prop} (f : α → γ) (h : ∀ a b, P a b → P' (f a) b) : ∀ {l : List α} {r : List β}, ck_two P l r → ck_two P' (l.map f) r
  | [], [], _ => trivial
  | _ :: _, _ :: _, hh => ⟨h _ _ hh.1, ck_two.map f h hh.2⟩
  | [], _ :: _, hh => hh.elim
  | _ :: _, [], hh => hh.elim
theorem ck_two.len {α β : Type} {P : α → β → Prop} : ∀ {l : List α} {r : List β}, ck_two P l r → l.length = r.length
  | [], [], _ => rfl
  | _ :: _, _ :: _, hh => by rw [List.length_cons, List.length_cons, ck_two.len hh.2]
  | [], _ :: _, hh => hh.elim
  | _ :: _, [], hh => hh.elim
end
