/-! what a call leaves alone, over places; a world by places out of the machine's -/
def zwr (Wr : List (Nat × Nat)) (t k : Nat) : Bool := Wr.any (fun x => Nat.beq x.1 t && Nat.beq x.2 k)
theorem zwr_t {Wr : List (Nat × Nat)} {t k : Nat} : zwr Wr t k = true ↔ (t, k) ∈ Wr := by
  unfold zwr
  rw [List.any_eq_true]
  constructor
  · rintro ⟨⟨a, b⟩, h1, h2⟩
    rw [Bool.and_eq_true] at h2
    have e1 : a = t := Nat.eq_of_beq_eq_true h2.1
    have e2 : b = k := Nat.eq_of_beq_eq_true h2.2
    rw [← e1, ← e2]
    exact h1
  · intro h
    refine ⟨(t, k), h, ?_⟩
    show (Nat.beq t t && Nat.beq k k) = true
    rw [nbT, nbT]
    rfl
theorem zwr_f {Wr : List (Nat × Nat)} {t k : Nat} (h : zwr Wr t k = false) : (t, k) ∉ Wr := fun hm => by
  rw [zwr_t.mpr hm] at h
  cases h
def zold (A : zW) (q : Nat) : Bool := Nat.blt q 385 || Nat.blt q (zN A)
/-- what may have changed -/
def zhv (Wr : List (Nat × Nat)) (A X : zW) : zW := (fun q i => bif zold A q && !(zwr Wr (zty A q) 0) then zI A q i else zI X q i, fun q i => bif zold A q && !(zwr Wr (zty A q) 0) then zJ A q i else zJ X q i, fun q k => bif zold A q && !(zwr Wr (zty A q) k) then zF A q k else zF X q k, fun q i => bif zold A q && !(zwr Wr (zty A q) 0) then zR A q i else zR X q i, fun q => bif zold A q then zK A q else zK X q, zN X)
theorem zn_get : ∀ {l : List Nat} {j x : Nat}, l[j]? = some x → zn l j = x
  | [], _, _, h => by simp at h
  | y :: l, 0, x, h => Option.some.inj h
  | y :: l, j + 1, x, h => zn_get (l := l) h
theorem zt_k_ok : (List.range 94).all (fun t => match cw_TT[t]? with
  | some td => Nat.beq (zn zt_k t) td.2.1
  | none => false) = true := by decide +kernel
/-- rows of references name what their elements are -/
theorem zt_el : cw_TT.all (fun td => match td.1, td.2.2.2[0]? with
  | 3, none => false
  | 5, none => false
  | _, _ => true) = true := by decide +kernel
theorem zt_len : cw_TT.length = 94 := by decide +kernel
theorem zt_kt {t : Nat} {td : ck_D} (h : cw_TT[t]? = some td) : zn zt_k t = td.2.1 := by
  have hlt := (List.getElem?_eq_some_iff.mp h).1
  rw [zt_len] at hlt
  have h1 := List.all_eq_true.mp zt_k_ok t (List.mem_range.mpr hlt)
  rw [h] at h1
  exact Nat.eq_of_beq_eq_true h1
def zc_is (c : mk_C) (j k : Nat) : Bool := Nat.beq (zc j k) 0 || (match c.2.2.2[k]? with
  | some v => Nat.beq v.1 2 && (decide (v.2.1 = 0) && (Nat.beq v.2.2 (zc j k) && Nat.blt (zc j k) 385))
  | none => false)
set_option maxRecDepth 20000 in
theorem zc_ok : (List.range 385).all (fun j => match lp_L2[j]? with
  | some c => (List.range 70).all (fun k => zc_is c j k)
  | none => false) = true := by decide +kernel
set_option maxRecDepth 20000 in
theorem zc_lt {j k : Nat} (h : zc j k ≠ 0) : j < 385 ∧ k < 70 := by
  by_cases h1 : j < 385
  · by_cases h2 : k < 70
    · exact ⟨h1, h2⟩
    · exfalso
      apply h
      unfold zc
      rw [nltF (show 70 ≤ k by omega), Bool.and_false]
      rfl
  · exfalso
    apply h
    unfold zc
    rw [nltF (show 385 ≤ j by omega)]
    rfl
set_option maxRecDepth 20000 in
theorem zc_at {j k : Nat} (h : zc j k ≠ 0) : zc j k < 385 ∧ ∃ c, lp_L2[j]? = some c ∧ c.2.2.2[k]? = some (2, 0, zc j k) := by
  obtain ⟨h1, h2⟩ := zc_lt h
  have h3 := List.all_eq_true.mp zc_ok j (List.mem_range.mpr h1)
  split at h3
  · rename_i c hc
    have h4 := List.all_eq_true.mp h3 k (List.mem_range.mpr h2)
    unfold zc_is at h4
    rw [nbF h, Bool.false_or] at h4
    split at h4
    · rename_i v hv
      rw [Bool.and_eq_true, Bool.and_eq_true, Bool.and_eq_true] at h4
      obtain ⟨a1, a2, a3, a4⟩ := h4
      obtain ⟨v1, v2, v3⟩ := v
      have e1 : v1 = 2 := Nat.eq_of_beq_eq_true a1
      have e2 : v2 = 0 := of_decide_eq_true a2
      have e3 : v3 = zc j k := Nat.eq_of_beq_eq_true a3
      subst e1
      subst e2
      refine ⟨Nat.le_of_ble_eq_true a4, c, hc, ?_⟩
      rw [hv, ← e3]
    · cases h4
  · cases h3
set_option maxRecDepth 20000 in
theorem zcr_z {r : Nat} {v : Value} (h : r = 0) : zcr r v = v := by
  subst h
  rfl
set_option maxRecDepth 20000 in
theorem zcr_s {r : Nat} {v : Value} (h : r ≠ 0) : zcr r v = .ref r := by
  cases r with
  | zero => exact absurd rfl h
  | succ r => rfl
set_option maxRecDepth 20000 in
/-- places that hold lasting references are never written -/
theorem zc_nw {Wr : List (Nat × Nat)} {j k : Nat} {c : mk_C} {t : Nat} (hk : bs_K.all (fun x => !(Wr.contains x)) = true) (hc : lp_L2[j]? = some c) (ht : lp_sh[j]? = some t) (hz : zc j k ≠ 0) : (t, bif c.1 == 0 then k else 0) ∉ Wr := by
  obtain ⟨-, c', h1, h2⟩ := zc_at hz
  have e : c = c' := Option.some.inj (hc.symm.trans h1)
  subst e
  obtain ⟨t', h3, h4⟩ := bs_cok bs_ok j c hc
  have e : t = t' := Option.some.inj (ht.symm.trans h3)
  subst e
  intro hm
  have h5 := List.all_eq_true.mp hk _ (h4 k _ h2)
  rw [List.contains_iff_mem.mpr hm] at h5
  cases h5
/-- what is at a place, its lasting references too -/
def zeax (X : zW) (ws : va_W) (j n : Nat) : (Nat → Int32) ⊕ (Nat → Int64) ⊕ (Nat → UInt32) ⊕ (Nat → UInt64) ⊕ (Nat → Option Nat) → Prop
  | .inl f => ∀ i, zI X j i = f i
  | .inr (.inl f) => ∀ i, zJ X j i = f i
  | .inr (.inr (.inl _)) => True
  | .inr (.inr (.inr (.inl _))) => True
  | .inr (.inr (.inr (.inr f))) => ∀ i, i < n → zvr ws (va_rf (f i)) (zR X j i)
def zex (X : zW) (ws : va_W) (j : Nat) : va_E → Prop
  | .inr o => (zK X j).1 = o.1 ∧ ∀ (k : Nat) (v : Value), o.2[k]? = some v → zvr ws v (zF X j k)
  | .inl x => (zK X j).1 = x.2.1 ∧ zeax X ws j x.2.1 x.2.2
def zaI : Option (Nat × va_E) → Nat → Int32
  | some (_, .inl (_, _, .inl f)), i => f i
  | _, _ => 0
def zaJ : Option (Nat × va_E) → Nat → Int64
  | some (_, .inl (_, _, .inr (.inl f))), i => f i
  | _, _ => 0
def zaK : Option (Nat × va_E) → Nat
  | some (_, .inl x) => x.2.1
  | some (_, .inr o) => o.1
  | none => 0
theorem fo_vr {ws : va_W} {sh : List Nat} {t : ck_T} {v : Value} (h : ck_fo ws sh t v) : ∃ u, zvr ws v u := by
  have hr : ∀ {ts : List Nat}, ck_rf ws sh ts v → ∃ u, zvr ws v u := fun hr => by
    obtain ⟨q, a, e, t, h1, h2, -, -⟩ := hr
    exact ⟨.ref q, a, e, h1, h2⟩
  unfold ck_fo at h
  split at h
  · obtain ⟨x, rfl, -⟩ := h
    exact ⟨.int x, rfl⟩
  · obtain ⟨x, rfl⟩ := h
    exact ⟨.long x, rfl⟩
  · exact hr h
  · rcases h with rfl | h
    · exact ⟨.null, rfl⟩
    · exact hr h
  · exact h.elim
theorem zF_ex {tys : List (ClassId × FieldType)} {TT : List ck_D} {SG : List Nat} {ws : va_W} {sh : List Nat} (hw : ck_wo tys TT SG ws sh) (q k : Nat) : ∃ u, ∀ (p : Nat) (o : Nat × List Value) (v : Value), ws[q]? = some (p, .inr o) → o.2[k]? = some v → zvr ws v u := by
  by_cases hx : ∃ (p : Nat) (o : Nat × List Value) (v : Value), ws[q]? = some (p, .inr o) ∧ o.2[k]? = some v
  · obtain ⟨p, o, v, h1, h2⟩ := hx
    have hlt := (List.getElem?_eq_some_iff.mp h1).1
    have hs : sh[q]? = some (sh[q]'(by rw [hw.1]; exact hlt)) := List.getElem?_eq_getElem _
    obtain ⟨td, d1, d2⟩ := hw.2.1 q p _ _ h1 hs
    have hu : ∃ u, zvr ws v u := by
      unfold ck_co at d2
      split at d2
      · obtain ⟨vs, e1, e2, e3⟩ := d2
        have e1 : o = (td.2.1, vs) := Sum.inr.inj e1
        subst e1
        have hk : k < td.2.2.2.length := by
          have := (List.getElem?_eq_some_iff.mp h2).1
          have h2 : k < vs.length := this
          omega
        obtain ⟨v', v1, v2⟩ := e3 k _ (List.getElem?_eq_getElem hk)
        have h2 : vs[k]? = some v := h2
        rw [h2] at v1
        have v1 := Option.some.inj v1
        subst v1
        exact fo_vr v2
      · obtain ⟨cA, f, -, e1, -⟩ := d2
        cases e1
      · obtain ⟨cA, f, -, e1⟩ := d2
        cases e1
      · obtain ⟨cA, C, f, -, e1, -⟩ := d2
        cases e1
      · obtain ⟨cA, f, -, e1, -⟩ := d2
        cases e1
      · obtain ⟨cA, f, -, e1, -⟩ := d2
        cases e1
      · exact d2.elim
    obtain ⟨u, hu⟩ := hu
    refine ⟨u, fun p' o' v' h3 h4 => ?_⟩
    rw [h1] at h3
    have e : o = o' := Sum.inr.inj (congrArg Prod.snd (Option.some.inj h3))
    subst e
    rw [h2] at h4
    have e := Option.some.inj h4
    subst e
    exact hu
  · exact ⟨.null, fun p o v h1 h2 => absurd ⟨p, o, v, h1, h2⟩ hx⟩
theorem zR_ex {tys : List (ClassId × FieldType)} {SG : List Nat} {ws : va_W} {sh : List Nat} (hw : ck_wo tys cw_TT SG ws sh) (q k : Nat) : ∃ u, ∀ (p n : Nat) (cA : ClassId) (f : Nat → Option Nat), ws[q]? = some (p, .inl (cA, n, .inr (.inr (.inr (.inr f))))) → k < n → zvr ws (va_rf (f k)) u := by
  by_cases hx : ∃ (p n : Nat) (cA : ClassId) (f : Nat → Option Nat), ws[q]? = some (p, .inl (cA, n, .inr (.inr (.inr (.inr f))))) ∧ k < n
  · obtain ⟨p, n, cA, f, h1, h2⟩ := hx
    have hlt := (List.getElem?_eq_some_iff.mp h1).1
    have hs : sh[q]? = some (sh[q]'(by rw [hw.1]; exact hlt)) := List.getElem?_eq_getElem _
    obtain ⟨td, d1, d2⟩ := hw.2.1 q p _ _ h1 hs
    have hel : ∀ t : ck_T, td.2.2.2[0]? = some t → ck_fo ws sh t (va_rf (f k)) → ∃ u, zvr ws (va_rf (f k)) u := fun t _ h => fo_vr h
    have h0 : ∃ t : ck_T, td.1 = 3 ∨ td.1 = 5 → td.2.2.2[0]? = some t := by
      cases h : td.2.2.2[0]? with
      | some t => exact ⟨t, fun _ => rfl⟩
      | none =>
        refine ⟨(0, 0, 0, []), fun hk => ?_⟩
        have h3 := List.all_eq_true.mp zt_el td (List.mem_of_getElem? d1)
        rw [h] at h3
        rcases hk with hk | hk
        · rw [hk] at h3
          exact absurd (show false = true from h3) Bool.false_ne_true
        · rw [hk] at h3
          exact absurd (show false = true from h3) Bool.false_ne_true
    obtain ⟨t, h0⟩ := h0
    have hu : ∃ u, zvr ws (va_rf (f k)) u := by
      have h0' := h0
      unfold ck_co at d2
      split at d2
      · obtain ⟨vs, e1, -⟩ := d2
        cases e1
      · obtain ⟨cA', f', -, e1, -⟩ := d2
        cases e1
      · obtain ⟨cA', f', -, e1⟩ := d2
        cases e1
      · rename_i hk
        obtain ⟨cA', C, f', -, e1, e2⟩ := d2
        cases e1
        have h3 := h0 (Or.inl hk)
        exact fo_vr (e2 t h3 k h2)
      · obtain ⟨cA', f', -, e1, -⟩ := d2
        cases e1
      · rename_i hk
        obtain ⟨cA', f', -, e1, e2⟩ := d2
        cases e1
        have h3 := h0 (Or.inr hk)
        exact fo_vr (e2 t h3 k h2)
      · exact d2.elim
    obtain ⟨u, hu⟩ := hu
    refine ⟨u, fun p' n' cA' f' h3 h4 => ?_⟩
    rw [h1] at h3
    cases h3
    exact hu
  · exact ⟨.null, fun p n cA f h1 h2 => absurd ⟨p, n, cA, f, h1, h2⟩ hx⟩
set_option maxRecDepth 20000 in
theorem zab_ex {tys : List (ClassId × FieldType)} {SG : List Nat} {ws : va_W} {sh : List Nat} (hw : ck_wo tys cw_TT SG ws sh) : ∃ X : zW, zN X = ws.length ∧ (∀ j t : Nat, sh[j]? = some t → (zK X j).2 = t) ∧ ∀ (j p : Nat) (e : va_E), ws[j]? = some (p, e) → zex X ws j e := by
  obtain ⟨F, hF⟩ := Classical.skolem.mp (fun x : Nat × Nat => zF_ex hw x.1 x.2)
  obtain ⟨G, hG⟩ := Classical.skolem.mp (fun x : Nat × Nat => zR_ex hw x.1 x.2)
  refine ⟨(fun q i => zaI ws[q]? i, fun q i => zaJ ws[q]? i, fun q k => F (q, k), fun q i => G (q, i), fun q => (zaK ws[q]?, (sh[q]?).getD 0), ws.length), rfl, fun j t ht => ?_, fun j p e hj => ?_⟩
  · show (sh[j]?).getD 0 = t
    rw [ht]
    rfl
  · obtain (⟨cA, n, f | f | f | f | f⟩ | o) := e
    · refine ⟨?_, fun i => ?_⟩
      · show zaK ws[j]? = n
        rw [hj]
        rfl
      · show zaI ws[j]? i = f i
        rw [hj]
        rfl
    · refine ⟨?_, fun i => ?_⟩
      · show zaK ws[j]? = n
        rw [hj]
        rfl
      · show zaJ ws[j]? i = f i
        rw [hj]
        rfl
    · refine ⟨?_, trivial⟩
      show zaK ws[j]? = n
      rw [hj]
      rfl
    · refine ⟨?_, trivial⟩
      show zaK ws[j]? = n
      rw [hj]
      rfl
    · refine ⟨?_, fun i hi => hG (j, i) p n cA f hj hi⟩
      show zaK ws[j]? = n
      rw [hj]
      rfl
    · refine ⟨?_, fun k v hv => hF (j, k) p o v hj hv⟩
      show zaK ws[j]? = o.1
      rw [hj]
      rfl
theorem co_len {tys : List (ClassId × FieldType)} {ws : va_W} {sh : List Nat} {td : ck_D} : ∀ {e : va_E}, ck_co tys ws sh td e → zaK (some (0, e)) = td.2.1 := fun {e} h => by
  unfold ck_co at h
  split at h
  · obtain ⟨vs, rfl, -⟩ := h
    rfl
  · obtain ⟨cA, f, -, rfl, -⟩ := h
    rfl
  · obtain ⟨cA, f, -, rfl⟩ := h
    rfl
  · obtain ⟨cA, C, f, -, rfl, -⟩ := h
    rfl
  · obtain ⟨cA, f, -, rfl, -⟩ := h
    rfl
  · obtain ⟨cA, f, -, rfl, -⟩ := h
    rfl
  · exact h.elim
/-- the class or length of a place that is there for good -/
theorem zkd_of {tys : List (ClassId × FieldType)} {SG : List Nat} {ws : va_W} {sh : List Nat} (hw : ck_wo tys cw_TT SG ws sh) (hs : ∀ q t : Nat, lp_sh[q]? = some t → sh[q]? = some t) {X : zW} {j p : Nat} {e : va_E} (hj : ws[j]? = some (p, e)) (hK : 385 ≤ j → (zK X j).1 = zaK (some (0, e))) : zkd X j = zaK (some (0, e)) := by
  unfold zkd
  by_cases h : j < 385
  · rw [nltT h]
    show zn zt_k (zn lp_sh j) = _
    have hl : j < lp_sh.length := by
      rw [show lp_sh.length = 385 by decide +kernel]
      exact h
    have h1 : lp_sh[j]? = some (lp_sh[j]'hl) := List.getElem?_eq_getElem hl
    obtain ⟨td, d1, d2⟩ := hw.2.1 j p e _ hj (hs _ _ h1)
    rw [zn_get h1, zt_kt d1, co_len d2]
  · rw [nltF (show 385 ≤ j by omega)]
    exact hK (by omega)
