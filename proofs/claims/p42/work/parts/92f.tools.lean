noncomputable section
/-! what a method does, out of its contract: tools -/
def la : Nat → List Value → fL_
  | _, [] => []
  | i, v :: r => (i, v.category == 2, v) :: la (bif v.category == 2 then i + 2 else i + 1) r
theorem la_ok : ∀ (i : Nat) (As : List Value), f_rel (la i As) (lv_args i As)
  | _, [] => fun x hx => absurd hx List.not_mem_nil
  | i, v :: r => by
    intro x hx
    have e : lv_args i (v :: r) = (i, v) :: lv_args (if v.category = 2 then i + 2 else i + 1) r := rfl
    rw [e]
    rcases List.mem_cons.mp hx with rfl | hx
    · refine ⟨List.mem_cons_self, fun hb => ?_⟩
      have hb : (v.category == 2) = false := hb
      rw [beq_eq_false_iff_ne] at hb
      exact (lv_cat v).resolve_right hb
    · have hn : (bif v.category == 2 then i + 2 else i + 1) = (if v.category = 2 then i + 2 else i + 1) := by
        by_cases hc : v.category = 2
        · rw [if_pos hc, hc]; rfl
        · rw [if_neg hc, beq_eq_false_iff_ne.mpr hc]; rfl
      rw [hn] at hx
      obtain ⟨h1, h2⟩ := la_ok _ r x hx
      exact ⟨List.mem_cons_of_mem _ h1, h2⟩
/-- what a method does to what is held -/
abbrev fPh : Type := List Value → fH → Option Value → fH → Prop
/-- a method does what is said -/
def f_do (r : fR) (P : fPh) : Prop := ∀ (As : List Value) (ws : va_W) (sh : List Nat) (rv : Option Value) (ws' : va_W) (sh' : List Nat), r As ws sh rv ws' sh' → f_dj ws' ∧ P As (hof ws) rv (hof ws')
theorem sp_one {T : fT} {key na : Nat} {r : fR} {P : fPh} (hT : T.2.2.2.2.2.1 key = (na, r)) (hr : f_do r P) : (T.2.2.2.2.2.1 (key, na, P).1).1 = (key, na, P).2.1 ∧ ∀ (As : List Value) (w : fH) (ws : va_W) (sh : List Nat) (rv : Option Value) (ws' : va_W) (sh' : List Nat), wH w ws sh → (T.2.2.2.2.2.1 (key, na, P).1).2 As ws sh rv ws' sh' → ∃ w', wH w' ws' sh' ∧ (key, na, P).2.2 As w rv w' := by
  refine ⟨by show (T.2.2.2.2.2.1 key).1 = na; rw [hT], fun As w ws sh rv ws' sh' hw hx => ?_⟩
  have hx : (T.2.2.2.2.2.1 key).2 As ws sh rv ws' sh' := hx
  rw [hT] at hx
  obtain ⟨h1, h2⟩ := hr As ws sh rv ws' sh' hx
  refine ⟨hof ws', ⟨rfl, h1⟩, ?_⟩
  rw [hw.1]
  exact h2
/-- a method by its instructions -/
theorem do_of {TT : List ck_D} {SG : List Nat} {rt : Nat} {Wr : List (Nat × Nat)} {T : fT} {cc : ByteArray} {P : fPh} {code : ck_cd} (Sp : fP fH) (hd : List Value → fH → fI fH) (f : Nat) (hT : f_ok T = true) (hS : f_sp T Sp wH) (hcode : ∀ x ∈ code, decode cc x.1 = .ok (x.2.1, x.2.2))
    (hh : ∀ (As : List Value) (h0 : fH), ∀ x ∈ hd As h0, ∀ (lg : fL_) (vs : List Value) (w : fH), x.2 lg vs w → ∃ (L : fL_) (f : Nat), f_sub L lg ∧ wh oH T Sp (fun rv h => P As h0 rv h) code (hd As h0) f x.1 L vs w)
    (h : ∀ (As : List Value) (h0 : fH), wl oH T Sp (fun rv h => P As h0 rv h) code (hd As h0) f code 0 (la 0 As) [] h0 ∨ ∀ rv h, P As h0 rv h) : f_do (fq TT SG rt Wr T cc) P := by
  intro As ws sh rv ws' sh' hx
  refine ⟨hx.2.2.1, ?_⟩
  rcases h As (hof ws) with h | h
  · obtain ⟨wF, h1, h2⟩ := fr_ok oH_ok hT hS hcode (hh As (hof ws)) hx.1 (la_ok 0 As) ⟨rfl, hx.2.1⟩ h
    rw [← h1.1]
    exact h2
  · exact h _ _
theorem no_hd {W : Type} {Q : Nat × (fL_ → List Value → W → Prop) → Prop} : ∀ x ∈ ([] : fI W), Q x := fun _ h => absurd h List.not_mem_nil
/-! typed worlds: single arrays and objects -/
def arI (ws : va_W) (sh : List Nat) (t n : Nat) (a : Nat) (f : Nat → Int32) : Prop := ∃ (q : Nat) (cA : ClassId), sh[q]? = some t ∧ ws[q]? = some (a, .inl (cA, n, .inl f))
def arJ (ws : va_W) (sh : List Nat) (t n : Nat) (a : Nat) (f : Nat → Int64) : Prop := ∃ (q : Nat) (cA : ClassId), sh[q]? = some t ∧ ws[q]? = some (a, .inl (cA, n, .inr (.inl f)))
def obj (ws : va_W) (sh : List Nat) (t ci : Nat) (p : Nat) (fs : List Value) : Prop := ∃ (q : Nat), sh[q]? = some t ∧ ws[q]? = some (p, .inr (ci, fs))
theorem arI.at_ {ws : va_W} {sh : List Nat} {t n a : Nat} {f : Nat → Int32} (hd : f_dj ws) (h : arI ws sh t n a f) : ∃ cA, hof ws a = some (.inl (cA, n, .inl f)) := by
  obtain ⟨q, cA, -, h2⟩ := h
  exact ⟨cA, hof_at hd h2⟩
theorem obj.at_ {ws : va_W} {sh : List Nat} {t ci p : Nat} {fs : List Value} (hd : f_dj ws) (h : obj ws sh t ci p fs) : hof ws p = some (.inr (ci, fs)) := by
  obtain ⟨q, -, h2⟩ := h
  exact hof_at hd h2
/-- what isn't written stays -/
theorem arI.ex {Wr : List (Nat × Nat)} {ws ws' : va_W} {sh sh' : List Nat} {t n a : Nat} {f : Nat → Int32} (h : arI ws sh t n a f) (hx : ck_ex Wr ws sh ws' sh') (hw : (t, 0) ∉ Wr) : arI ws' sh' t n a f := by
  obtain ⟨q, cA, h1, h2⟩ := h
  obtain ⟨e', x1, x2⟩ := hx.2 q a _ t h2 h1
  cases e' with
  | inr _ => exact x2.elim
  | inl y => exact ⟨q, cA, hx.1 q t h1, by rw [x1, x2 hw]⟩
/-- a single array that may be written: the same place holds something else -/
theorem arI.wr {Wr : List (Nat × Nat)} {ws ws' : va_W} {sh sh' : List Nat} {t n n' a : Nat} {f f' : Nat → Int32} {cA' : ClassId} (h : arI ws sh t n a f) (hx : ck_ex Wr ws sh ws' sh') (hd : f_dj ws') (hh : hof ws' a = some (.inl (cA', n', .inl f'))) : arI ws' sh' t n' a f' := by
  obtain ⟨q, cA, h1, h2⟩ := h
  obtain ⟨e', x1, x2⟩ := hx.2 q a _ t h2 h1
  have e1 := hof_at hd x1
  have hh : hof ws' a = some (.inl (cA', n', .inl f')) := hh
  rw [e1] at hh
  have e2 := Option.some.inj hh
  subst e2
  exact ⟨q, cA', hx.1 q t h1, x1⟩
theorem obj.fld {tys : List (ClassId × FieldType)} {TT : List ck_D} {SG : List Nat} {ws : va_W} {sh : List Nat} {t0 ci p k t n a : Nat} {fs : List Value} {td : ck_D} {lo hi : Int} {f : Nat → Int32} (hw : ck_wo tys TT SG ws sh) (h : obj ws sh t0 ci p fs) (hTT : TT[t0]? = some td) (h0 : td.1 = 0) (hk : td.2.2.2[k]? = some (2, lo, hi, [t])) (hsg : t ∈ SG) (ha : arI ws sh t n a f) : fs[k]? = some (.ref a) := by
  obtain ⟨q, h1, h2⟩ := h
  obtain ⟨qa, cA, a1, a2⟩ := ha
  obtain ⟨td', d1, d2⟩ := hw.2.1 q p _ t0 h2 h1
  have e1 : td' = td := Option.some.inj (d1.symm.trans hTT)
  subst e1
  unfold ck_co at d2
  rw [h0] at d2
  obtain ⟨vs, e2, -, d3⟩ := d2
  have e3 : (ci, fs) = (td'.2.1, vs) := by injection e2
  have e4 : fs = vs := congrArg Prod.snd e3
  subst e4
  obtain ⟨v, v1, v2⟩ := d3 k _ hk
  obtain ⟨q', a', e', t', rfl, w1, w2, w3⟩ := (show ck_rf ws sh [t] v from v2)
  rw [List.mem_singleton.mp w3] at w2
  have e5 := hw.2.2 t hsg q' qa w2 a1
  subst e5
  rw [w1] at a2
  have e6 : a' = a := congrArg Prod.fst (Option.some.inj a2)
  rw [v1, e6]
theorem arI.rng {tys : List (ClassId × FieldType)} {TT : List ck_D} {SG : List Nat} {ws : va_W} {sh : List Nat} {t n n' k0 a : Nat} {lo hi : Int} {ts : List Nat} {f : Nat → Int32} (hw : ck_wo tys TT SG ws sh) (h : arI ws sh t n a f) (hTT : TT[t]? = some (1, n', k0, [(0, lo, hi, ts)])) : n = n' ∧ ∀ i, i < n → lo ≤ (f i).toInt ∧ (f i).toInt ≤ hi := by
  obtain ⟨q, cA, h1, h2⟩ := h
  obtain ⟨td', d1, d2⟩ := hw.2.1 q a _ t h2 h1
  have e1 : td' = (1, n', k0, [(0, lo, hi, ts)]) := Option.some.inj (d1.symm.trans hTT)
  subst e1
  obtain ⟨cA', f', -, e2, d3⟩ := d2
  cases e2
  exact ⟨rfl, fun i hi => (d3 _ rfl).2 i hi⟩
end
