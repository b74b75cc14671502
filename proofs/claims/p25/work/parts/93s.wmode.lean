/-! whole worlds: for methods that call what only must leave things as they are -/
def oW : fO lW := (fun w => hof w.1, fun w p e K => ∀ (q : Nat) (e0 : va_E), w.1[q]? = some (p, e0) → K (w.1.set q (p, e), w.2), fun w q e t K => f_dj (w.1 ++ [(q, e)]) → K (w.1 ++ [(q, e)], w.2 ++ [t]))
def wW (w : lW) (ws : va_W) (sh : List Nat) : Prop := w = (ws, sh) ∧ f_dj ws
theorem oW_ok : f_wr oW wW := by
  refine ⟨fun w ws sh h => ?_, fun w ws sh p q e e' K h hq hk => ?_, fun w ws sh q t e K h hd hk => ?_⟩
  · obtain ⟨rfl, hd⟩ := h
    exact ⟨rfl, hd⟩
  · obtain ⟨rfl, hd⟩ := h
    exact ⟨_, ⟨rfl, hd.set hq⟩, hk q e hq⟩
  · obtain ⟨rfl, -⟩ := h
    exact ⟨_, ⟨rfl, hd⟩, hk hd⟩
theorem sp_w {T : fT} {key na : Nat} {r : fR} (hT : T.2.2.2.2.2.1 key = (na, r)) (hr : ∀ (As : List Value) (ws : va_W) (sh : List Nat) (rv : Option Value) (ws' : va_W) (sh' : List Nat), r As ws sh rv ws' sh' → f_dj ws') : (T.2.2.2.2.2.1 (key, na, fLr r).1).1 = (key, na, fLr r).2.1 ∧ ∀ (As : List Value) (w : lW) (ws : va_W) (sh : List Nat) (rv : Option Value) (ws' : va_W) (sh' : List Nat), wW w ws sh → (T.2.2.2.2.2.1 (key, na, fLr r).1).2 As ws sh rv ws' sh' → ∃ w', wW w' ws' sh' ∧ (key, na, fLr r).2.2 As w rv w' := by
  refine ⟨by show (T.2.2.2.2.2.1 key).1 = na; rw [hT], fun As w ws sh rv ws' sh' hw hx => ?_⟩
  have hx : (T.2.2.2.2.2.1 key).2 As ws sh rv ws' sh' := hx
  rw [hT] at hx
  obtain ⟨rfl, -⟩ := hw
  exact ⟨(ws', sh'), ⟨rfl, hr _ _ _ _ _ _ hx⟩, hx⟩
theorem do_ofW {α : Type} {TT : List ck_D} {SG : List Nat} {rt : Nat} {Wr : List (Nat × Nat)} {T : fT} {cc : ByteArray} {code : ck_cd} (F : α → List Value) (Pre : α → lW → Prop) (Q : α → lW → Option Value → lW → Prop) (Sp : fP lW) (hd : α → lW → fI lW) (f : Nat) (hT : f_ok T = true) (hS : f_sp T Sp wW) (hcode : ∀ x ∈ code, decode cc x.1 = .ok (x.2.1, x.2.2))
    (hh : ∀ (a : α) (w0 : lW), Pre a w0 → ∀ x ∈ hd a w0, ∀ (lg : fL_) (vs : List Value) (w : lW), x.2 lg vs w → ∃ (L : fL_) (f : Nat), f_sub L lg ∧ wh oW T Sp (Q a w0) code (hd a w0) f x.1 L vs w)
    (h : ∀ (a : α) (w0 : lW), Pre a w0 → f_dj w0.1 → wl oW T Sp (Q a w0) code (hd a w0) f code 0 (la 0 (F a)) [] w0) : ∀ (a : α) (w w' : lW) (rv : Option Value), fLr (fq TT SG rt Wr T cc) (F a) w rv w' → Pre a w → Q a w rv w' := by
  intro a w w' rv hx hp
  have hx : fq TT SG rt Wr T cc (F a) w.1 w.2 rv w'.1 w'.2 := hx
  obtain ⟨wF, h1, h2⟩ := fr_ok (w := w) oW_ok hT hS hcode (hh a w hp) hx.1 (la_ok 0 (F a)) ⟨rfl, hx.2.1⟩ (h a w hp hx.2.1)
  have e : wF = w' := h1.1
  rw [← e]
  exact h2
/-- a place's cell written: what never changes stays -/
theorem Bs.set {B : Nat → Nat} {ws : va_W} {sh : List Nat} (h : Bs B ws sh) {q p : Nat} {e0 e : va_E} (hq : ws[q]? = some (p, e0)) (he : ∀ c, lp_L2[q]? = some c → cR B c e) : Bs B (ws.set q (p, e)) sh := by
  refine ⟨h.1, fun r c hc => ?_⟩
  obtain ⟨e1, h1, h2⟩ := h.2 r c hc
  by_cases eq : q = r
  · subst eq
    have hlt := (List.getElem?_eq_some_iff.mp hq).1
    have ep : p = B q := by
      rw [hq] at h1
      exact congrArg Prod.fst (Option.some.inj h1)
    exact ⟨e, by rw [List.getElem?_set_self hlt, ep], he c hc⟩
  · exact ⟨e1, by rw [List.getElem?_set_ne eq]; exact h1, h2⟩
/-- a number written into an object's field that holds none of the lasting references -/
theorem cR.fld {B : Nat → Nat} {c : mk_C} {ci : Nat} {fs : List Value} {k : Nat} {v : Value} (h : cR B c (.inr (ci, fs))) (hk : ∀ r, c.2.2.2[k]? ≠ some (2, 0, r)) : cR B c (.inr (ci, fs.set k v)) := by
  refine ⟨h.1, fun i r hi => ?_⟩
  have hne : k ≠ i := fun e => hk r (by rw [e]; exact hi)
  show (fs.set k v)[i]? = _
  rw [List.getElem?_set_ne hne]
  exact h.2 i r hi
