section
/-! whole worlds: for methods that call what only must leave things as they are -/
def oW : fO lW := (fun w => hof w.1, fun w p e K => ∀ (q : Nat) (e0 : va_E), w.1[q]? = some (p, e0) → K (w.1.set q (p, e), w.2), fun w q e t K => f_dj (w.1 ++ [(q, e)]) → K (w.1 ++ [(q, e)], w.2 ++ [t]))
def wW (w : lW) (ws : va_W) (sh : List Nat) : Prop := w = (ws, sh) ∧ f_dj ws
theorem oW_ok : f_wr oW wW := by
  refine ⟨fun w ws sh h => ?_, fun w ws sh p q e e' K h hq hk => ?_, fun w ws sh q t e K h hd hk => ?_⟩
  · obtain ⟨rfl, hd⟩ := h
    exact ⟨rfl, hd⟩
  · obtain ⟨rfl, hd⟩ := h
    exact ⟨_, ⟨rfl, hd.set hq⟩, hk q e hq⟩
  · obtain ⟨rfl, -⟩ := h
    exact ⟨_, ⟨rfl, hd⟩, hk hd⟩
theorem sp_w {T : fT} {key na : Nat} {r : fR} (hT : T.2.2.2.2.2.1 key = (na, r)) (hr : ∀ (As : List Value) (ws : va_W) (sh : List Nat) (rv : Option Value) (ws' : va_W) (sh' : List Nat), r As ws sh rv ws' sh' → f_dj ws') : (T.2.2.2.2.2.1 (key, na, fLr r).1).1 = (key, na, fLr r).2.1 ∧ ∀ (As : List Value) (w : lW) (ws : va_W) (sh : List Nat) (rv : Option Value) (ws' : va_W) (sh' : List Nat), wW w ws sh → (T.2.2.2.2.2.1 (key, na, fLr r).1).2 As ws sh rv ws' sh' → ∃ w', wW w' ws' sh' ∧ (key, na, fLr r).2.2 As w rv w' := by
  refine ⟨by show (T.2.2.2.2.2.1 key).1 = na; rw [hT], fun As w ws sh rv ws' sh' hw hx => ?_⟩
  have hx : (T.2.2.2.2.2.1 key).2 As ws sh rv ws' sh' := hx
  rw [hT] at hx
  obtain ⟨rfl, -⟩ := hw
  exact ⟨(ws', sh'), ⟨rfl, hr _ _ _ _ _ _ hx⟩, hx⟩
theorem do_ofW {α : Type} {TT : List ck_D} {SG : List Nat} {rt : Nat} {Wr : List (Nat × Nat)} {T : fT} {cc : ByteArray} {code : ck_cd} (F : α → List Value) (Pre : α → lW → Prop) (Q : α → lW → Option Value → lW → Prop) (Sp : fP lW) (hd : α → lW → fI lW) (f : Nat) (hT : f_ok T = true) (hS : f_sp T Sp wW) (hcode : ∀ x ∈ code, decode cc x.1 = .ok (x.2.1, x.2.2))
    (hh : ∀ (a : α) (w0 : lW), Pre a w0 → ∀ x ∈ hd a w0, ∀ (lg : fL_) (vs : List Value) (w : lW), x.2 lg vs w → ∃ (L : fL_) (f : Nat), f_sub L lg ∧ wh oW T Sp (Q a w0) code (hd a w0) f x.1 L vs w)
    (h : ∀ (a : α) (w0 : lW), Pre a w0 → f_dj w0.1 → wl oW T Sp (Q a w0) code (hd a w0) f code 0 (la 0 (F a)) [] w0) : ∀ (a : α) (w w' : lW) (rv : Option Value), fLr (fq TT SG rt Wr T cc) (F a) w rv w' → Pre a w → Q a w rv w' := by
  intro a w w' rv hx hp
  have hx : fq TT SG rt Wr T cc (F a) w.1 w.2 rv w'.1 w'.2 := hx
  obtain ⟨wF, h1, h2⟩ := fr_ok (w := w) oW_ok hT hS hcode (hh a w hp) hx.1 (la_ok 0 (F a)) ⟨rfl, hx.2.1⟩ (h a w hp hx.2.1)
  have e : wF = w' := h1.1
  rw [← e]
  exact h2
/-- a place's cell written: what never changes stays -/
theorem Bs.set {B : Nat → Nat} {ws : va_W} {sh : List Nat} (h : Bs B ws sh) {q p : Nat} {e0 e : va_E} (hq : ws[q]? = some (p, e0)) (he : ∀ c, lp_L2[q]? = some c → cR B c e) : Bs B (ws.set q (p, e)) sh := by
  refine ⟨h.1, fun r c hc => ?_⟩
  obtain ⟨e1, h1, h2⟩ := h.2 r c hc
  by_cases eq : q = r
  · subst eq
    have hlt := (List.getElem?_eq_some_iff.mp hq).1
    have ep : p = B q := by
      rw [hq] at h1
      exact congrArg Prod.fst (Option.some.inj h1)
    exact ⟨e, by rw [List.getElem?_set_self hlt, ep], he c hc⟩
  · exact ⟨e1, by rw [List.getElem?_set_ne eq]; exact h1, h2⟩
/-- a number written into an object's field that holds none of the lasting references -/
theorem cR.fld {B : Nat → Nat} {c : mk_C} {ci : Nat} {fs : List Value} {k : Nat} {v : Value} (h : cR B c (.inr (ci, fs))) (hk : ∀ r, c.2.2.2[k]? ≠ some (2, 0, r)) : cR B c (.inr (ci, fs.set k v)) := by
  refine ⟨h.1, fun i r hi => ?_⟩
  have hne : k ≠ i := fun e => hk r (by rw [e]; exact hi)
  show (fs.set k v)[i]? = _
  rw [List.getElem?_set_ne hne]
  exact h.2 i r hi
end
section
/-! texts: what both parsers take -/
abbrev okc (c : Int32) : Prop := (97 ≤ c.toInt ∧ c.toInt ≤ 104) ∨ c.toInt = 48 ∨ c.toInt = 49
def stA (s : Bool × Nat) (c : Int32) : Option (Bool × Nat) := match s.1 with
  | true => if c.toInt = 40 then some (true, s.2 + 1) else if okc c then some (false, s.2) else if c.toInt = 45 then some (true, s.2) else none
  | false => if c.toInt = 38 ∨ c.toInt = 124 ∨ c.toInt = 62 then some (true, s.2) else if c.toInt = 41 ∧ 0 < s.2 then some (false, s.2 - 1) else none
/-- the place of the first fault; -1: none -/
def acA (g : Nat → Int32) : Nat → Nat → Bool × Nat → Int
  | 0, i, s => if s.1 = true ∨ 0 < s.2 then i else -1
  | m + 1, i, s => match stA s (g i) with
    | some s' => acA g m (i + 1) s'
    | none => i
theorem acA_eq {g g' : Nat → Int32} : ∀ {m i : Nat} {s : Bool × Nat}, (∀ x, i ≤ x → x < i + m → g x = g' x) → acA g m i s = acA g' m i s
  | 0, _, _, _ => rfl
  | m + 1, i, s, h => by
    unfold acA
    rw [h i (Nat.le_refl _) (by omega)]
    split
    · exact acA_eq (fun x h1 h2 => h x (by omega) (by omega))
    · rfl
theorem acA_go {g : Nat → Int32} {N I : Nat} {s s' : Bool × Nat} {t : Int} (h : acA g (N - I) I s = t) (hI : I < N) (hs : stA s (g I) = some s') : acA g (N - (I + 1)) (I + 1) s' = t := by
  rw [← h, show N - I = (N - (I + 1)) + 1 by omega]
  show _ = (match stA s (g I) with
    | some s' => acA g (N - (I + 1)) (I + 1) s'
    | none => (I : Int))
  rw [hs]
theorem acA_no {g : Nat → Int32} {N I : Nat} {s : Bool × Nat} {t : Int} (h : acA g (N - I) I s = t) (hI : I < N) (hs : stA s (g I) = none) : (I : Int) = t := by
  rw [← h, show N - I = (N - (I + 1)) + 1 by omega]
  show _ = (match stA s (g I) with
    | some s' => acA g (N - (I + 1)) (I + 1) s'
    | none => (I : Int))
  rw [hs]
theorem acA_end {g : Nat → Int32} {N : Nat} {s : Bool × Nat} {t : Int} (h : acA g (N - N) N s = t) : t = if s.1 = true ∨ 0 < s.2 then (N : Int) else -1 := by
  rw [← h, Nat.sub_self]
  rfl
def wv : Bool → Int32
  | true => 1
  | false => 0
def rkc (c : Int32) : Int32 := if c.toInt = 38 then 3 else if c.toInt = 124 then 2 else if c.toInt = 62 then 1 else 0
theorem rkc_pos {c : Int32} : (rkc c).toInt ≤ 0 ↔ ¬ (c.toInt = 38 ∨ c.toInt = 124 ∨ c.toInt = 62) := by
  unfold rkc
  by_cases h1 : c.toInt = 38
  · rw [if_pos h1]
    exact ⟨fun h => absurd h (by decide), fun h => absurd (Or.inl h1) h⟩
  · rw [if_neg h1]
    by_cases h2 : c.toInt = 124
    · rw [if_pos h2]
      exact ⟨fun h => absurd h (by decide), fun h => absurd (Or.inr (Or.inl h2)) h⟩
    · rw [if_neg h2]
      by_cases h3 : c.toInt = 62
      · rw [if_pos h3]
        exact ⟨fun h => absurd h (by decide), fun h => absurd (Or.inr (Or.inr h3)) h⟩
      · rw [if_neg h3]
        exact ⟨fun _ z => by omega, fun _ => by decide⟩
theorem fo_X7 : f_ok5 fl_X7 pl_X7 nw_X7 kl_X7 il_X7 = true := by decide +kernel
theorem s_X7_isOperand : f_do r_X7_isOperand (fun As h rv h' => ∀ c : Int32, As = [.int c] → True → h' = h ∧ rv = some (.int (if okc c then 1 else 0))) := by
  refine do_ofP (fun c : Int32 => [.int c]) (fun _ _ => True) (fun c h rv h' => h' = h ∧ rv = some (.int (if okc c then 1 else 0))) [] (fun _ _ => []) 40 fo_X7 no_sp k_X7_isOperand (fun _ _ _ => no_hd) (fun c h0 _ => ?_)
  have e97 : (97 : Int32).toInt = 97 := by decide
  have e104 : (104 : Int32).toInt = 104 := by decide
  have e48 : (48 : Int32).toInt = 48 := by decide
  have e49 : (49 : Int32).toInt = 49 := by decide
  have yes : okc c → h0 = h0 ∧ some (Value.int 1) = some (.int (if okc c then 1 else 0)) := fun z => by
    rw [if_pos z]
    exact ⟨rfl, rfl⟩
  have no : ¬ okc c → h0 = h0 ∧ some (Value.int 0) = some (.int (if okc c then 1 else 0)) := fun z => by
    rw [if_neg z]
    exact ⟨rfl, rfl⟩
  unfold okc at yes no
  have low : ¬ (97 ≤ c.toInt ∧ c.toInt ≤ 104) → (c.toInt = (48 : Int32).toInt → h0 = h0 ∧ some (Value.int 1) = some (.int (if okc c then 1 else 0))) ∧ (¬ c.toInt = (48 : Int32).toInt → (¬ c.toInt = (49 : Int32).toInt → h0 = h0 ∧ some (Value.int 0) = some (.int (if okc c then 1 else 0))) ∧ (¬ ¬ c.toInt = (49 : Int32).toInt → h0 = h0 ∧ some (Value.int 1) = some (.int (if okc c then 1 else 0)))) := by
    intro hx
    exact ⟨fun h1 => yes (by omega), fun h1 => ⟨fun h2 => no (by omega), fun h2 => yes (by omega)⟩⟩
  refine ⟨fun ha => ?_, fun ha => ⟨fun hb => ?_, fun hb => ?_⟩⟩
  · have ha : c.toInt < (97 : Int32).toInt := ha
    exact low (by omega)
  · have ha : ¬ c.toInt < (97 : Int32).toInt := ha
    have hb : c.toInt ≤ (104 : Int32).toInt := hb
    exact yes (by omega)
  · have hb : ¬ c.toInt ≤ (104 : Int32).toInt := hb
    exact low (by omega)
theorem s_X7_rank : f_do r_X7_rank (fun As h rv h' => ∀ c : Int32, As = [.int c] → True → h' = h ∧ rv = some (.int (rkc c))) := by
  refine do_ofP (fun c : Int32 => [.int c]) (fun _ _ => True) (fun c h rv h' => h' = h ∧ rv = some (.int (rkc c))) [] (fun _ _ => []) 40 fo_X7 no_sp k_X7_rank (fun _ _ _ => no_hd) (fun c h0 _ => ?_)
  have e38 : (38 : Int32).toInt = 38 := by decide
  have e124 : (124 : Int32).toInt = 124 := by decide
  have e62 : (62 : Int32).toInt = 62 := by decide
  refine ⟨fun ha => ⟨fun hb => ⟨fun hc => ?_, fun hc => ?_⟩, fun hb => ?_⟩, fun ha => ?_⟩
  · have ha : ¬ c.toInt = (38 : Int32).toInt := ha
    have hb : ¬ c.toInt = (124 : Int32).toInt := hb
    have hc : ¬ c.toInt = (62 : Int32).toInt := hc
    refine ⟨rfl, ?_⟩
    show some (Value.int 0) = some (.int (rkc c))
    unfold rkc
    rw [if_neg (by omega), if_neg (by omega), if_neg (by omega)]
  · have ha : ¬ c.toInt = (38 : Int32).toInt := ha
    have hb : ¬ c.toInt = (124 : Int32).toInt := hb
    have hc : ¬ ¬ c.toInt = (62 : Int32).toInt := hc
    refine ⟨rfl, ?_⟩
    show some (Value.int 1) = some (.int (rkc c))
    unfold rkc
    rw [if_neg (by omega), if_neg (by omega), if_pos (by omega)]
  · have ha : ¬ c.toInt = (38 : Int32).toInt := ha
    have hb : ¬ ¬ c.toInt = (124 : Int32).toInt := hb
    refine ⟨rfl, ?_⟩
    show some (Value.int 2) = some (.int (rkc c))
    unfold rkc
    rw [if_neg (by omega), if_pos (by omega)]
  · have ha : ¬ ¬ c.toInt = (38 : Int32).toInt := ha
    refine ⟨rfl, ?_⟩
    show some (Value.int 3) = some (.int (rkc c))
    unfold rkc
    rw [if_pos (by omega)]
/-- the class's parser takes or refuses -/
abbrev ffA : Type := Nat × Nat × Int32 × Int32 × ClassId × (Nat → Int32)
def ff_F (a : ffA) : List Value := [.ref a.1, .ref a.2.1, .int a.2.2.1, .int a.2.2.2.1]
def ff_P (a : ffA) (h : fH) : Prop := h a.2.1 = some (.inl (a.2.2.2.2.1, 60, .inl a.2.2.2.2.2)) ∧ 0 ≤ a.2.2.1.toInt ∧ 0 ≤ a.2.2.2.1.toInt ∧ a.2.2.1.toInt + a.2.2.2.1.toInt ≤ 60
def ff_g (a : ffA) : Nat → Int32 := fun x => a.2.2.2.2.2 (a.2.2.1.toInt.toNat + x)
def ff_Q (a : ffA) (h : fH) (rv : Option Value) (h' : fH) : Prop := h' = h ∧ ∃ r : Int32, rv = some (.int r) ∧ r.toInt = acA (ff_g a) a.2.2.2.1.toInt.toNat 0 (true, 0)
def in_ff (a : ffA) (h0 : fH) : fL_ → List Value → fH → Prop := fun lg vs w => ∃ (i : Int32) (b : Bool) (o : Int32), f_sub [(6, false, .int i), (5, false, .int o), (4, false, .int (wv b)), (1, false, .ref a.2.1), (2, false, .int a.2.2.1), (3, false, .int a.2.2.2.1)] lg ∧ vs = [] ∧ w = h0 ∧ 0 ≤ i.toInt ∧ i.toInt ≤ a.2.2.2.1.toInt ∧ 0 ≤ o.toInt ∧ o.toInt ≤ i.toInt ∧ acA (ff_g a) (a.2.2.2.1.toInt.toNat - i.toInt.toNat) i.toInt.toNat (b, o.toInt.toNat) = acA (ff_g a) a.2.2.2.1.toInt.toNat 0 (true, 0)
theorem ff_nxt {p row : Nat} {fr n : Int32} {cA : ClassId} {f : Nat → Int32} {w : fH} {i o' : Int32} {b' : Bool} {M : Nat} {s : Bool × Nat} {L : fL_} (hs : f_sub [(6, false, .int (i + 1)), (5, false, .int o'), (4, false, .int (wv b')), (1, false, .ref row), (2, false, .int fr), (3, false, .int n)] L) (i0 : 0 ≤ i.toInt) (i1 : i.toInt < n.toInt) (h : acA (ff_g (p, row, fr, n, cA, f)) (n.toInt.toNat - i.toInt.toNat) i.toInt.toNat s = acA (ff_g (p, row, fr, n, cA, f)) n.toInt.toNat 0 (true, 0)) (ho : o'.toInt = (M : Int)) (hM : M ≤ i.toInt.toNat + 1) (hst : stA s (ff_g (p, row, fr, n, cA, f) i.toInt.toNat) = some (b', M)) : in_ff (p, row, fr, n, cA, f) w L [] w := by
  have hn := Int32.toInt_lt n
  have m3 : (i + 1).toInt = i.toInt + 1 := i_inc i0 (by omega)
  have g : o'.toInt.toNat = M := by
    rw [ho]
    rfl
  generalize i + 1 = i' at hs m3
  have hI1 : i'.toInt.toNat = i.toInt.toNat + 1 := by omega
  refine ⟨i', b', o', hs, rfl, rfl, (show 0 ≤ i'.toInt by omega), (show i'.toInt ≤ n.toInt by omega), (show 0 ≤ o'.toInt by omega), (show o'.toInt ≤ i'.toInt by omega), ?_⟩
  show acA (ff_g (p, row, fr, n, cA, f)) (n.toInt.toNat - i'.toInt.toNat) i'.toInt.toNat (b', o'.toInt.toNat) = _
  rw [hI1, g]
  exact acA_go h (by omega) hst
theorem i_dec {o : Int32} (h : 0 < o.toInt) : (o + -1).toInt = ((o.toInt.toNat - 1 : Nat) : Int) := by
  have h2 := Int32.toInt_lt o
  have em : (-1 : Int32).toInt = -1 := by decide
  rw [i_add (by rw [em]; omega) (by rw [em]; omega), em]
  omega
theorem i_incN {o : Int32} (h : 0 ≤ o.toInt) (h2 : o.toInt < 1000) : (o + 1).toInt = ((o.toInt.toNat + 1 : Nat) : Int) := by
  rw [i_inc h (by omega)]
  omega
theorem i_same {o : Int32} (h : 0 ≤ o.toInt) : o.toInt = ((o.toInt.toNat : Nat) : Int) := (Int.toNat_of_nonneg h).symm
def Sp_ff : fP fH := [(70, 1, fun As h rv h' => ∀ c : Int32, As = [.int c] → True → h' = h ∧ rv = some (.int (if okc c then 1 else 0))), (82, 1, fun As h rv h' => ∀ c : Int32, As = [.int c] → True → h' = h ∧ rv = some (.int (rkc c)))]
theorem Sp_ff_ok : f_sp T_X7_firstFault Sp_ff wH := List.forall_mem_cons.mpr ⟨sp_one rfl s_X7_isOperand, List.forall_mem_cons.mpr ⟨sp_one rfl s_X7_rank, no_sp⟩⟩
section
variable {p row : Nat} {fr n : Int32} {cA : ClassId} {f : Nat → Int32} {h0 : fH}
set_option maxHeartbeats 4000000 in
theorem ff_h9 (hr : h0 row = some (.inl (cA, 60, .inl f))) (fr0 : 0 ≤ fr.toInt) (f60 : fr.toInt + n.toInt ≤ 60) : ∀ (lg : fL_) (vs : List Value) (w : fH), in_ff (p, row, fr, n, cA, f) h0 lg vs w → ∃ (L : fL_) (fu : Nat), f_sub L lg ∧ wh oH T_X7_firstFault Sp_ff (ff_Q (p, row, fr, n, cA, f) h0) K_X7_firstFault [(9, in_ff (p, row, fr, n, cA, f) h0)] fu 9 L vs w := by
  rintro lg vs w ⟨i, b, o, hs, rfl, ew, i0, i1, o0, o1, hinv⟩
  have ew : w = h0 := ew
  subst w
  have i1 : i.toInt ≤ n.toInt := i1
  have hinv : acA (ff_g (p, row, fr, n, cA, f)) (n.toInt.toNat - i.toInt.toNat) i.toInt.toNat (b, o.toInt.toNat) = acA (ff_g (p, row, fr, n, cA, f)) n.toInt.toNat 0 (true, 0) := hinv
  have done : ∀ r : Int32, r.toInt = acA (ff_g (p, row, fr, n, cA, f)) n.toInt.toNat 0 (true, 0) → ff_Q (p, row, fr, n, cA, f) h0 (some (.int r)) h0 := fun r hr => ⟨rfl, r, rfl, hr⟩
  have e0 : (0 : Int32).toInt = 0 := by decide
  have e60 : (Int32.ofNat 60).toInt = 60 := by decide
  have e40 : (40 : Int32).toInt = 40 := by decide
  have e41 : (41 : Int32).toInt = 41 := by decide
  have e45 : (45 : Int32).toInt = 45 := by decide
  refine ⟨_, 100, hs, fun hc => ?_, fun hc => ?_⟩
  · have hc : n.toInt ≤ i.toInt := hc
    have ei : i.toInt = n.toInt := by omega
    rw [ei] at hinv
    have hend := acA_end hinv
    cases b with
    | true =>
      refine ⟨fun _ => ?_, fun hz => absurd (show (1 : Int32).toInt = 0 from Classical.not_not.mp hz) (by decide)⟩
      refine done n ?_
      rw [hend, if_pos (Or.inl rfl)]
      omega
    | false =>
      refine ⟨fun hz => absurd rfl (show ¬ (0 : Int32).toInt = 0 from hz), fun _ => ⟨fun hz => ?_, fun hz => ?_⟩⟩
      · have hz : o.toInt ≤ 0 := hz
        refine done (-1) ?_
        rw [hend, if_neg (fun z => z.elim (fun z => by cases z) (fun z => by have z : 0 < o.toInt.toNat := z; omega))]
        decide
      · have hz : ¬ o.toInt ≤ 0 := hz
        refine done n ?_
        rw [hend, if_pos (Or.inr (show 0 < o.toInt.toNat by omega))]
        omega
  · have hc : ¬ n.toInt ≤ i.toInt := hc
    have hI : i.toInt.toNat < n.toInt.toNat := by omega
    have hin : i.toInt < n.toInt := by omega
    have o59 : o.toInt < 1000 := by omega
    have oN : o.toInt.toNat ≤ i.toInt.toNat + 1 := by omega
    have oN1 : o.toInt.toNat + 1 ≤ i.toInt.toNat + 1 := by omega
    have oN2 : o.toInt.toNat - 1 ≤ i.toInt.toNat + 1 := by omega
    have m1 : (fr + i).toInt = fr.toInt + i.toInt := i_add (by omega) (by omega)
    refine ⟨fun hz => absurd (show (fr + i).toInt < 0 from hz) (by rw [m1]; omega), fun _ => ⟨fun hz => ?_, fun _ => ?_⟩⟩
    · have hz : (Int32.ofNat (eL (h0 row))).toInt ≤ (fr + i).toInt := hz
      rw [hr, m1] at hz
      have hz : (Int32.ofNat 60).toInt ≤ fr.toInt + i.toInt := hz
      rw [e60] at hz
      omega
    have ec : eI (h0 row) (fr + i).toNatClampNeg = ff_g (p, row, fr, n, cA, f) i.toInt.toNat := by
      rw [hr]
      show f (fr + i).toInt.toNat = f (fr.toInt.toNat + i.toInt.toNat)
      rw [m1]
      congr 1
      omega
    clear m1
    have bad : stA (b, o.toInt.toNat) (ff_g (p, row, fr, n, cA, f) i.toInt.toNat) = none → ff_Q (p, row, fr, n, cA, f) h0 (some (.int i)) h0 := fun h3 => done i (by rw [← acA_no hinv hI h3]; omega)
    obtain ⟨c, ec2⟩ : ∃ c : Int32, ff_g (p, row, fr, n, cA, f) i.toInt.toNat = c := ⟨_, rfl⟩
    rw [ec2] at ec bad
    cases b with
    | true =>
      refine ⟨fun hz => absurd (show (1 : Int32).toInt = 0 from hz) (by decide), fun _ => ⟨fun hd => ?_, fun hd => ?_⟩⟩
      · have hd : ¬ (eI (h0 row) (fr + i).toNatClampNeg).toInt = (40 : Int32).toInt := hd
        rw [ec, e40] at hd
        intro rv h1 hx
        obtain ⟨e1, rfl⟩ := hx (eI (h0 row) (fr + i).toNatClampNeg) rfl trivial
        have e1 : h1 = h0 := e1
        subst h1
        refine ⟨fun hy => ?_, fun hy => ?_⟩
        · have hy : (if okc (eI (h0 row) (fr + i).toNatClampNeg) then (1 : Int32) else 0).toInt = 0 := hy
          rw [ec] at hy
          have hno : ¬ okc c := fun z => by
            rw [if_pos z] at hy
            exact absurd hy (by decide)
          refine ⟨fun hq => ?_, fun hq => ?_⟩
          · have hq : (eI (h0 row) (fr + i).toNatClampNeg).toInt = (45 : Int32).toInt := hq
            rw [ec, e45] at hq
            refine ff_nxt (i := i) (o' := o) (b' := true) ⟨rfl, rfl, rfl, rfl, rfl, rfl, trivial⟩ i0 hin hinv (i_same o0) oN ?_
            rw [ec2]
            unfold stA
            dsimp only
            rw [if_neg hd, if_neg hno, if_pos hq]
          · have hq : ¬ (eI (h0 row) (fr + i).toNatClampNeg).toInt = (45 : Int32).toInt := hq
            rw [ec, e45] at hq
            refine bad ?_
            unfold stA
            dsimp only
            rw [if_neg hd, if_neg hno, if_neg hq]
        · have hy : ¬ (if okc (eI (h0 row) (fr + i).toNatClampNeg) then (1 : Int32) else 0).toInt = 0 := hy
          rw [ec] at hy
          have hyes : okc c := by
            by_cases z : okc c
            · exact z
            · rw [if_neg z] at hy
              exact absurd rfl hy
          refine ff_nxt (i := i) (o' := o) (b' := false) ⟨rfl, rfl, rfl, rfl, rfl, rfl, trivial⟩ i0 hin hinv (i_same o0) oN ?_
          rw [ec2]
          unfold stA
          dsimp only
          rw [if_neg hd, if_pos hyes]
      · have hd : ¬ ¬ (eI (h0 row) (fr + i).toNatClampNeg).toInt = (40 : Int32).toInt := hd
        rw [ec, e40] at hd
        refine ff_nxt (i := i) (o' := o + 1) (b' := true) ⟨rfl, rfl, rfl, rfl, rfl, rfl, trivial⟩ i0 hin hinv (i_incN o0 o59) oN1 ?_
        rw [ec2]
        unfold stA
        dsimp only
        rw [if_pos (Classical.not_not.mp hd)]
    | false =>
      refine ⟨fun _ => ?_, fun hz => absurd rfl (show ¬ (0 : Int32).toInt = 0 from hz)⟩
      intro rv h1 hx
      obtain ⟨e1, rfl⟩ := hx (eI (h0 row) (fr + i).toNatClampNeg) rfl trivial
      have e1 : h1 = h0 := e1
      subst h1
      refine ⟨fun hy => ?_, fun hy => ?_⟩
      · have hy : (rkc (eI (h0 row) (fr + i).toNatClampNeg)).toInt ≤ 0 := hy
        rw [ec] at hy
        have hno := rkc_pos.mp hy
        refine ⟨fun hq => ?_, fun hq => ⟨fun ho => ?_, fun ho => ?_⟩⟩
        · have hq : ¬ (eI (h0 row) (fr + i).toNatClampNeg).toInt = (41 : Int32).toInt := hq
          rw [ec, e41] at hq
          refine bad ?_
          unfold stA
          dsimp only
          rw [if_neg hno, if_neg (fun z => hq z.1)]
        · have ho : o.toInt ≤ 0 := ho
          have ho2 : ¬ 0 < o.toInt.toNat := by omega
          refine bad ?_
          unfold stA
          dsimp only
          rw [if_neg hno, if_neg (fun z => ho2 z.2)]
        · have hq : ¬ ¬ (eI (h0 row) (fr + i).toNatClampNeg).toInt = (41 : Int32).toInt := hq
          rw [ec, e41] at hq
          have ho : ¬ o.toInt ≤ 0 := ho
          have ho1 : 0 < o.toInt := by omega
          have ho2 : 0 < o.toInt.toNat := by omega
          refine ff_nxt (i := i) (o' := o + -1) (b' := false) ⟨rfl, rfl, rfl, rfl, rfl, rfl, trivial⟩ i0 hin hinv (i_dec ho1) oN2 ?_
          rw [ec2]
          unfold stA
          dsimp only
          rw [if_neg hno, if_pos ⟨Classical.not_not.mp hq, ho2⟩]
      · have hy : ¬ (rkc (eI (h0 row) (fr + i).toNatClampNeg)).toInt ≤ 0 := hy
        rw [ec] at hy
        have hyes : c.toInt = 38 ∨ c.toInt = 124 ∨ c.toInt = 62 := Classical.byContradiction (fun z => hy (rkc_pos.mpr z))
        refine ff_nxt (i := i) (o' := o) (b' := true) ⟨rfl, rfl, rfl, rfl, rfl, rfl, trivial⟩ i0 hin hinv (i_same o0) oN ?_
        rw [ec2]
        unfold stA
        dsimp only
        rw [if_pos hyes]
end
theorem s_X7_firstFault : f_do r_X7_firstFault (fun As h rv h' => ∀ a : ffA, As = ff_F a → ff_P a h → ff_Q a h rv h') := by
  refine do_ofP ff_F ff_P ff_Q Sp_ff (fun a h => [(9, in_ff a h)]) 100 fo_X7 Sp_ff_ok k_X7_firstFault (fun a h0 hp => ?_) (fun a h0 hp => ?_)
  · obtain ⟨p, row, fr, n, cA, f⟩ := a
    obtain ⟨hr, fr0, n0, f60⟩ := hp
    exact List.forall_mem_cons.mpr ⟨ff_h9 hr fr0 f60, fun _ h => absurd h List.not_mem_nil⟩
  · obtain ⟨p, row, fr, n, cA, f⟩ := a
    obtain ⟨hr, fr0, n0, f60⟩ := hp
    have n0 : 0 ≤ n.toInt := n0
    have e0 : (0 : Int32).toInt = 0 := by decide
    exact ⟨0, true, 0, ⟨rfl, rfl, rfl, rfl, rfl, rfl, trivial⟩, rfl, rfl, by decide, (show (0 : Int32).toInt ≤ n.toInt by rw [e0]; exact n0), by decide, by decide, rfl⟩
end
section
/-! the reference's parser takes or refuses -/
def pa_I (B : Nat → Nat) (cC : ClassId) (f : Nat → Int32) (w : lW) : Prop := f_dj w.1 ∧ Bs B w.1 w.2 ∧ (∃ fs, hof w.1 (B 343) = some (.inr (12, fs))) ∧ hof w.1 (B 383) = some (.inl (cC, 240, .inl f))
theorem pa_keep {B : Nat → Nat} {cC : ClassId} {f : Nat → Int32} {rt : Nat} {Wr : List (Nat × Nat)} {T : fT} {cc : ByteArray} {As : List Value} {w w' : lW} {rv : Option Value} (h : fLr (fq cw_TT cw_SG rt Wr T cc) As w rv w') (hI : pa_I B cC f w) (hk : bs_K.all (fun x => !(Wr.contains x)) = true) (hm : (84, 0) ∉ Wr) : pa_I B cC f w' := by
  obtain ⟨-, hd, hd', hx, -, -⟩ := (show fq cw_TT cw_SG rt Wr T cc As w.1 w.2 rv w'.1 w'.2 from h)
  obtain ⟨-, hB, ⟨fs, hp⟩, hf⟩ := hI
  refine ⟨hd', hB.ex hx hk, ?_, by rw [hB.same hd hd' hx bl_383 bt_383 (by decide) hm]; exact hf⟩
  obtain ⟨e, h1, h2, -⟩ := hB.h hd bl_343
  rw [hp] at h2
  have h2 : .inr (12, fs) = e := Option.some.inj h2
  subst h2
  obtain ⟨e', x1, x2⟩ := hx.2 343 _ _ 17 h1 (hB.1 343 17 bt_343)
  cases e' with
  | inl _ => exact x2.elim
  | inr o' =>
    obtain ⟨y1, -⟩ := x2
    refine ⟨o'.2, ?_⟩
    rw [hof_at hd' x1]
    have y1 : o'.1 = 12 := y1
    rw [← y1]
theorem pa_fld {B : Nat → Nat} {w : lW} {cC : ClassId} {f : Nat → Int32} (hI : pa_I B cC f w) : eG fl_X12 130 (hof w.1 (B 343)) = .ref (B 383) := by
  obtain ⟨hd, hB, ⟨fs, hp⟩, -⟩ := hI
  obtain ⟨e, -, h2, h3⟩ := hB.h hd bl_343
  rw [hp] at h2
  have h2 : .inr (12, fs) = e := Option.some.inj h2
  subst h2
  rw [hp]
  show fs.getD 66 .null = _
  rw [List.getD_eq_getElem?_getD, h3.2 66 383 rfl]
  rfl
/-- a number of the model written that is no reference -/
theorem pa_put {B : Nat → Nat} {w : lW} {cC : ClassId} {f : Nat → Int32} (hI : pa_I B cC f w) {k : Nat} {v : Value} {fs : List Value} (hp : hof w.1 (B 343) = some (.inr (12, fs))) (hk : ∀ r, ([(1, 0, 0), (1, 0, 0), (2, 0, 344), (2, 0, 345), (2, 0, 346), (1, 0, 0), (2, 0, 347), (1, 0, 0), (1, 0, 0), (2, 0, 348), (2, 0, 349), (2, 0, 350), (2, 0, 351), (2, 0, 352), (2, 0, 353), (1, 0, 0), (1, 99, 0), (1, 0, 0), (2, 0, 354), (1, 0, 0), (1, 0, 0), (1, 0, 0), (2, 0, 355), (1, 0, 0), (2, 0, 356), (1, 0, 0), (1, 0, 0), (1, 0, 0), (2, 0, 357), (2, 0, 358), (2, 0, 359), (2, 0, 360), (2, 0, 361), (1, 0, 0), (2, 0, 362), (1, 0, 0), (2, 0, 363), (1, 0, 0), (2, 0, 364), (2, 0, 365), (1, 0, 0), (2, 0, 366), (2, 0, 367), (1, 0, 0), (2, 0, 368), (2, 0, 369), (2, 0, 370), (1, 0, 0), (1, 0, 0), (1, 0, 0), (2, 0, 371), (1, 0, 0), (2, 0, 372), (2, 0, 373), (2, 0, 374), (1, 0, 0), (1, 0, 0), (2, 0, 375), (2, 0, 376), (2, 0, 377), (2, 0, 378), (2, 0, 379), (2, 0, 380), (1, 0, 0), (2, 0, 381), (2, 0, 382), (2, 0, 383), (2, 0, 384)] : List mk_V)[k]? ≠ some (2, 0, r)) {q : Nat} {e0 : va_E} (hq : w.1[q]? = some (B 343, e0)) : pa_I B cC f (w.1.set q (B 343, .inr (12, fs.set k v)), w.2) := by
  obtain ⟨hd, hB, -, hf⟩ := hI
  obtain ⟨e, h1, h2, h3⟩ := hB.h hd bl_343
  rw [hp] at h2
  have h2 : .inr (12, fs) = e := Option.some.inj h2
  subst h2
  have eq : q = 343 := hd q 343 _ _ hq h1 rfl
  subst eq
  refine ⟨hd.set hq, hB.set hq (fun c hc => ?_), ⟨fs.set k v, ?_⟩, ?_⟩
  · rw [bl_343] at hc
    have hc := Option.some.inj hc
    subst hc
    exact cR.fld h3 hk
  · show hof (w.1.set 343 _) (B 343) = _
    rw [hof_set hd hq, hset_at]
  · show hof (w.1.set 343 _) (B 383) = _
    rw [hof_set hd hq, hset_ne (hB.ne hd bl_383 bl_343 (by decide))]
    exact hf
abbrev paA : Type := (Nat → Nat) × Int32 × Int32 × ClassId × (Nat → Int32)
def pa_F (a : paA) : List Value := [.ref (a.1 343), .int a.2.1, .int a.2.2.1]
def pa_P (a : paA) (w : lW) : Prop := pa_I a.1 a.2.2.2.1 a.2.2.2.2 w ∧ 0 ≤ a.2.1.toInt ∧ 0 ≤ a.2.2.1.toInt ∧ a.2.1.toInt + a.2.2.1.toInt ≤ 240
def pa_g (a : paA) : Nat → Int32 := fun x => a.2.2.2.2 (a.2.1.toInt.toNat + x)
def pa_Q (a : paA) (w : lW) (rv : Option Value) (w' : lW) : Prop := pa_I a.1 a.2.2.2.1 a.2.2.2.2 w' ∧ ∃ r : Int32, rv = some (.int r) ∧ r.toInt = acA (pa_g a) a.2.2.1.toInt.toNat 0 (true, 0)
def in_pa (a : paA) : fL_ → List Value → lW → Prop := fun lg vs w => ∃ (i : Int32) (b : Bool) (o : Int32), f_sub [(5, false, .int i), (3, false, .int o), (4, false, .int (wv b)), (0, false, .ref (a.1 343)), (1, false, .int a.2.1), (2, false, .int a.2.2.1)] lg ∧ vs = [] ∧ pa_I a.1 a.2.2.2.1 a.2.2.2.2 w ∧ 0 ≤ i.toInt ∧ i.toInt ≤ a.2.2.1.toInt ∧ 0 ≤ o.toInt ∧ o.toInt ≤ i.toInt ∧ acA (pa_g a) (a.2.2.1.toInt.toNat - i.toInt.toNat) i.toInt.toNat (b, o.toInt.toNat) = acA (pa_g a) a.2.2.1.toInt.toNat 0 (true, 0)
def pa_st (a : paA) (i o : Int32) (b : Bool) (c : Int32) : Prop := 0 ≤ i.toInt ∧ i.toInt < a.2.2.1.toInt ∧ 0 ≤ o.toInt ∧ o.toInt ≤ i.toInt ∧ acA (pa_g a) (a.2.2.1.toInt.toNat - i.toInt.toNat) i.toInt.toNat (b, o.toInt.toNat) = acA (pa_g a) a.2.2.1.toInt.toNat 0 (true, 0) ∧ pa_g a i.toInt.toNat = c
def in_po (a : paA) : fL_ → List Value → lW → Prop := fun lg vs w => ∃ (i o c : Int32), f_sub [(6, false, .int c), (5, false, .int i), (3, false, .int o), (0, false, .ref (a.1 343)), (1, false, .int a.2.1), (2, false, .int a.2.2.1)] lg ∧ vs = [] ∧ pa_I a.1 a.2.2.2.1 a.2.2.2.2 w ∧ pa_st a i o true c ∧ (c.toInt = 45 ∨ c.toInt = 40 ∨ okc c)
def in_pq (a : paA) : fL_ → List Value → lW → Prop := fun lg vs w => ∃ (i o c : Int32), f_sub [(6, false, .int c), (5, false, .int i), (3, false, .int o), (0, false, .ref (a.1 343)), (1, false, .int a.2.1), (2, false, .int a.2.2.1)] lg ∧ vs = [] ∧ pa_I a.1 a.2.2.2.1 a.2.2.2.2 w ∧ pa_st a i o false c ∧ ((c.toInt = 38 ∨ c.toInt = 124 ∨ c.toInt = 62) ∨ (c.toInt = 41 ∧ 0 < o.toInt))
def in_pb (a : paA) : fL_ → List Value → lW → Prop := fun lg vs w => f_sub [(0, false, .ref (a.1 343))] lg ∧ vs = [] ∧ pa_I a.1 a.2.2.2.1 a.2.2.2.2 w ∧ acA (pa_g a) a.2.2.1.toInt.toNat 0 (true, 0) = -1
def pa_hd (a : paA) : fI lW := [(18, in_pa a), (86, in_po a), (166, in_pq a), (218, in_pb a)]
def Sp_pa : fP lW := [(457, 3, fLr r_X12_in), (564, 1, fLr r_X12_reduce), (585, 2, fLr r_X12_operand), (594, 2, fLr r_X12_operator)]
theorem Sp_pa_ok : f_sp T_X12_parse Sp_pa wW := List.forall_mem_cons.mpr ⟨sp_w rfl (fun _ _ _ _ _ _ h => h.2.2.1), List.forall_mem_cons.mpr ⟨sp_w rfl (fun _ _ _ _ _ _ h => h.2.2.1), List.forall_mem_cons.mpr ⟨sp_w rfl (fun _ _ _ _ _ _ h => h.2.2.1), List.forall_mem_cons.mpr ⟨sp_w rfl (fun _ _ _ _ _ _ h => h.2.2.1), fun _ h => absurd h List.not_mem_nil⟩⟩⟩⟩
theorem stA_m {n : Nat} {c : Int32} (h1 : ¬ c.toInt = 40) (h2 : c.toInt = 45) : stA (true, n) c = some (true, n) := by
  unfold stA
  dsimp only
  rw [if_neg h1, if_neg (by unfold okc; omega), if_pos h2]
theorem stA_o {n : Nat} {c : Int32} (h : okc c) : stA (true, n) c = some (false, n) := by
  unfold stA
  dsimp only
  rw [if_neg (by unfold okc at h; omega), if_pos h]
theorem stA_b {n : Nat} {c : Int32} (h : c.toInt = 40) : stA (true, n) c = some (true, n + 1) := by
  unfold stA
  dsimp only
  rw [if_pos h]
theorem stA_s {n : Nat} {c : Int32} (h : c.toInt = 38 ∨ c.toInt = 124 ∨ c.toInt = 62) : stA (false, n) c = some (true, n) := by
  unfold stA
  dsimp only
  rw [if_pos h]
theorem stA_c {n : Nat} {c : Int32} (h : c.toInt = 41) (hn : 0 < n) : stA (false, n) c = some (false, n - 1) := by
  unfold stA
  dsimp only
  rw [if_neg (by omega), if_pos ⟨h, hn⟩]
theorem pa_nxt {B : Nat → Nat} {fr n : Int32} {cC : ClassId} {f : Nat → Int32} {w : lW} {i o o' c : Int32} {b b' : Bool} {M : Nat} {L : fL_} (hs : f_sub [(5, false, .int (i + 1)), (3, false, .int o'), (4, false, .int (wv b')), (0, false, .ref (B 343)), (1, false, .int fr), (2, false, .int n)] L) (hI : pa_I B cC f w) (h : pa_st (B, fr, n, cC, f) i o b c) (ho : o'.toInt = (M : Int)) (hM : M ≤ i.toInt.toNat + 1) (hst : stA (b, o.toInt.toNat) c = some (b', M)) : in_pa (B, fr, n, cC, f) L [] w := by
  obtain ⟨i0, i1, -, -, h, hc⟩ := h
  have i1 : i.toInt < n.toInt := i1
  have h : acA (pa_g (B, fr, n, cC, f)) (n.toInt.toNat - i.toInt.toNat) i.toInt.toNat (b, o.toInt.toNat) = acA (pa_g (B, fr, n, cC, f)) n.toInt.toNat 0 (true, 0) := h
  have hn := Int32.toInt_lt n
  have m3 : (i + 1).toInt = i.toInt + 1 := i_inc i0 (by omega)
  have g : o'.toInt.toNat = M := by
    rw [ho]
    rfl
  generalize i + 1 = i' at hs m3
  have hI1 : i'.toInt.toNat = i.toInt.toNat + 1 := by omega
  refine ⟨i', b', o', hs, rfl, hI, (show 0 ≤ i'.toInt by omega), (show i'.toInt ≤ n.toInt by omega), (show 0 ≤ o'.toInt by omega), (show o'.toInt ≤ i'.toInt by omega), ?_⟩
  show acA (pa_g (B, fr, n, cC, f)) (n.toInt.toNat - i'.toInt.toNat) i'.toInt.toNat (b', o'.toInt.toNat) = _
  rw [hI1, g]
  exact acA_go h (by omega) (by rw [hc]; exact hst)
theorem z_add {o : Int32} (h : 0 ≤ o.toInt) : (o + 0).toInt = ((o.toInt.toNat : Nat) : Int) := by
  have h2 := Int32.toInt_lt o
  have z0 : (0 : Int32).toInt = 0 := by decide
  rw [i_add (by rw [z0]; omega) (by rw [z0]; omega), z0]
  omega
theorem z_sub {o : Int32} (h : 0 ≤ o.toInt) : (o - 0).toInt = ((o.toInt.toNat : Nat) : Int) := by
  have h2 := Int32.toInt_lt o
  have z0 : (0 : Int32).toInt = 0 := by decide
  rw [Int32.toInt_sub, z0, Int.bmod_eq_of_le (by omega) (by omega)]
  omega
theorem z_dec {o : Int32} (h : 0 < o.toInt) : (o - 1).toInt = ((o.toInt.toNat - 1 : Nat) : Int) := by
  have h2 := Int32.toInt_lt o
  have z1 : (1 : Int32).toInt = 1 := by decide
  rw [Int32.toInt_sub, z1, Int.bmod_eq_of_le (by omega) (by omega)]
  omega
section
variable {B : Nat → Nat} {fr n : Int32} {cC : ClassId} {f : Nat → Int32} {w0 : lW}
set_option maxHeartbeats 8000000 in
theorem pa_h18 (fr0 : 0 ≤ fr.toInt) (f240 : fr.toInt + n.toInt ≤ 240) : ∀ (lg : fL_) (vs : List Value) (w : lW), in_pa (B, fr, n, cC, f) lg vs w → ∃ (L : fL_) (fu : Nat), f_sub L lg ∧ wh oW T_X12_parse Sp_pa (pa_Q (B, fr, n, cC, f) w0) K_X12_parse (pa_hd (B, fr, n, cC, f)) fu 18 L vs w := by
  rintro lg vs w ⟨i, b, o, hs, rfl, hI, i0, i1, o0, o1, hinv⟩
  have hI : pa_I B cC f w := hI
  have i1 : i.toInt ≤ n.toInt := i1
  have hinv : acA (pa_g (B, fr, n, cC, f)) (n.toInt.toNat - i.toInt.toNat) i.toInt.toNat (b, o.toInt.toNat) = acA (pa_g (B, fr, n, cC, f)) n.toInt.toNat 0 (true, 0) := hinv
  have done : ∀ r : Int32, r.toInt = acA (pa_g (B, fr, n, cC, f)) n.toInt.toNat 0 (true, 0) → pa_Q (B, fr, n, cC, f) w0 (some (.int r)) w := fun r hr => ⟨hI, r, rfl, hr⟩
  have e40 : (40 : Int32).toInt = 40 := by decide
  have e41 : (41 : Int32).toInt = 41 := by decide
  have e45 : (45 : Int32).toInt = 45 := by decide
  have e48 : (48 : Int32).toInt = 48 := by decide
  have e49 : (49 : Int32).toInt = 49 := by decide
  have e62 : (62 : Int32).toInt = 62 := by decide
  have e124 : (124 : Int32).toInt = 124 := by decide
  have e38 : (38 : Int32).toInt = 38 := by decide
  refine ⟨_, 120, hs, fun hc => ?_, fun hc => ?_⟩
  · have hc : n.toInt ≤ i.toInt := hc
    have ei : i.toInt = n.toInt := by omega
    rw [ei] at hinv
    have hend := acA_end hinv
    cases b with
    | true =>
      refine ⟨fun _ => ?_, fun hz => absurd (show (1 : Int32).toInt = 0 from Classical.not_not.mp hz) (by decide)⟩
      refine done n ?_
      rw [hend, if_pos (Or.inl rfl)]
      omega
    | false =>
      refine ⟨fun hz => absurd rfl (show ¬ (0 : Int32).toInt = 0 from hz), fun _ => ⟨fun hz => ?_, fun hz => ?_⟩⟩
      · have hz : o.toInt ≤ 0 := hz
        refine ⟨⟨rfl, trivial⟩, rfl, hI, ?_⟩
        show acA (pa_g (B, fr, n, cC, f)) n.toInt.toNat 0 (true, 0) = -1
        rw [hend, if_neg (fun z => z.elim (fun z => by cases z) (fun z => by have z : 0 < o.toInt.toNat := z; omega))]
      · have hz : ¬ o.toInt ≤ 0 := hz
        refine done n ?_
        rw [hend, if_pos (Or.inr (show 0 < o.toInt.toNat by omega))]
        omega
  · have hc : ¬ n.toInt ≤ i.toInt := hc
    have hIi : i.toInt.toNat < n.toInt.toNat := by omega
    have hin : i.toInt < n.toInt := by omega
    have ec : (eI (hof w.1 (rv_ (eG fl_X12 130 (hof w.1 (B 343))))) (fr + i).toNatClampNeg) = pa_g (B, fr, n, cC, f) i.toInt.toNat := by
      have m1 : (fr + i).toInt = fr.toInt + i.toInt := i_add (by omega) (by omega)
      rw [pa_fld hI]
      show eI (hof w.1 (B 383)) _ = _
      rw [hI.2.2.2]
      show f (fr + i).toInt.toNat = f (fr.toInt.toNat + i.toInt.toNat)
      rw [m1]
      congr 1
      omega
    have bad : stA (b, o.toInt.toNat) (pa_g (B, fr, n, cC, f) i.toInt.toNat) = none → pa_Q (B, fr, n, cC, f) w0 (some (.int i)) w := fun h3 => done i (by rw [← acA_no hinv hIi h3]; omega)
    obtain ⟨c, ec2⟩ : ∃ c : Int32, pa_g (B, fr, n, cC, f) i.toInt.toNat = c := ⟨_, rfl⟩
    rw [ec2] at ec bad
    have hst : pa_st (B, fr, n, cC, f) i o b c := ⟨i0, hin, o0, o1, hinv, ec2⟩
    clear hinv done
    have eC := ec
    cases b with
    | true =>
      have go : (c.toInt = 45 ∨ c.toInt = 40 ∨ okc c) → ∀ (L : fL_) (w1 : lW), pa_I B cC f w1 → f_sub [(6, false, .int (eI (hof w.1 (rv_ (eG fl_X12 130 (hof w.1 (B 343))))) (fr + i).toNatClampNeg)), (5, false, .int i), (3, false, .int o), (0, false, .ref (B 343)), (1, false, .int fr), (2, false, .int n)] L → in_po (B, fr, n, cC, f) L [] w1 := fun hx L w1 hI1 hL => ⟨i, o, c, by rw [eC] at hL; exact hL, rfl, hI1, hst, hx⟩
      refine ⟨fun hz => absurd (show (1 : Int32).toInt = 0 from hz) (by decide), fun _ => ⟨fun ha => ?_, fun ha => ⟨fun hb => ?_, fun hb => ⟨fun hd => ?_, fun hd => ⟨fun he => ?_, fun he => ?_⟩⟩⟩⟩⟩
      · have ha : (eI (hof w.1 (rv_ (eG fl_X12 130 (hof w.1 (B 343))))) (fr + i).toNatClampNeg).toInt = (45 : Int32).toInt := ha
        rw [eC, e45] at ha
        exact go (Or.inl ha) _ _ hI ⟨rfl, rfl, rfl, rfl, rfl, rfl, trivial⟩
      · have hb : (eI (hof w.1 (rv_ (eG fl_X12 130 (hof w.1 (B 343))))) (fr + i).toNatClampNeg).toInt = (40 : Int32).toInt := hb
        rw [eC, e40] at hb
        exact go (Or.inr (Or.inl hb)) _ _ hI ⟨rfl, rfl, rfl, rfl, rfl, rfl, trivial⟩
      · have hd : (eI (hof w.1 (rv_ (eG fl_X12 130 (hof w.1 (B 343))))) (fr + i).toNatClampNeg).toInt = (48 : Int32).toInt := hd
        rw [eC, e48] at hd
        exact go (Or.inr (Or.inr (Or.inr (Or.inl hd)))) _ _ hI ⟨rfl, rfl, rfl, rfl, rfl, rfl, trivial⟩
      · have he : (eI (hof w.1 (rv_ (eG fl_X12 130 (hof w.1 (B 343))))) (fr + i).toNatClampNeg).toInt = (49 : Int32).toInt := he
        rw [eC, e49] at he
        exact go (Or.inr (Or.inr (Or.inr (Or.inr he)))) _ _ hI ⟨rfl, rfl, rfl, rfl, rfl, rfl, trivial⟩
      · have ha : ¬ (eI (hof w.1 (rv_ (eG fl_X12 130 (hof w.1 (B 343))))) (fr + i).toNatClampNeg).toInt = (45 : Int32).toInt := ha
        rw [eC, e45] at ha
        have hb : ¬ (eI (hof w.1 (rv_ (eG fl_X12 130 (hof w.1 (B 343))))) (fr + i).toNatClampNeg).toInt = (40 : Int32).toInt := hb
        rw [eC, e40] at hb
        have hd : ¬ (eI (hof w.1 (rv_ (eG fl_X12 130 (hof w.1 (B 343))))) (fr + i).toNatClampNeg).toInt = (48 : Int32).toInt := hd
        rw [eC, e48] at hd
        have he : ¬ (eI (hof w.1 (rv_ (eG fl_X12 130 (hof w.1 (B 343))))) (fr + i).toNatClampNeg).toInt = (49 : Int32).toInt := he
        rw [eC, e49] at he
        intro rv w1 hx
        have hx : fLr r_X12_in [.long (eI (hof w.1 (rv_ (eG fl_X12 130 (hof w.1 (B 343))))) (fr + i).toNatClampNeg).toInt64, .long 97, .long 104] w rv w1 := hx
        have hi1 : pa_I B cC f w1 := pa_keep hx hI (by decide) (by decide)
        obtain ⟨-, er⟩ := (s_X12_in _ _ _ _ _ _ hx).2 ((eI (hof w.1 (rv_ (eG fl_X12 130 (hof w.1 (B 343))))) (fr + i).toNatClampNeg).toInt64, 97, 104) rfl trivial
        have er : rv = some (.int (if (97 : Int64).toInt ≤ (eI (hof w.1 (rv_ (eG fl_X12 130 (hof w.1 (B 343))))) (fr + i).toNatClampNeg).toInt64.toInt ∧ (eI (hof w.1 (rv_ (eG fl_X12 130 (hof w.1 (B 343))))) (fr + i).toNatClampNeg).toInt64.toInt ≤ (104 : Int64).toInt then 1 else 0)) := er
        have e97 : (97 : Int64).toInt = 97 := by decide
        have e104 : (104 : Int64).toInt = 104 := by decide
        rw [eC, e97, e104, Int32.toInt_toInt64] at er
        subst er
        refine ⟨fun hy => ?_, fun hy => ?_⟩
        · have hy : ¬ (if 97 ≤ c.toInt ∧ c.toInt ≤ 104 then (1 : Int32) else 0).toInt = 0 := hy
          have hok : 97 ≤ c.toInt ∧ c.toInt ≤ 104 := by
            by_cases z : 97 ≤ c.toInt ∧ c.toInt ≤ 104
            · exact z
            · rw [if_neg z] at hy
              exact absurd rfl hy
          exact go (Or.inr (Or.inr (Or.inl hok))) _ _ hi1 ⟨rfl, rfl, rfl, rfl, rfl, rfl, trivial⟩
        · have hy : ¬ ¬ (if 97 ≤ c.toInt ∧ c.toInt ≤ 104 then (1 : Int32) else 0).toInt = 0 := hy
          have hno : ¬ (97 ≤ c.toInt ∧ c.toInt ≤ 104) := fun z => hy (by rw [if_pos z]; decide)
          obtain ⟨-, r, er, hr⟩ := bad (by unfold stA; dsimp only; rw [if_neg hb, if_neg (by unfold okc; omega), if_neg ha])
          exact ⟨hi1, r, er, hr⟩
    | false =>
      have go : ((c.toInt = 38 ∨ c.toInt = 124 ∨ c.toInt = 62) ∨ (c.toInt = 41 ∧ 0 < o.toInt)) → ∀ (L : fL_), f_sub [(6, false, .int (eI (hof w.1 (rv_ (eG fl_X12 130 (hof w.1 (B 343))))) (fr + i).toNatClampNeg)), (5, false, .int i), (3, false, .int o), (0, false, .ref (B 343)), (1, false, .int fr), (2, false, .int n)] L → in_pq (B, fr, n, cC, f) L [] w := fun hx L hL => ⟨i, o, c, by rw [eC] at hL; exact hL, rfl, hI, hst, hx⟩
      refine ⟨fun _ => ⟨fun ha => ?_, fun ha => ⟨fun hb => ?_, fun hb => ⟨fun hd => ?_, fun hd => ⟨fun he => ?_, fun he => ⟨fun hg => ?_, fun hg => ?_⟩⟩⟩⟩⟩, fun hz => absurd rfl (show ¬ (0 : Int32).toInt = 0 from hz)⟩
      · have ha : (eI (hof w.1 (rv_ (eG fl_X12 130 (hof w.1 (B 343))))) (fr + i).toNatClampNeg).toInt = (62 : Int32).toInt := ha
        rw [eC, e62] at ha
        exact go (Or.inl (Or.inr (Or.inr ha))) _ ⟨rfl, rfl, rfl, rfl, rfl, rfl, trivial⟩
      · have hb : (eI (hof w.1 (rv_ (eG fl_X12 130 (hof w.1 (B 343))))) (fr + i).toNatClampNeg).toInt = (124 : Int32).toInt := hb
        rw [eC, e124] at hb
        exact go (Or.inl (Or.inr (Or.inl hb))) _ ⟨rfl, rfl, rfl, rfl, rfl, rfl, trivial⟩
      · have hd : (eI (hof w.1 (rv_ (eG fl_X12 130 (hof w.1 (B 343))))) (fr + i).toNatClampNeg).toInt = (38 : Int32).toInt := hd
        rw [eC, e38] at hd
        exact go (Or.inl (Or.inl hd)) _ ⟨rfl, rfl, rfl, rfl, rfl, rfl, trivial⟩
      · have ha : ¬ (eI (hof w.1 (rv_ (eG fl_X12 130 (hof w.1 (B 343))))) (fr + i).toNatClampNeg).toInt = (62 : Int32).toInt := ha
        rw [eC, e62] at ha
        have hb : ¬ (eI (hof w.1 (rv_ (eG fl_X12 130 (hof w.1 (B 343))))) (fr + i).toNatClampNeg).toInt = (124 : Int32).toInt := hb
        rw [eC, e124] at hb
        have hd : ¬ (eI (hof w.1 (rv_ (eG fl_X12 130 (hof w.1 (B 343))))) (fr + i).toNatClampNeg).toInt = (38 : Int32).toInt := hd
        rw [eC, e38] at hd
        have he : ¬ (eI (hof w.1 (rv_ (eG fl_X12 130 (hof w.1 (B 343))))) (fr + i).toNatClampNeg).toInt = (41 : Int32).toInt := he
        rw [eC, e41] at he
        refine bad ?_
        unfold stA
        dsimp only
        rw [if_neg (by omega), if_neg (fun z => he z.1)]
      · have he : ¬ ¬ (eI (hof w.1 (rv_ (eG fl_X12 130 (hof w.1 (B 343))))) (fr + i).toNatClampNeg).toInt = (41 : Int32).toInt := he
        rw [eC, e41] at he
        have hg : 0 < o.toInt := hg
        exact go (Or.inr ⟨Classical.not_not.mp he, hg⟩) _ ⟨rfl, rfl, rfl, rfl, rfl, rfl, trivial⟩
      · have ha : ¬ (eI (hof w.1 (rv_ (eG fl_X12 130 (hof w.1 (B 343))))) (fr + i).toNatClampNeg).toInt = (62 : Int32).toInt := ha
        rw [eC, e62] at ha
        have hb : ¬ (eI (hof w.1 (rv_ (eG fl_X12 130 (hof w.1 (B 343))))) (fr + i).toNatClampNeg).toInt = (124 : Int32).toInt := hb
        rw [eC, e124] at hb
        have hd : ¬ (eI (hof w.1 (rv_ (eG fl_X12 130 (hof w.1 (B 343))))) (fr + i).toNatClampNeg).toInt = (38 : Int32).toInt := hd
        rw [eC, e38] at hd
        have hg : ¬ 0 < o.toInt := hg
        have hg2 : ¬ 0 < o.toInt.toNat := by omega
        refine bad ?_
        unfold stA
        dsimp only
        rw [if_neg (by omega), if_neg (fun z => hg2 z.2)]
set_option maxHeartbeats 8000000 in
theorem pa_h86 : ∀ (lg : fL_) (vs : List Value) (w : lW), in_po (B, fr, n, cC, f) lg vs w → ∃ (L : fL_) (fu : Nat), f_sub L lg ∧ wh oW T_X12_parse Sp_pa (pa_Q (B, fr, n, cC, f) w0) K_X12_parse (pa_hd (B, fr, n, cC, f)) fu 86 L vs w := by
  rintro lg vs w ⟨i, o, c, hs, rfl, hI, hst, hcs⟩
  have hI : pa_I B cC f w := hI
  have o0 : 0 ≤ o.toInt := hst.2.2.1
  have oi : o.toInt ≤ i.toInt := hst.2.2.2.1
  have e40 : (40 : Int32).toInt = 40 := by decide
  have e45 : (45 : Int32).toInt = 45 := by decide
  have oN : o.toInt.toNat ≤ i.toInt.toNat + 1 := by omega
  have oN1 : o.toInt.toNat + 1 ≤ i.toInt.toNat + 1 := by omega
  refine ⟨_, 60, hs, ?_⟩
  intro rv w1 hx
  have hx : fLr r_X12_operand [.ref (B 343), .int c] w rv w1 := hx
  have hi1 : pa_I B cC f w1 := pa_keep hx hI (by decide) (by decide)
  obtain rfl : rv = none := hx.2.2.2.2.2
  refine ⟨fun hA => ⟨fun hB => ?_, fun hB => ⟨fun hC => ?_, fun hC => ?_⟩⟩, fun hA => ⟨fun hB => ?_, fun hB => ⟨fun hC => ?_, fun hC => ?_⟩⟩⟩
  · have hA : ¬ c.toInt = (40 : Int32).toInt := hA
    rw [e40] at hA
    have hB : c.toInt = (45 : Int32).toInt := hB
    rw [e45] at hB
    exact pa_nxt (i := i) (o := o) (o' := o + 0) (b' := true) ⟨rfl, rfl, rfl, rfl, rfl, rfl, trivial⟩ hi1 hst (z_add o0) oN (stA_m hA hB)
  · have hA : ¬ c.toInt = (40 : Int32).toInt := hA
    rw [e40] at hA
    have hB : ¬ c.toInt = (45 : Int32).toInt := hB
    rw [e45] at hB
    have hok : okc c := (hcs.resolve_left hB).resolve_left hA
    exact pa_nxt (i := i) (o := o) (o' := o + 0) (b' := false) ⟨rfl, rfl, rfl, rfl, rfl, rfl, trivial⟩ hi1 hst (z_add o0) oN (stA_o hok)
  · have hA : ¬ c.toInt = (40 : Int32).toInt := hA
    have hC : ¬ ¬ c.toInt = (40 : Int32).toInt := hC
    exact absurd hA hC
  · have hA : ¬ ¬ c.toInt = (40 : Int32).toInt := hA
    rw [e40] at hA
    have hB : c.toInt = (45 : Int32).toInt := hB
    rw [e45] at hB
    exact absurd (fun z : c.toInt = 40 => absurd (z.symm.trans hB) (by decide)) hA
  · have hA : ¬ ¬ c.toInt = (40 : Int32).toInt := hA
    have hC : ¬ c.toInt = (40 : Int32).toInt := hC
    exact absurd hC hA
  · have hA : ¬ ¬ c.toInt = (40 : Int32).toInt := hA
    rw [e40] at hA
    have o1000 : o.toInt < 2147483647 := by
      have h1 : i.toInt < n.toInt := hst.2.1
      have h2 := Int32.toInt_lt n
      omega
    have ho : (o + 1).toInt = ((o.toInt.toNat + 1 : Nat) : Int) := by
      rw [i_inc o0 o1000]
      omega
    exact pa_nxt (i := i) (o := o) (o' := o + 1) (b' := true) ⟨rfl, rfl, rfl, rfl, rfl, rfl, trivial⟩ hi1 hst ho oN1 (stA_b (Classical.not_not.mp hA))
set_option maxHeartbeats 8000000 in
theorem pa_h166 : ∀ (lg : fL_) (vs : List Value) (w : lW), in_pq (B, fr, n, cC, f) lg vs w → ∃ (L : fL_) (fu : Nat), f_sub L lg ∧ wh oW T_X12_parse Sp_pa (pa_Q (B, fr, n, cC, f) w0) K_X12_parse (pa_hd (B, fr, n, cC, f)) fu 166 L vs w := by
  rintro lg vs w ⟨i, o, c, hs, rfl, hI, hst, hcs⟩
  have hI : pa_I B cC f w := hI
  have o0 : 0 ≤ o.toInt := hst.2.2.1
  have oi : o.toInt ≤ i.toInt := hst.2.2.2.1
  have e41 : (41 : Int32).toInt = 41 := by decide
  have oN : o.toInt.toNat ≤ i.toInt.toNat + 1 := by omega
  have oN2 : o.toInt.toNat - 1 ≤ i.toInt.toNat + 1 := by omega
  refine ⟨_, 60, hs, ?_⟩
  intro rv w1 hx
  have hx : fLr r_X12_operator [.ref (B 343), .int c] w rv w1 := hx
  have hi1 : pa_I B cC f w1 := pa_keep hx hI (by decide) (by decide)
  obtain rfl : rv = none := hx.2.2.2.2.2
  refine ⟨fun hA => ⟨fun hB => ?_, fun hB => ?_⟩, fun hA => ⟨fun hB => ?_, fun hB => ?_⟩⟩
  · have hA : ¬ c.toInt = (41 : Int32).toInt := hA
    have hB : c.toInt = (41 : Int32).toInt := hB
    exact absurd hB hA
  · have hA : ¬ c.toInt = (41 : Int32).toInt := hA
    rw [e41] at hA
    have h3 : c.toInt = 38 ∨ c.toInt = 124 ∨ c.toInt = 62 := hcs.resolve_right (fun z => hA z.1)
    exact pa_nxt (i := i) (o := o) (o' := o - 0) (b' := true) ⟨rfl, rfl, rfl, rfl, rfl, rfl, trivial⟩ hi1 hst (z_sub o0) oN (stA_s h3)
  · have hA : ¬ ¬ c.toInt = (41 : Int32).toInt := hA
    rw [e41] at hA
    have hc : c.toInt = 41 := Classical.not_not.mp hA
    have hg : 0 < o.toInt := (hcs.resolve_left (fun z => by omega)).2
    have hg2 : 0 < o.toInt.toNat := by omega
    exact pa_nxt (i := i) (o := o) (o' := o - 1) (b' := false) ⟨rfl, rfl, rfl, rfl, rfl, rfl, trivial⟩ hi1 hst (z_dec hg) oN2 (stA_c hc hg2)
  · have hA : ¬ ¬ c.toInt = (41 : Int32).toInt := hA
    have hB : ¬ c.toInt = (41 : Int32).toInt := hB
    exact absurd hB hA
theorem pa_h218 : ∀ (lg : fL_) (vs : List Value) (w : lW), in_pb (B, fr, n, cC, f) lg vs w → ∃ (L : fL_) (fu : Nat), f_sub L lg ∧ wh oW T_X12_parse Sp_pa (pa_Q (B, fr, n, cC, f) w0) K_X12_parse (pa_hd (B, fr, n, cC, f)) fu 218 L vs w := by
  rintro lg vs w ⟨hs, rfl, hI, ht⟩
  have hI : pa_I B cC f w := hI
  refine ⟨_, 30, hs, fun hc => ?_, fun hc => ?_⟩
  · refine ⟨hI, -1, rfl, ?_⟩
    rw [ht]
    decide
  · intro rv w1 hx
    have hx : fLr r_X12_reduce _ w rv w1 := hx
    have er : rv = none := hx.2.2.2.2.2
    subst er
    exact ⟨⟨rfl, trivial⟩, rfl, pa_keep hx hI (by decide) (by decide), ht⟩
end
theorem s_X12_parse : ∀ (a : paA) (w w' : lW) (rv : Option Value), fLr r_X12_parse (pa_F a) w rv w' → pa_P a w → pa_Q a w rv w' := by
  refine do_ofW pa_F pa_P pa_Q Sp_pa (fun a _ => pa_hd a) 120 fo_X12 Sp_pa_ok k_X12_parse (fun a w0 hp => ?_) (fun a w0 hp hd0 => ?_)
  · obtain ⟨B, fr, n, cC, f⟩ := a
    obtain ⟨-, fr0, n0, f240⟩ := hp
    exact List.forall_mem_cons.mpr ⟨pa_h18 fr0 f240, List.forall_mem_cons.mpr ⟨pa_h86, List.forall_mem_cons.mpr ⟨pa_h166, List.forall_mem_cons.mpr ⟨pa_h218, fun _ h => absurd h List.not_mem_nil⟩⟩⟩⟩
  · obtain ⟨B, fr, n, cC, f⟩ := a
    obtain ⟨hI, fr0, n0, -⟩ := hp
    have hI : pa_I B cC f w0 := hI
    have n0 : 0 ≤ n.toInt := n0
    have z0 : (0 : Int32).toInt = 0 := by decide
    obtain ⟨fs, hp0⟩ := hI.2.2.1
    intro q e0 hq
    have s1 : sG pl_X12 162 (.int 0) (hof w0.1 (B 343)) = .inr (12, fs.set 5 (.int 0)) := by
      rw [hp0]
      rfl
    have I1 : pa_I B cC f (w0.1.set q (B 343, sG pl_X12 162 (.int 0) (hof w0.1 (B 343))), w0.2) := by
      rw [s1]
      exact pa_put hI hp0 (fun r h => by have h : some ((1, 0, 0) : mk_V) = some (2, 0, r) := h; cases h) hq
    obtain ⟨fs1, hp1⟩ := I1.2.2.1
    intro q2 e2 hq2
    have s2 : sG pl_X12 167 (.int 0) (hof (w0.1.set q (B 343, sG pl_X12 162 (.int 0) (hof w0.1 (B 343)))) (B 343)) = .inr (12, fs1.set 7 (.int 0)) := by
      have hp1 : hof (w0.1.set q (B 343, sG pl_X12 162 (.int 0) (hof w0.1 (B 343)))) (B 343) = some (.inr (12, fs1)) := hp1
      rw [hp1]
      rfl
    have I2 : pa_I B cC f ((w0.1.set q (B 343, sG pl_X12 162 (.int 0) (hof w0.1 (B 343)))).set q2 (B 343, sG pl_X12 167 (.int 0) (hof (w0.1.set q (B 343, sG pl_X12 162 (.int 0) (hof w0.1 (B 343)))) (B 343))), w0.2) := by
      rw [s2]
      exact pa_put I1 hp1 (fun r h => by have h : some ((1, 0, 0) : mk_V) = some (2, 0, r) := h; cases h) hq2
    exact ⟨0, true, 0, ⟨rfl, rfl, rfl, rfl, rfl, rfl, trivial⟩, rfl, I2, by decide, (show (0 : Int32).toInt ≤ n.toInt by rw [z0]; exact n0), by decide, by decide, rfl⟩
end
section
/-! whole worlds by their atoms: what lasts, the fields of objects, arrays of numbers -/
theorem s_X11_newSentence : f_do r_X11_newSentence (fun As h rv h' => ∀ a : Nat × List Value × Int32, As = [.ref a.1] → (h a.1 = some (.inr (11, a.2.1)) ∧ a.2.1.getD 1 .null = .int a.2.2) → h' = hset h a.1 (.inr (11, a.2.1.set 1 (.int (a.2.2 + 1)))) ∧ rv = some (.int a.2.2)) := by
  refine do_ofP (fun a : Nat × List Value × Int32 => [.ref a.1]) (fun a h => h a.1 = some (.inr (11, a.2.1)) ∧ a.2.1.getD 1 .null = .int a.2.2) (fun a h rv h' => h' = hset h a.1 (.inr (11, a.2.1.set 1 (.int (a.2.2 + 1)))) ∧ rv = some (.int a.2.2)) [] (fun _ _ => []) 40 fo_X11 no_sp k_X11_newSentence (fun _ _ _ => no_hd) (fun a h0 hp => ?_)
  obtain ⟨p, fs, c⟩ := a
  obtain ⟨hp, hc⟩ := hp
  have hp : h0 p = some (.inr (11, fs)) := hp
  have hc : fs.getD 1 .null = .int c := hc
  have g : eG fl_X11 108 (h0 p) = .int c := by
    rw [hp, ← hc]
    rfl
  show hset h0 p (sG pl_X11 108 (.int (iv (eG fl_X11 108 (h0 p)) + 1)) (h0 p)) = hset h0 p (.inr (11, fs.set 1 (.int (c + 1)))) ∧ some (eG fl_X11 108 (h0 p)) = some (.int c)
  rw [g, hp]
  exact ⟨rfl, rfl⟩
theorem bl_1 : lp_L2[1]? = some (3, 3, 60, [(2, 0, 2), (2, 0, 4), (2, 0, 6), (2, 0, 8), (2, 0, 10), (2, 0, 12), (2, 0, 14), (2, 0, 16), (2, 0, 18), (2, 0, 20), (2, 0, 22), (2, 0, 24), (2, 0, 26), (2, 0, 28), (2, 0, 30), (2, 0, 32), (2, 0, 34), (2, 0, 36), (2, 0, 38), (2, 0, 40), (2, 0, 42), (2, 0, 44), (2, 0, 46), (2, 0, 48), (2, 0, 50), (2, 0, 52), (2, 0, 54), (2, 0, 56), (2, 0, 58), (2, 0, 60), (2, 0, 62), (2, 0, 64), (2, 0, 66), (2, 0, 68), (2, 0, 70), (2, 0, 72), (2, 0, 74), (2, 0, 76), (2, 0, 78), (2, 0, 80), (2, 0, 82), (2, 0, 84), (2, 0, 86), (2, 0, 88), (2, 0, 90), (2, 0, 92), (2, 0, 94), (2, 0, 96), (2, 0, 98), (2, 0, 100), (2, 0, 102), (2, 0, 104), (2, 0, 106), (2, 0, 108), (2, 0, 110), (2, 0, 112), (2, 0, 114), (2, 0, 116), (2, 0, 118), (2, 0, 120)]) := lp_at_ok (by decide +kernel)
theorem bt_1 : lp_sh[1]? = some 18 := by decide +kernel
theorem bl_344 : lp_L2[344]? = some (2, 1, 240, []) := lp_at_ok (by decide +kernel)
theorem bt_344 : lp_sh[344]? = some 45 := by decide +kernel
def bI (B : Nat → Nat) (w : lW) : Prop := f_dj w.1 ∧ Bs B w.1 w.2
def oF (B : Nat → Nat) (q ci k : Nat) (v : Value) (w : lW) : Prop := ∃ fs : List Value, hof w.1 (B q) = some (.inr (ci, fs)) ∧ k < fs.length ∧ fs.getD k .null = v
def aI (B : Nat → Nat) (q n : Nat) (f : Nat → Int32) (w : lW) : Prop := ∃ cA : ClassId, hof w.1 (B q) = some (.inl (cA, n, .inl f))
def aJ (B : Nat → Nat) (q n : Nat) (f : Nat → Int64) (w : lW) : Prop := ∃ cA : ClassId, hof w.1 (B q) = some (.inl (cA, n, .inr (.inl f)))
section
variable {B : Nat → Nat} {rt : Nat} {Wr : List (Nat × Nat)} {T : fT} {cc : ByteArray} {As : List Value} {w w' : lW} {rv : Option Value}
theorem bI.keep (hI : bI B w) (h : fLr (fq cw_TT cw_SG rt Wr T cc) As w rv w') (hk : bs_K.all (fun x => !(Wr.contains x)) = true) : bI B w' :=
  ⟨h.2.2.1, hI.2.ex h.2.2.2.1 hk⟩
theorem oF.keep {q ci k t : Nat} {v : Value} {c : mk_C} (ho : oF B q ci k v w) (hI : bI B w) (h : fLr (fq cw_TT cw_SG rt Wr T cc) As w rv w') (hc : lp_L2[q]? = some c) (ht : lp_sh[q]? = some t) (hw : (t, k) ∉ Wr) : oF B q ci k v w' := by
  obtain ⟨fs, hp, hl, hv⟩ := ho
  obtain ⟨e, h1, h2, -⟩ := hI.2.h hI.1 hc
  rw [hp] at h2
  have h2 : .inr (ci, fs) = e := Option.some.inj h2
  subst h2
  have hx : ck_ex Wr w.1 w.2 w'.1 w'.2 := h.2.2.2.1
  obtain ⟨e', x1, x2⟩ := hx.2 q _ _ t h1 (hI.2.1 q t ht)
  cases e' with
  | inl _ => exact x2.elim
  | inr o' =>
    obtain ⟨y1, y2⟩ := x2
    have y1 : o'.1 = ci := y1
    have y : o'.2[k]? = fs[k]? := y2 k hw
    have hd' : f_dj w'.1 := h.2.2.1
    refine ⟨o'.2, ?_, ?_, ?_⟩
    · rw [hof_at hd' x1, ← y1]
    · rw [List.getElem?_eq_getElem hl] at y
      exact (List.getElem?_eq_some_iff.mp y).1
    · rw [List.getD_eq_getElem?_getD, y, ← List.getD_eq_getElem?_getD]
      exact hv
theorem aI.keep {q n t : Nat} {f : Nat → Int32} {c : mk_C} (ha : aI B q n f w) (hI : bI B w) (h : fLr (fq cw_TT cw_SG rt Wr T cc) As w rv w') (hc : lp_L2[q]? = some c) (ht : lp_sh[q]? = some t) (h0 : c.1 ≠ 0) (hw : (t, 0) ∉ Wr) : aI B q n f w' := by
  obtain ⟨cA, ha⟩ := ha
  exact ⟨cA, by rw [hI.2.same hI.1 h.2.2.1 h.2.2.2.1 hc ht h0 hw]; exact ha⟩
theorem aJ.keep {q n t : Nat} {f : Nat → Int64} {c : mk_C} (ha : aJ B q n f w) (hI : bI B w) (h : fLr (fq cw_TT cw_SG rt Wr T cc) As w rv w') (hc : lp_L2[q]? = some c) (ht : lp_sh[q]? = some t) (h0 : c.1 ≠ 0) (hw : (t, 0) ∉ Wr) : aJ B q n f w' := by
  obtain ⟨cA, ha⟩ := ha
  exact ⟨cA, by rw [hI.2.same hI.1 h.2.2.1 h.2.2.2.1 hc ht h0 hw]; exact ha⟩
/-- a place written -/
theorem bI.set (hI : bI B w) {p q : Nat} {c : mk_C} {e0 e : va_E} (hc : lp_L2[p]? = some c) (hq : w.1[q]? = some (B p, e0)) (he : cR B c e) : bI B (w.1.set q (B p, e), w.2) ∧ hof (w.1.set q (B p, e)) = hset (hof w.1) (B p) e := by
  obtain ⟨e1, h1, -⟩ := hI.2.2 p c hc
  have eq : q = p := hI.1 q p _ _ hq h1 rfl
  subst eq
  exact ⟨⟨hI.1.set hq, hI.2.set hq (fun c' hc' => by rw [hc] at hc'; exact (Option.some.inj hc') ▸ he)⟩, hof_set hI.1 hq⟩
theorem oF.upd {q ci k p : Nat} {v : Value} {c d : mk_C} {ws' : va_W} {sh' : List Nat} {e : va_E} (ho : oF B q ci k v w) (hI : bI B w) (hc : lp_L2[q]? = some c) (hd : lp_L2[p]? = some d) (hn : q ≠ p) (hh : hof ws' = hset (hof w.1) (B p) e) : oF B q ci k v (ws', sh') := by
  obtain ⟨fs, hp, hl, hv⟩ := ho
  refine ⟨fs, ?_, hl, hv⟩
  show hof ws' (B q) = _
  rw [hh, hset_ne (hI.2.ne hI.1 hc hd hn)]
  exact hp
theorem aI.upd {q n p : Nat} {f : Nat → Int32} {c d : mk_C} {ws' : va_W} {sh' : List Nat} {e : va_E} (ho : aI B q n f w) (hI : bI B w) (hc : lp_L2[q]? = some c) (hd : lp_L2[p]? = some d) (hn : q ≠ p) (hh : hof ws' = hset (hof w.1) (B p) e) : aI B q n f (ws', sh') := by
  obtain ⟨cA, ha⟩ := ho
  refine ⟨cA, ?_⟩
  show hof ws' (B q) = _
  rw [hh, hset_ne (hI.2.ne hI.1 hc hd hn)]
  exact ha
theorem aJ.upd {q n p : Nat} {f : Nat → Int64} {c d : mk_C} {ws' : va_W} {sh' : List Nat} {e : va_E} (ho : aJ B q n f w) (hI : bI B w) (hc : lp_L2[q]? = some c) (hd : lp_L2[p]? = some d) (hn : q ≠ p) (hh : hof ws' = hset (hof w.1) (B p) e) : aJ B q n f (ws', sh') := by
  obtain ⟨cA, ha⟩ := ho
  refine ⟨cA, ?_⟩
  show hof ws' (B q) = _
  rw [hh, hset_ne (hI.2.ne hI.1 hc hd hn)]
  exact ha
/-- a field of an object that is there for good -/
theorem oF.get {q ci k i : Nat} {v : Value} {fl : List (Nat × Nat × Nat)} (ho : oF B q ci k v w) (hk : kfd fl i ci = k) : eG fl i (hof w.1 (B q)) = v := by
  obtain ⟨fs, hp, -, hv⟩ := ho
  rw [hp]
  show fs.getD (kfd fl i ci) .null = v
  rw [hk, hv]
theorem oF.ref {q ci k k' r : Nat} {v : Value} {c : mk_C} (ho : oF B q ci k v w) (hI : bI B w) (hc : lp_L2[q]? = some c) (hr : c.2.2.2[k']? = some (2, 0, r)) : oF B q ci k' (.ref (B r)) w := by
  obtain ⟨fs, hp, -, -⟩ := ho
  obtain ⟨e, -, h2, h3⟩ := hI.2.h hI.1 hc
  rw [hp] at h2
  have h2 : .inr (ci, fs) = e := Option.some.inj h2
  subst h2
  have h4 : fs[k']? = some (.ref (B r)) := h3.2 k' r hr
  exact ⟨fs, hp, (List.getElem?_eq_some_iff.mp h4).1, by rw [List.getD_eq_getElem?_getD, h4]; rfl⟩
/-- a number written into an object -/
theorem oF.put (hI : bI B w) {p q ci k : Nat} {c : mk_C} {v v' : Value} {e0 : va_E} {i : Nat} {pl : List (Nat × Nat × Nat × Nat)} (ho : oF B p ci k v w) (hc : lp_L2[p]? = some c) (hq : w.1[q]? = some (B p, e0)) (hk : kpd pl i ci = k) (hr : ∀ r, c.2.2.2[k]? ≠ some (2, 0, r)) : bI B (w.1.set q (B p, sG pl i v' (hof w.1 (B p))), w.2) ∧ hof (w.1.set q (B p, sG pl i v' (hof w.1 (B p)))) = hset (hof w.1) (B p) (sG pl i v' (hof w.1 (B p))) ∧ oF B p ci k v' (w.1.set q (B p, sG pl i v' (hof w.1 (B p))), w.2) ∧ ∀ (k2 : Nat) (v2 : Value), k2 ≠ k → oF B p ci k2 v2 w → oF B p ci k2 v2 (w.1.set q (B p, sG pl i v' (hof w.1 (B p))), w.2) := by
  obtain ⟨fs, hp, hl, -⟩ := ho
  obtain ⟨e, -, h2, h3⟩ := hI.2.h hI.1 hc
  rw [hp] at h2
  have h2 : .inr (ci, fs) = e := Option.some.inj h2
  subst h2
  have es : sG pl i v' (hof w.1 (B p)) = .inr (ci, fs.set k v') := by
    rw [hp]
    show Sum.inr (ci, fs.set (kpd pl i ci) v') = _
    rw [hk]
  rw [es]
  obtain ⟨a1, a2⟩ := hI.set hc hq (cR.fld h3 hr)
  have hat : hof (w.1.set q (B p, .inr (ci, fs.set k v'))) (B p) = some (.inr (ci, fs.set k v')) := by rw [a2, hset_at]
  refine ⟨a1, a2, ⟨fs.set k v', hat, by rw [List.length_set]; exact hl, ?_⟩, fun k2 v2 hn ⟨fs2, g1, g2, g3⟩ => ?_⟩
  · rw [List.getD_eq_getElem?_getD, List.getElem?_set_self hl]
    rfl
  · rw [hp] at g1
    have g1 : (ci, fs) = (ci, fs2) := Sum.inr.inj (Option.some.inj g1)
    have g1 : fs = fs2 := congrArg Prod.snd g1
    subst g1
    exact ⟨fs.set k v', hat, by rw [List.length_set]; exact g2, by rw [getD_set_ne (Ne.symm hn)]; exact g3⟩
end
/-- the sentences' places -/
def sN (B : Nat → Nat) (w : lW) : Prop := ∃ (cA : ClassId) (g : Nat → Option Nat), hof w.1 (B 1) = some (.inl (cA, 60, .inr (.inr (.inr (.inr g))))) ∧ ∀ i, i < 60 → g i = some (B (2 + 2 * i))
theorem sn_ix : ∀ i, i < 60 → ([(2, 0, 2), (2, 0, 4), (2, 0, 6), (2, 0, 8), (2, 0, 10), (2, 0, 12), (2, 0, 14), (2, 0, 16), (2, 0, 18), (2, 0, 20), (2, 0, 22), (2, 0, 24), (2, 0, 26), (2, 0, 28), (2, 0, 30), (2, 0, 32), (2, 0, 34), (2, 0, 36), (2, 0, 38), (2, 0, 40), (2, 0, 42), (2, 0, 44), (2, 0, 46), (2, 0, 48), (2, 0, 50), (2, 0, 52), (2, 0, 54), (2, 0, 56), (2, 0, 58), (2, 0, 60), (2, 0, 62), (2, 0, 64), (2, 0, 66), (2, 0, 68), (2, 0, 70), (2, 0, 72), (2, 0, 74), (2, 0, 76), (2, 0, 78), (2, 0, 80), (2, 0, 82), (2, 0, 84), (2, 0, 86), (2, 0, 88), (2, 0, 90), (2, 0, 92), (2, 0, 94), (2, 0, 96), (2, 0, 98), (2, 0, 100), (2, 0, 102), (2, 0, 104), (2, 0, 106), (2, 0, 108), (2, 0, 110), (2, 0, 112), (2, 0, 114), (2, 0, 116), (2, 0, 118), (2, 0, 120)] : List mk_V)[i]? = some (2, 0, 2 + 2 * i) := by decide +kernel
theorem sN.of {B : Nat → Nat} {w : lW} (hI : bI B w) {tys : List (ClassId × FieldType)} (hw : ck_wo tys cw_TT cw_SG w.1 w.2) : sN B w := by
  obtain ⟨e, h1, h2, h3⟩ := hI.2.h hI.1 bl_1
  obtain ⟨td, d1, d2⟩ := hw.2.1 1 _ e 18 h1 (hI.2.1 1 18 bt_1)
  have e1 : td = (3, 60, 3, [(2, 0, 0, [86])]) := Option.some.inj (d1.symm.trans (show cw_TT[18]? = some (3, 60, 3, [(2, 0, 0, [86])]) from rfl))
  subst e1
  obtain ⟨cA, C, f, -, rfl, -⟩ := d2
  exact ⟨cA, f, h2, fun i hi => h3.2 i _ (sn_ix i hi)⟩
theorem sN.keep {B : Nat → Nat} {rt : Nat} {Wr : List (Nat × Nat)} {T : fT} {cc : ByteArray} {As : List Value} {w w' : lW} {rv : Option Value} (hI : bI B w) (h : fLr (fq cw_TT cw_SG rt Wr T cc) As w rv w') (hk : bs_K.all (fun x => !(Wr.contains x)) = true) : sN B w' := by
  obtain ⟨tys, -, hw⟩ := h.2.2.2.2.1
  exact sN.of (hI.keep h hk) hw
theorem sN.upd {B : Nat → Nat} {w : lW} (hs : sN B w) (hI : bI B w) {p : Nat} {d : mk_C} {ws' : va_W} {sh' : List Nat} {e : va_E} (hd : lp_L2[p]? = some d) (hn : 1 ≠ p) (hh : hof ws' = hset (hof w.1) (B p) e) : sN B (ws', sh') := by
  obtain ⟨cA, g, h1, h2⟩ := hs
  refine ⟨cA, g, ?_, h2⟩
  show hof ws' (B 1) = _
  rw [hh, hset_ne (hI.2.ne hI.1 bl_1 hd hn)]
  exact h1
end
section
/-! read: the class's -/
theorem i_sub {a b : Int32} (h1 : -2147483648 ≤ a.toInt - b.toInt) (h2 : a.toInt - b.toInt ≤ 2147483647) : (a - b).toInt = a.toInt - b.toInt := by
  rw [Int32.toInt_sub]
  exact Int.bmod_eq_of_le (by omega) (by omega)
theorem acA_le {g : Nat → Int32} : ∀ {m i : Nat} {s : Bool × Nat}, acA g m i s ≤ (i : Int) + m
  | 0, i, s => by
    unfold acA
    split <;> omega
  | m + 1, i, s => by
    unfold acA
    split
    · refine Int.le_trans acA_le ?_
      omega
    · omega
/-- the answer of read, what becomes of the count and the fault -/
def rdQ (k lane i n c : Int32) (lost dif : Bool) (Z t : Int) (v c' ft : Int32) : Prop :=
  if 0 ≤ k.toInt ∧ k.toInt < 4 then
    if 0 ≤ lane.toInt ∧ lane.toInt < 3 then
      match lost, dif with
      | true, _ => v = -11 ∧ c' = c ∧ ft = 1
      | false, true => v = -12 ∧ c' = c ∧ ft = 2
      | false, false =>
        if n.toInt < 0 then v = -14 ∧ c' = c ∧ ft = 4
        else if 0 ≤ i.toInt ∧ i.toInt + n.toInt ≤ Z then
          if c.toInt = 60 then v = -4 ∧ c' = c ∧ ft = 0
          else if 0 ≤ t then v.toInt = -100 - t ∧ c' = c ∧ ft = 0
          else v = c ∧ c' = c + 1 ∧ ft = 0
        else v = -13 ∧ c' = c ∧ ft = 3
    else v = -2 ∧ c' = c ∧ ft = 0
  else v = -1 ∧ c' = c ∧ ft = 0
/-- the rows of the class's sheets -/
def rI (B : Nat → Nat) (w : lW) : Prop := ∃ (cA : ClassId) (g : Nat → Option Nat), hof w.1 (B 335) = some (.inl (cA, 4, .inr (.inr (.inr (.inr g))))) ∧ ∀ i, i < 4 → g i = some (B (336 + i))
theorem rI.of {B : Nat → Nat} {w : lW} (hI : bI B w) {tys : List (ClassId × FieldType)} (hw : ck_wo tys cw_TT cw_SG w.1 w.2) : rI B w := by
  obtain ⟨cC, g, h3, h4⟩ := hI.2.rv hI.1 hw bl_335 bt_335 (show cw_TT[21]? = some (5, 4, _, _) from rfl)
  refine ⟨cC, g, h3, fun i hi => ?_⟩
  rcases (show i = 0 ∨ i = 1 ∨ i = 2 ∨ i = 3 by omega) with rfl | rfl | rfl | rfl
  · exact h4 0 336 rfl
  · exact h4 1 337 rfl
  · exact h4 2 338 rfl
  · exact h4 3 339 rfl
theorem rI.upd {B : Nat → Nat} {w : lW} (hs : rI B w) (hI : bI B w) {p : Nat} {d : mk_C} {ws' : va_W} {sh' : List Nat} {e : va_E} (hd : lp_L2[p]? = some d) (hn : 335 ≠ p) (hh : hof ws' = hset (hof w.1) (B p) e) : rI B (ws', sh') := by
  obtain ⟨cA, g, h1, h2⟩ := hs
  refine ⟨cA, g, ?_, h2⟩
  show hof ws' (B 335) = _
  rw [hh, hset_ne (hI.2.ne hI.1 bl_335 hd hn)]
  exact h1
def dI (B : Nat → Nat) (c : Int32) (l z : Nat → Int32) (r : Nat → Nat → Int32) (w : lW) : Prop := bI B w ∧ sN B w ∧ rI B w ∧ oF B 0 11 1 (.int c) w ∧ aI B 340 4 l w ∧ aI B 341 4 z w ∧ ∀ i, i < 4 → aI B (336 + i) 60 (r i) w
theorem dI.keep {B : Nat → Nat} {c : Int32} {l z : Nat → Int32} {r : Nat → Nat → Int32} {rt : Nat} {Wr : List (Nat × Nat)} {T : fT} {cc : ByteArray} {As : List Value} {w w' : lW} {rv : Option Value} (hI : dI B c l z r w) (h : fLr (fq cw_TT cw_SG rt Wr T cc) As w rv w') (hk : bs_K.all (fun x => !(Wr.contains x)) = true) (hw : (11, 1) ∉ Wr ∧ (20, 0) ∉ Wr ∧ (22, 0) ∉ Wr ∧ (23, 0) ∉ Wr) : dI B c l z r w' := by
  obtain ⟨tys, -, hw2⟩ := h.2.2.2.2.1
  obtain ⟨hb, -, -, hc, hl, hz, hr⟩ := hI
  have hb' := hb.keep h hk
  exact ⟨hb', sN.of hb' hw2, rI.of hb' hw2, hc.keep hb h bl_0 bt_0 hw.1, hl.keep hb h bl_340 bt_340 (by decide) hw.2.2.1, hz.keep hb h bl_341 bt_341 (by decide) hw.2.2.2, fun i hi => (hr i hi).keep hb h (bl_R hi) (bt_R hi) (by decide) hw.2.1⟩
theorem ln_0 {B : Nat → Nat} {w : lW} (hI : bI B w) {tys : List (ClassId × FieldType)} (hw : ck_wo tys cw_TT cw_SG w.1 w.2) : ∃ fs, hof w.1 (B 0) = some (.inr (11, fs)) ∧ fs.length = 15 := by
  obtain ⟨fs', h0, hlen, -⟩ := hI.2.ov hI.1 hw bl_0 bt_0 (show cw_TT[11]? = some (0, 11, _, _) from rfl)
  exact ⟨fs', h0, hlen⟩
theorem ln_343 {B : Nat → Nat} {w : lW} (hI : bI B w) {tys : List (ClassId × FieldType)} (hw : ck_wo tys cw_TT cw_SG w.1 w.2) : ∃ fs, hof w.1 (B 343) = some (.inr (12, fs)) ∧ fs.length = 68 := by
  obtain ⟨fs', h0, hlen, -⟩ := hI.2.ov hI.1 hw bl_343 bt_343 (show cw_TT[17]? = some (0, 12, _, _) from rfl)
  exact ⟨fs', h0, hlen⟩
/-- a number written into the desk that is not the count -/
theorem dI.put {B : Nat → Nat} {c : Int32} {l z : Nat → Int32} {r : Nat → Nat → Int32} {w : lW} (hI : dI B c l z r w) {u : Value} (hu : oF B 0 11 14 u w) {q : Nat} {e0 : va_E} (hq : w.1[q]? = some (B 0, e0)) {x : Int32} : dI B c l z r (w.1.set q (B 0, sG pl_X11 93 (.int x) (hof w.1 (B 0))), w.2) ∧ oF B 0 11 14 (.int x) (w.1.set q (B 0, sG pl_X11 93 (.int x) (hof w.1 (B 0))), w.2) := by
  obtain ⟨hb, hs, hrr, hc, hl, hz, hr⟩ := hI
  obtain ⟨b1, b2, b3, b4⟩ := oF.put (v' := .int x) (i := 93) (pl := pl_X11) hb hu bl_0 hq rfl (fun r h => by have h : some ((1, 0, 0) : mk_V) = some (2, 0, r) := h; cases h)
  exact ⟨⟨b1, hs.upd hb bl_0 (by decide) b2, hrr.upd hb bl_0 (by decide) b2, b4 1 _ (by decide) hc, hl.upd hb bl_340 bl_0 (by decide) b2, hz.upd hb bl_341 bl_0 (by decide) b2, fun i hi => (hr i hi).upd hb (bl_R hi) bl_0 (by omega) b2⟩, b3⟩
theorem cl_flt {B : Nat → Nat} {c x : Int32} {w w' : lW} {rv : Option Value} (hb : bI B w) (hc : oF B 0 11 1 (.int c) w) (hx : fLr r_X11_faulted [.ref (B 0), .int x] w rv w') : rv = some (.int (Int32.ofInt (-10) - x)) ∧ oF B 0 11 1 (.int c) w' ∧ oF B 0 11 14 (.int x) w' := by
  obtain ⟨tys, hw, -⟩ := hx.2.2.2.2.1
  obtain ⟨fs, hp, hlen⟩ := ln_0 hb hw
  obtain ⟨e, er⟩ := (s_X11_faulted _ _ _ _ _ _ hx).2 (B 0, x, fs) rfl hp
  have e : hof w'.1 = hset (hof w.1) (B 0) (.inr (11, fs.set 14 (.int x))) := e
  refine ⟨er, hc.keep hb hx bl_0 bt_0 (by decide), ⟨fs.set 14 (.int x), by rw [e, hset_at], by rw [List.length_set]; omega, ?_⟩⟩
  rw [List.getD_eq_getElem?_getD, List.getElem?_set_self (by omega)]
  rfl
theorem cl_new {B : Nat → Nat} {c : Int32} {w w' : lW} {rv : Option Value} (hb : bI B w) (hc : oF B 0 11 1 (.int c) w) (hx : fLr r_X11_newSentence [.ref (B 0)] w rv w') : rv = some (.int c) ∧ oF B 0 11 1 (.int (c + 1)) w' := by
  obtain ⟨fs, hp, hlen, hv⟩ := hc
  obtain ⟨e, er⟩ := (s_X11_newSentence _ _ _ _ _ _ hx).2 (B 0, fs, c) rfl ⟨hp, hv⟩
  have e : hof w'.1 = hset (hof w.1) (B 0) (.inr (11, fs.set 1 (.int (c + 1)))) := e
  refine ⟨er, ⟨fs.set 1 (.int (c + 1)), by rw [e, hset_at], by rw [List.length_set]; omega, ?_⟩⟩
  rw [List.getD_eq_getElem?_getD, List.getElem?_set_self hlen]
  rfl
abbrev rdA : Type := (Nat → Nat) × Int32 × (Nat → Int32) × (Nat → Int32) × (Nat → Nat → Int32) × Int32 × Int32 × Int32 × Int32
def rd_F : rdA → List Value := fun (B, _, _, _, _, k, lane, i, n) => [.ref (B 0), .int k, .int lane, .int i, .int n]
def rd_P : rdA → lW → Prop := fun (B, c, l, z, r, _, _, _, _) w => dI B c l z r w ∧ (∃ u, oF B 0 11 14 u w) ∧ (0 ≤ c.toInt ∧ c.toInt ≤ 60) ∧ ∀ k, k < 4 → (l k).toInt = -1 ∨ (0 ≤ (z k).toInt ∧ (z k).toInt ≤ 60)
def rd_t (r : Nat → Nat → Int32) (k i n : Int32) : Int := acA (fun x => r k.toInt.toNat (i.toInt.toNat + x)) n.toInt.toNat 0 (true, 0)
def rdO (B : Nat → Nat) (c : Int32) (l z : Nat → Int32) (r : Nat → Nat → Int32) (k lane i n : Int32) (rv : Option Value) (w' : lW) : Prop := ∃ v c' ft : Int32, rv = some (.int v) ∧ oF B 0 11 1 (.int c') w' ∧ oF B 0 11 14 (.int ft) w' ∧ rdQ k lane i n c (decide ((l k.toInt.toNat).toInt = -1)) (decide (¬ (l k.toInt.toNat).toInt = lane.toInt)) (z k.toInt.toNat).toInt (rd_t r k i n) v c' ft
def rd_Q : rdA → lW → Option Value → lW → Prop := fun (B, c, l, z, r, k, lane, i, n) _ rv w' => rdO B c l z r k lane i n rv w'
def in_r5 (B : Nat → Nat) (c : Int32) (l z : Nat → Int32) (r : Nat → Nat → Int32) (k lane i n : Int32) : fL_ → List Value → lW → Prop := fun lg vs w => f_sub [(0, false, .ref (B 0)), (1, false, .int k), (2, false, .int lane), (3, false, .int i), (4, false, .int n)] lg ∧ vs = [] ∧ dI B c l z r w ∧ oF B 0 11 14 (.int 0) w
def in_r66 (B : Nat → Nat) (c : Int32) (l z : Nat → Int32) (r : Nat → Nat → Int32) (k lane i n : Int32) : fL_ → List Value → lW → Prop := fun lg vs w => in_r5 B c l z r k lane i n lg vs w ∧ (0 ≤ k.toInt ∧ k.toInt < 4) ∧ (0 ≤ lane.toInt ∧ lane.toInt < 3) ∧ ¬ (l k.toInt.toNat).toInt = -1 ∧ (l k.toInt.toNat).toInt = lane.toInt
def in_r100 (B : Nat → Nat) (c : Int32) (l z : Nat → Int32) (r : Nat → Nat → Int32) (k lane i n : Int32) : fL_ → List Value → lW → Prop := fun lg vs w => in_r66 B c l z r k lane i n lg vs w ∧ 0 ≤ n.toInt ∧ 0 ≤ i.toInt ∧ i.toInt + n.toInt ≤ (z k.toInt.toNat).toInt
def rd_hd : rdA → lW → fI lW := fun (B, c, l, z, r, k, lane, i, n) _ => [(5, in_r5 B c l z r k lane i n), (66, in_r66 B c l z r k lane i n), (100, in_r100 B c l z r k lane i n)]
def Sp_rd : fP lW := [(292, 1, fLr r_X11_isSheet), (304, 1, fLr r_X11_isLane), (312, 2, fLr r_X11_faulted), (333, 4, fLr r_X7_firstFault), (345, 4, fLr r_X7_valueOf), (357, 2, fLr r_X1_become), (369, 1, fLr r_X11_newSentence)]
theorem Sp_rd_ok : f_sp T_X11_read Sp_rd wW := List.forall_mem_cons.mpr ⟨sp_w rfl (fun _ _ _ _ _ _ h => h.2.2.1), List.forall_mem_cons.mpr ⟨sp_w rfl (fun _ _ _ _ _ _ h => h.2.2.1), List.forall_mem_cons.mpr ⟨sp_w rfl (fun _ _ _ _ _ _ h => h.2.2.1), List.forall_mem_cons.mpr ⟨sp_w rfl (fun _ _ _ _ _ _ h => h.2.2.1), List.forall_mem_cons.mpr ⟨sp_w rfl (fun _ _ _ _ _ _ h => h.2.2.1), List.forall_mem_cons.mpr ⟨sp_w rfl (fun _ _ _ _ _ _ h => h.2.2.1), List.forall_mem_cons.mpr ⟨sp_w rfl (fun _ _ _ _ _ _ h => h.2.2.1), fun _ h => absurd h List.not_mem_nil⟩⟩⟩⟩⟩⟩⟩
section
variable {B : Nat → Nat} {c : Int32} {l z : Nat → Int32} {r : Nat → Nat → Int32} {k lane i n : Int32} {w0 : lW}
/-- which sheets are there -/
theorem g_lan {w : lW} (hI : dI B c l z r w) (k : Int32) : eI (hof w.1 (rv_ (eG fl_X11 77 (hof w.1 (B 0))))) k.toNatClampNeg = l k.toInt.toNat := by
  rw [(hI.2.2.2.1.ref hI.1 bl_0 (show _ = some (2, 0, 340) from rfl)).get (show kfd fl_X11 77 11 = 11 from rfl)]
  obtain ⟨cA, h⟩ := hI.2.2.2.2.1
  show eI (hof w.1 (B 340)) _ = _
  rw [h]
  rfl
theorem g_siz {w : lW} (hI : dI B c l z r w) (k : Int32) : eI (hof w.1 (rv_ (eG fl_X11 87 (hof w.1 (B 0))))) k.toNatClampNeg = z k.toInt.toNat := by
  rw [(hI.2.2.2.1.ref hI.1 bl_0 (show _ = some (2, 0, 341) from rfl)).get (show kfd fl_X11 87 11 = 12 from rfl)]
  obtain ⟨cA, h⟩ := hI.2.2.2.2.2.1
  show eI (hof w.1 (B 341)) _ = _
  rw [h]
  rfl
theorem g_row {w : lW} (hI : dI B c l z r w) {k : Int32} (hk : 0 ≤ k.toInt ∧ k.toInt < 4) : eR (hof w.1 (rv_ (eG fl_X11 74 (hof w.1 (B 0))))) k.toNatClampNeg = .ref (B (336 + k.toInt.toNat)) := by
  rw [(hI.2.2.2.1.ref hI.1 bl_0 (show _ = some (2, 0, 335) from rfl)).get (show kfd fl_X11 74 11 = 10 from rfl)]
  obtain ⟨cA, g, h, hg⟩ := hI.2.2.1
  show eR (hof w.1 (B 335)) _ = _
  rw [h]
  show va_rf (g k.toInt.toNat) = _
  rw [hg _ (by omega)]
  rfl
theorem g_cnt {w : lW} (hc : oF B 0 11 1 (.int c) w) : eG fl_X11 108 (hof w.1 (B 0)) = .int c := hc.get rfl
theorem g_len {w : lW} (hb : bI B w) (hc : oF B 0 11 1 (.int c) w) (hs : sN B w) : eL (hof w.1 (rv_ (eG fl_X11 15 (hof w.1 (B 0))))) = 60 := by
  rw [(hc.ref hb bl_0 (show _ = some (2, 0, 1) from rfl)).get (show kfd fl_X11 15 11 = 0 from rfl)]
  obtain ⟨cA, g, h, -⟩ := hs
  show eL (hof w.1 (B 1)) = _
  rw [h]
  rfl
set_option maxHeartbeats 4000000 in
theorem rd_h5 : ∀ (lg : fL_) (vs : List Value) (w : lW), in_r5 B c l z r k lane i n lg vs w → ∃ (L : fL_) (f : Nat), f_sub L lg ∧ wh oW T_X11_read Sp_rd (rd_Q (B, c, l, z, r, k, lane, i, n) w0) K_X11_read (rd_hd (B, c, l, z, r, k, lane, i, n) w0) f 5 L vs w := by
  rintro lg vs w ⟨hs, rfl, hI, hF⟩
  refine ⟨_, 60, hs, ?_⟩
  intro rv w1 hx
  have hx : fLr r_X11_isSheet [.int k] w rv w1 := hx
  have hI1 := hI.keep hx (by decide) (by decide)
  have hF1 := hF.keep hI.1 hx bl_0 bt_0 (by decide)
  obtain ⟨-, rfl⟩ := (s_X11_isSheet _ _ _ _ _ _ hx).2 k rfl trivial
  have out : ∀ {w : lW} {rv : Option Value} (v ft : Int32), rv = some (.int v) → oF B 0 11 1 (.int c) w → oF B 0 11 14 (.int ft) w → rdQ k lane i n c (decide ((l k.toInt.toNat).toInt = -1)) (decide (¬ (l k.toInt.toNat).toInt = lane.toInt)) (z k.toInt.toNat).toInt (rd_t r k i n) v c ft → rdO B c l z r k lane i n rv w := fun v ft a1 a2 a3 a4 => ⟨v, c, ft, a1, a2, a3, a4⟩
  refine ⟨fun hk => ?_, fun hk => ?_⟩
  rotate_left
  · have hk : ¬ ¬ (if 0 ≤ k.toInt ∧ k.toInt < 4 then (1 : Int32) else 0).toInt = 0 := hk
    have hk : ¬ (0 ≤ k.toInt ∧ k.toInt < 4) := fun h => hk (by rw [if_pos h]; decide)
    refine out (-1) 0 rfl hI1.2.2.2.1 hF1 ?_
    unfold rdQ
    rw [if_neg hk]
    exact ⟨rfl, rfl, rfl⟩
  have hk : ¬ (if 0 ≤ k.toInt ∧ k.toInt < 4 then (1 : Int32) else 0).toInt = 0 := hk
  have hk : 0 ≤ k.toInt ∧ k.toInt < 4 := by
    by_cases h : 0 ≤ k.toInt ∧ k.toInt < 4
    · exact h
    · rw [if_neg h] at hk
      exact absurd rfl hk
  intro rv w2 hx2
  have hx2 : fLr r_X11_isLane [.int lane] w1 rv w2 := hx2
  have hI2 := hI1.keep hx2 (by decide) (by decide)
  have hF2 := hF1.keep hI1.1 hx2 bl_0 bt_0 (by decide)
  obtain ⟨-, rfl⟩ := (s_X11_isLane _ _ _ _ _ _ hx2).2 lane rfl trivial
  refine ⟨fun hl => ?_, fun hl => ?_⟩
  rotate_left
  · have hl : ¬ ¬ (if 0 ≤ lane.toInt ∧ lane.toInt < 3 then (1 : Int32) else 0).toInt = 0 := hl
    have hl : ¬ (0 ≤ lane.toInt ∧ lane.toInt < 3) := fun h => hl (by rw [if_pos h]; decide)
    refine out (-2) 0 rfl hI2.2.2.2.1 hF2 ?_
    unfold rdQ
    rw [if_pos hk, if_neg hl]
    exact ⟨rfl, rfl, rfl⟩
  have hl : ¬ (if 0 ≤ lane.toInt ∧ lane.toInt < 3 then (1 : Int32) else 0).toInt = 0 := hl
  have hl : 0 ≤ lane.toInt ∧ lane.toInt < 3 := by
    by_cases h : 0 ≤ lane.toInt ∧ lane.toInt < 3
    · exact h
    · rw [if_neg h] at hl
      exact absurd rfl hl
  have em : (Int32.ofInt (-1)).toInt = -1 := by decide
  have nul : (l k.toInt.toNat).toInt = -1 → ∀ (rv : Option Value) (w3 : lW), fLr r_X11_faulted [.ref (B 0), .int 1] w2 rv w3 → ∃ x : Int32, rv = some (.int x) ∧ rdO B c l z r k lane i n (some (.int x)) w3 := by
    intro ha rv w3 hx3
    obtain ⟨rfl, a1, a2⟩ := cl_flt hI2.1 hI2.2.2.2.1 hx3
    refine ⟨_, rfl, out (-11) 1 f10_1 a1 a2 ?_⟩
    unfold rdQ
    rw [if_pos hk, if_pos hl, decide_eq_true ha]
    exact ⟨rfl, rfl, rfl⟩
  refine ⟨fun ha => ?_, fun ha => ⟨fun hb => ?_, fun hb => ?_⟩⟩
  · have ha : (eI (hof w2.1 (rv_ (eG fl_X11 77 (hof w2.1 (B 0))))) k.toNatClampNeg).toInt = (Int32.ofInt (-1)).toInt := ha
    rw [g_lan hI2, em] at ha
    refine ⟨fun hb => ?_, fun hb => ?_⟩
    · have hb : ¬ (eI (hof w2.1 (rv_ (eG fl_X11 77 (hof w2.1 (B 0))))) k.toNatClampNeg).toInt = (Int32.ofInt (-1)).toInt := hb
      rw [g_lan hI2, em] at hb
      exact absurd ha hb
    · intro rv w3 hx3
      obtain ⟨x, rfl, h⟩ := nul ha rv w3 hx3
      exact h
  · have ha : ¬ (eI (hof w2.1 (rv_ (eG fl_X11 77 (hof w2.1 (B 0))))) k.toNatClampNeg).toInt = (Int32.ofInt (-1)).toInt := ha
    rw [g_lan hI2, em] at ha
    have hb : (eI (hof w2.1 (rv_ (eG fl_X11 77 (hof w2.1 (B 0))))) k.toNatClampNeg).toInt = lane.toInt := hb
    rw [g_lan hI2] at hb
    refine ⟨fun _ => ?_, fun hd => ?_⟩
    · exact ⟨⟨⟨rfl, rfl, rfl, rfl, rfl, trivial⟩, rfl, hI2, hF2⟩, hk, hl, ha, hb⟩
    · have hd : ¬ ¬ (eI (hof w2.1 (rv_ (eG fl_X11 77 (hof w2.1 (B 0))))) k.toNatClampNeg).toInt = (Int32.ofInt (-1)).toInt := hd
      rw [g_lan hI2, em] at hd
      exact absurd ha hd
  · have ha : ¬ (eI (hof w2.1 (rv_ (eG fl_X11 77 (hof w2.1 (B 0))))) k.toNatClampNeg).toInt = (Int32.ofInt (-1)).toInt := ha
    rw [g_lan hI2, em] at ha
    have hb : ¬ (eI (hof w2.1 (rv_ (eG fl_X11 77 (hof w2.1 (B 0))))) k.toNatClampNeg).toInt = lane.toInt := hb
    rw [g_lan hI2] at hb
    intro rv w3 hx3
    have hx3 : fLr r_X11_faulted [.ref (B 0), .int 2] w2 rv w3 := hx3
    obtain ⟨rfl, a1, a2⟩ := cl_flt hI2.1 hI2.2.2.2.1 hx3
    refine out (-12) 2 f10_2 a1 a2 ?_
    unfold rdQ
    rw [if_pos hk, if_pos hl, decide_eq_false ha, decide_eq_true hb]
    exact ⟨rfl, rfl, rfl⟩
set_option maxHeartbeats 4000000 in
theorem rd_h66 (hz : ∀ k, k < 4 → (l k).toInt = -1 ∨ (0 ≤ (z k).toInt ∧ (z k).toInt ≤ 60)) : ∀ (lg : fL_) (vs : List Value) (w : lW), in_r66 B c l z r k lane i n lg vs w → ∃ (L : fL_) (f : Nat), f_sub L lg ∧ wh oW T_X11_read Sp_rd (rd_Q (B, c, l, z, r, k, lane, i, n) w0) K_X11_read (rd_hd (B, c, l, z, r, k, lane, i, n) w0) f 66 L vs w := by
  rintro lg vs w ⟨⟨hs, rfl, hI, hF⟩, hk, hl, ha, hb⟩
  obtain ⟨z0, z60⟩ := (hz k.toInt.toNat (by omega)).resolve_left ha
  have bad : ¬ n.toInt < 0 → ¬ (0 ≤ i.toInt ∧ i.toInt + n.toInt ≤ (z k.toInt.toNat).toInt) → ∀ (rv : Option Value) (w3 : lW), fLr r_X11_faulted [.ref (B 0), .int 3] w rv w3 → ∃ x : Int32, rv = some (.int x) ∧ rdO B c l z r k lane i n (some (.int x)) w3 := by
    intro hn hx rv w3 hx3
    obtain ⟨rfl, a1, a2⟩ := cl_flt hI.1 hI.2.2.2.1 hx3
    refine ⟨_, rfl, -13, c, 3, f10_3, a1, a2, ?_⟩
    unfold rdQ
    rw [if_pos hk, if_pos hl, decide_eq_false ha, decide_eq_false (not_not_intro hb)]
    dsimp only
    rw [if_neg hn, if_neg hx]
    exact ⟨rfl, rfl, rfl⟩
  have hN := Int32.toInt_lt n
  refine ⟨_, 60, hs, fun hn => ?_, fun hn => ?_⟩
  rotate_left
  · have hn : ¬ 0 ≤ n.toInt := hn
    intro rv w3 hx3
    have hx3 : fLr r_X11_faulted [.ref (B 0), .int 4] w rv w3 := hx3
    obtain ⟨rfl, a1, a2⟩ := cl_flt hI.1 hI.2.2.2.1 hx3
    refine ⟨-14, c, 4, f10_4, a1, a2, ?_⟩
    unfold rdQ
    rw [if_pos hk, if_pos hl, decide_eq_false ha, decide_eq_false (not_not_intro hb)]
    dsimp only
    rw [if_pos (by omega)]
    exact ⟨rfl, rfl, rfl⟩
  have hn : 0 ≤ n.toInt := hn
  refine ⟨fun hi => ?_, fun hi => ⟨fun hj => ?_, fun hj => ?_⟩⟩
  · have hi : i.toInt < 0 := hi
    intro rv w3 hx3
    obtain ⟨x, rfl, h⟩ := bad (by omega) (by omega) rv w3 hx3
    exact h
  · have hi : ¬ i.toInt < 0 := hi
    have hj : i.toInt ≤ (eI (hof w.1 (rv_ (eG fl_X11 87 (hof w.1 (B 0))))) k.toNatClampNeg - n).toInt := hj
    rw [g_siz hI, i_sub (by omega) (by omega)] at hj
    exact ⟨⟨⟨⟨rfl, rfl, rfl, rfl, rfl, trivial⟩, rfl, hI, hF⟩, hk, hl, ha, hb⟩, hn, (show 0 ≤ i.toInt by omega), (show i.toInt + n.toInt ≤ (z k.toInt.toNat).toInt by omega)⟩
  · have hj : ¬ i.toInt ≤ (eI (hof w.1 (rv_ (eG fl_X11 87 (hof w.1 (B 0))))) k.toNatClampNeg - n).toInt := hj
    rw [g_siz hI, i_sub (by omega) (by omega)] at hj
    intro rv w3 hx3
    obtain ⟨x, rfl, h⟩ := bad (by omega) (by omega) rv w3 hx3
    exact h
set_option maxHeartbeats 4000000 in
theorem rd_h100 (hc60 : 0 ≤ c.toInt ∧ c.toInt ≤ 60) (hz : ∀ k, k < 4 → (l k).toInt = -1 ∨ (0 ≤ (z k).toInt ∧ (z k).toInt ≤ 60)) : ∀ (lg : fL_) (vs : List Value) (w : lW), in_r100 B c l z r k lane i n lg vs w → ∃ (L : fL_) (f : Nat), f_sub L lg ∧ wh oW T_X11_read Sp_rd (rd_Q (B, c, l, z, r, k, lane, i, n) w0) K_X11_read (rd_hd (B, c, l, z, r, k, lane, i, n) w0) f 100 L vs w := by
  rintro lg vs w ⟨⟨⟨hs, rfl, hI, hF⟩, hk, hl, ha, hb⟩, hn, hi, hj⟩
  obtain ⟨z0, z60⟩ := (hz k.toInt.toNat (by omega)).resolve_left ha
  have e60 : (Int32.ofNat 60).toInt = 60 := by decide
  have out : ∀ {w : lW} {rv : Option Value} (v c' : Int32), rv = some (.int v) → oF B 0 11 1 (.int c') w → oF B 0 11 14 (.int 0) w → (if c.toInt = 60 then v = -4 ∧ c' = c ∧ (0 : Int32) = 0 else if 0 ≤ rd_t r k i n then v.toInt = -100 - rd_t r k i n ∧ c' = c ∧ (0 : Int32) = 0 else v = c ∧ c' = c + 1 ∧ (0 : Int32) = 0) → rdO B c l z r k lane i n rv w := by
    intro w rv v c' a1 a2 a3 a4
    refine ⟨v, c', 0, a1, a2, a3, ?_⟩
    unfold rdQ
    rw [if_pos hk, if_pos hl, decide_eq_false ha, decide_eq_false (not_not_intro hb)]
    dsimp only
    rw [if_neg (by omega), if_pos ⟨hi, hj⟩]
    exact a4
  refine ⟨_, 60, hs, fun hf => ?_, fun hf => ?_⟩
  rotate_left
  · have hf : ¬ (iv (eG fl_X11 108 (hof w.1 (B 0)))).toInt < (Int32.ofNat (eL (hof w.1 (rv_ (eG fl_X11 15 (hof w.1 (B 0))))))).toInt := hf
    rw [g_cnt hI.2.2.2.1, g_len hI.1 hI.2.2.2.1 hI.2.1, e60] at hf
    have hf : ¬ c.toInt < 60 := hf
    refine out (-4) c rfl hI.2.2.2.1 hF ?_
    rw [if_pos (by omega)]
    exact ⟨rfl, rfl, rfl⟩
  have hf : (iv (eG fl_X11 108 (hof w.1 (B 0)))).toInt < (Int32.ofNat (eL (hof w.1 (rv_ (eG fl_X11 15 (hof w.1 (B 0))))))).toInt := hf
  rw [g_cnt hI.2.2.2.1, g_len hI.1 hI.2.2.2.1 hI.2.1, e60] at hf
  have hf : c.toInt < 60 := hf
  have er : eG fl_X11 34 (hof w.1 (B 0)) = .ref (B 126) := (hI.2.2.2.1.ref hI.1 bl_0 (show _ = some (2, 0, 126) from rfl)).get rfl
  intro rv w1 hx
  have hx : fLr r_X7_firstFault [eG fl_X11 34 (hof w.1 (B 0)), eR (hof w.1 (rv_ (eG fl_X11 74 (hof w.1 (B 0))))) k.toNatClampNeg, .int i, .int n] w rv w1 := hx
  rw [er, g_row hI hk] at hx
  have hI1 := hI.keep hx (by decide) (by decide)
  have hF1 := hF.keep hI.1 hx bl_0 bt_0 (by decide)
  obtain ⟨cA, hr⟩ := hI.2.2.2.2.2.2 k.toInt.toNat (by omega)
  obtain ⟨-, x, rfl, ex⟩ := (s_X7_firstFault _ _ _ _ _ _ hx).2 (B 126, B (336 + k.toInt.toNat), i, n, cA, r k.toInt.toNat) rfl ⟨hr, hi, hn, (show i.toInt + n.toInt ≤ 60 by omega)⟩
  have ex : x.toInt = rd_t r k i n := ex
  have xle : rd_t r k i n ≤ ((0 : Nat) : Int) + (n.toInt.toNat : Nat) := acA_le
  refine ⟨fun hw => ?_, fun hw => ?_⟩
  rotate_left
  · have hw : ¬ x.toInt < 0 := hw
    have e100 : (Int32.ofInt (-100)).toInt = -100 := by decide
    refine out (Int32.ofInt (-100) - x) c rfl hI1.2.2.2.1 hF1 ?_
    rw [if_neg (by omega), if_pos (by omega)]
    refine ⟨?_, rfl, rfl⟩
    rw [i_sub (by rw [e100]; omega) (by rw [e100]; omega), e100, ex]
  have hw : x.toInt < 0 := hw
  intro rv w2 hx2
  have hx2 : fLr r_X7_valueOf _ w1 rv w2 := hx2
  have hI2 := hI1.keep hx2 (by decide) (by decide)
  have hF2 := hF1.keep hI1.1 hx2 bl_0 bt_0 (by decide)
  obtain ⟨u, rfl, -⟩ : ∃ v : Value, rv = some v ∧ (v = .null ∨ ∃ a : Nat, v = .ref a) := hx2.2.2.2.2.2
  intro rv w3 hx3
  have hx3 : fLr r_X1_become _ w2 rv w3 := hx3
  have hI3 := hI2.keep hx3 (by decide) (by decide)
  have hF3 := hF2.keep hI2.1 hx3 bl_0 bt_0 (by decide)
  obtain rfl : rv = none := hx3.2.2.2.2.2
  intro rv w4 hx4
  have hx4 : fLr r_X11_newSentence [.ref (B 0)] w3 rv w4 := hx4
  have hF4 := hF3.keep hI3.1 hx4 bl_0 bt_0 (by decide)
  obtain ⟨rfl, a1⟩ := cl_new hI3.1 hI3.2.2.2.1 hx4
  refine out c (c + 1) rfl a1 hF4 ?_
  rw [if_neg (by omega), if_neg (by omega)]
  exact ⟨rfl, rfl, rfl⟩
end
theorem s_X11_read : ∀ (a : rdA) (w w' : lW) (rv : Option Value), fLr r_X11_read (rd_F a) w rv w' → rd_P a w → rd_Q a w rv w' := by
  refine do_ofW rd_F rd_P rd_Q Sp_rd rd_hd 40 fo_X11 Sp_rd_ok k_X11_read (fun a w0 hp => ?_) (fun a w0 hp hd0 => ?_)
  · obtain ⟨B, c, l, z, r, k, lane, i, n⟩ := a
    obtain ⟨-, -, hc60, hz⟩ := hp
    exact List.forall_mem_cons.mpr ⟨rd_h5, List.forall_mem_cons.mpr ⟨rd_h66 hz, List.forall_mem_cons.mpr ⟨rd_h100 hc60 hz, fun _ h => absurd h List.not_mem_nil⟩⟩⟩
  · obtain ⟨B, c, l, z, r, k, lane, i, n⟩ := a
    obtain ⟨hI, ⟨u, hu⟩, -, -⟩ := hp
    intro q e0 hq
    have hq : w0.1[q]? = some (B 0, e0) := hq
    obtain ⟨a1, a2⟩ := hI.put (x := 0) hu hq
    exact ⟨⟨rfl, rfl, rfl, rfl, rfl, trivial⟩, rfl, a1, a2⟩
end
section
/-! read: the reference's -/
def mI (B : Nat → Nat) (c : Int32) (y z f : Nat → Int32) (w : lW) : Prop := bI B w ∧ oF B 343 12 1 (.int c) w ∧ aI B 381 4 z w ∧ aI B 382 4 y w ∧ aI B 383 240 f w
theorem mI.keep {B : Nat → Nat} {c : Int32} {y z f : Nat → Int32} {rt : Nat} {Wr : List (Nat × Nat)} {T : fT} {cc : ByteArray} {As : List Value} {w w' : lW} {rv : Option Value} (hI : mI B c y z f w) (h : fLr (fq cw_TT cw_SG rt Wr T cc) As w rv w') (hk : bs_K.all (fun x => !(Wr.contains x)) = true) (hw : (17, 1) ∉ Wr ∧ (82, 0) ∉ Wr ∧ (83, 0) ∉ Wr ∧ (84, 0) ∉ Wr) : mI B c y z f w' := by
  obtain ⟨hb, hc, hz, hy, hf⟩ := hI
  exact ⟨hb.keep h hk, hc.keep hb h bl_343 bt_343 hw.1, hz.keep hb h bl_381 bt_381 (by decide) hw.2.1, hy.keep hb h bl_382 bt_382 (by decide) hw.2.2.1, hf.keep hb h bl_383 bt_383 (by decide) hw.2.2.2⟩
theorem mI.upd {B : Nat → Nat} {c : Int32} {y z f : Nat → Int32} {w : lW} (hI : mI B c y z f w) {p : Nat} {d : mk_C} {ws' : va_W} {sh' : List Nat} {e : va_E} (hb : bI B (ws', sh')) (hd : lp_L2[p]? = some d) (hn : 343 ≠ p ∧ 381 ≠ p ∧ 382 ≠ p ∧ 383 ≠ p) (hh : hof ws' = hset (hof w.1) (B p) e) : mI B c y z f (ws', sh') :=
  ⟨hb, hI.2.1.upd hI.1 bl_343 hd hn.1 hh, hI.2.2.1.upd hI.1 bl_381 hd hn.2.1 hh, hI.2.2.2.1.upd hI.1 bl_382 hd hn.2.2.1 hh, hI.2.2.2.2.upd hI.1 bl_383 hd hn.2.2.2 hh⟩
theorem cR_sJ {B : Nat → Nat} {c : mk_C} {e : va_E} (h : cR B c e) (h0 : c.1 ≠ 0) (hr : ∀ k r : Nat, c.2.2.2[k]? ≠ some (2, 0, r)) {i : Nat} {v : Int64} : cR B c (sJ i v (some e)) := by
  cases e with
  | inr o => exact absurd h.1 h0
  | inl x =>
    obtain ⟨cA, n, a⟩ := x
    unfold sJ
    split
    · exact ⟨h0, fun k r hk => absurd hk (hr k r)⟩
    · rename_i e' _ he'
      have he' : (Sum.inl (cA, n, a) : va_E) = e' := Option.some.inj he'
      subst he'
      exact ⟨h0, fun k r hk => absurd hk (hr k r)⟩
    · rename_i he'
      cases he'
theorem mI.lng {B : Nat → Nat} {c : Int32} {y z f : Nat → Int32} {w : lW} (hI : mI B c y z f w) {E : Value} (hE : E = .ref (B 344)) {q : Nat} {e0 : va_E} (hq : w.1[q]? = some (rv_ E, e0)) {i : Nat} {v : Int64} : mI B c y z f (w.1.set q (rv_ E, sJ i v (hof w.1 (rv_ E))), w.2) := by
  subst hE
  have hq : w.1[q]? = some (B 344, e0) := hq
  obtain ⟨e, h1, h2, h3⟩ := hI.1.2.h hI.1.1 bl_344
  have he : cR B (2, 1, 240, []) (sJ i v (hof w.1 (B 344))) := by
    rw [h2]
    exact cR_sJ h3 (by decide) (fun k r hk => by cases hk)
  obtain ⟨b1, b2⟩ := hI.1.set bl_344 hq he
  exact hI.upd b1 bl_344 (by decide) b2
theorem mI.cnt {B : Nat → Nat} {c c' : Int32} {y z f : Nat → Int32} {w : lW} (hI : mI B c y z f w) {E : Value} (hE : E = .int c') {q : Nat} {e0 : va_E} (hq : w.1[q]? = some (B 343, e0)) : mI B c' y z f (w.1.set q (B 343, sG pl_X12 149 E (hof w.1 (B 343))), w.2) := by
  subst hE
  obtain ⟨hb, hc, hz, hy, hf⟩ := hI
  obtain ⟨b1, b2, b3, -⟩ := oF.put (v' := .int c') (i := 149) (pl := pl_X12) hb hc bl_343 hq rfl (fun r h => by have h : some ((1, 0, 0) : mk_V) = some (2, 0, r) := h; cases h)
  exact ⟨b1, b3, hz.upd hb bl_381 bl_343 (by decide) b2, hy.upd hb bl_382 bl_343 (by decide) b2, hf.upd hb bl_383 bl_343 (by decide) b2⟩
theorem cl_ref {B : Nat → Nat} {c x : Int32} {y z f : Nat → Int32} {w w' : lW} {rv : Option Value} (hI : mI B c y z f w) (hx : fLr r_X12_refused [.ref (B 343), .int x] w rv w') : rv = some (.int x) ∧ oF B 343 12 1 (.int c) w' ∧ oF B 343 12 0 (.int 0) w' := by
  obtain ⟨tys, hw, -⟩ := hx.2.2.2.2.1
  obtain ⟨fs, hp, hlen⟩ := ln_343 hI.1 hw
  obtain ⟨e, er⟩ := (s_X12_refused _ _ _ _ _ _ hx).2 (B 343, x, fs) rfl hp
  have e : hof w'.1 = hset (hof w.1) (B 343) (.inr (12, fs.set 0 (.int 0))) := e
  refine ⟨er, hI.2.1.keep hI.1 hx bl_343 bt_343 (by decide), ⟨fs.set 0 (.int 0), by rw [e, hset_at], by rw [List.length_set]; omega, ?_⟩⟩
  rw [List.getD_eq_getElem?_getD, List.getElem?_set_self (by omega)]
  rfl
theorem cl_fld {B : Nat → Nat} {c x : Int32} {y z f : Nat → Int32} {w w' : lW} {rv : Option Value} (hI : mI B c y z f w) (hx : fLr r_X12_failed [.ref (B 343), .int x] w rv w') : rv = some (.int (Int32.ofInt (-10) - x)) ∧ oF B 343 12 1 (.int c) w' ∧ oF B 343 12 0 (.int x) w' := by
  obtain ⟨tys, hw, -⟩ := hx.2.2.2.2.1
  obtain ⟨fs, hp, hlen⟩ := ln_343 hI.1 hw
  obtain ⟨e, er⟩ := (s_X12_failed _ _ _ _ _ _ hx).2 (B 343, x, fs) rfl hp
  have e : hof w'.1 = hset (hof w.1) (B 343) (.inr (12, fs.set 0 (.int x))) := e
  refine ⟨er, hI.2.1.keep hI.1 hx bl_343 bt_343 (by decide), ⟨fs.set 0 (.int x), by rw [e, hset_at], by rw [List.length_set]; omega, ?_⟩⟩
  rw [List.getD_eq_getElem?_getD, List.getElem?_set_self (by omega)]
  rfl
abbrev rmA : Type := (Nat → Nat) × Int32 × (Nat → Int32) × (Nat → Int32) × (Nat → Int32) × Int32 × Int32 × Int32 × Int32
def rm_F : rmA → List Value := fun (B, _, _, _, _, k, lane, i, n) => [.ref (B 343), .int k, .int lane, .int i, .int n]
def rm_P : rmA → lW → Prop := fun (B, c, y, z, f, _, _, _, _) w => mI B c y z f w ∧ (0 ≤ c.toInt ∧ c.toInt ≤ 60) ∧ ∀ k, k < 4 → (z k).toInt ≤ 60
def rm_t (f : Nat → Int32) (k i n : Int32) : Int := acA (fun x => f (60 * k.toInt.toNat + i.toInt.toNat + x)) n.toInt.toNat 0 (true, 0)
def rmO (B : Nat → Nat) (c : Int32) (y z f : Nat → Int32) (k lane i n : Int32) (rv : Option Value) (w' : lW) : Prop := ∃ v c' ft : Int32, rv = some (.int v) ∧ oF B 343 12 1 (.int c') w' ∧ oF B 343 12 0 (.int ft) w' ∧ rdQ k lane i n c (decide ((z k.toInt.toNat).toInt < 0)) (decide (¬ (y k.toInt.toNat).toInt = lane.toInt)) (z k.toInt.toNat).toInt (rm_t f k i n) v c' ft
def rm_Q : rmA → lW → Option Value → lW → Prop := fun (B, c, y, z, f, k, lane, i, n) _ rv w' => rmO B c y z f k lane i n rv w'
def in_m0 (B : Nat → Nat) (c : Int32) (y z f : Nat → Int32) (k lane i n : Int32) : fL_ → List Value → lW → Prop := fun lg vs w => f_sub [(0, false, .ref (B 343)), (1, false, .int k), (2, false, .int lane), (3, false, .int i), (4, false, .int n)] lg ∧ vs = [] ∧ mI B c y z f w
def in_m32 (B : Nat → Nat) (c : Int32) (y z f : Nat → Int32) (k lane i n : Int32) : fL_ → List Value → lW → Prop := fun lg vs w => in_m0 B c y z f k lane i n lg vs w ∧ (0 ≤ k.toInt ∧ k.toInt < 4) ∧ (0 ≤ lane.toInt ∧ lane.toInt < 3)
def in_m72 (B : Nat → Nat) (c : Int32) (y z f : Nat → Int32) (k lane i n : Int32) : fL_ → List Value → lW → Prop := fun lg vs w => in_m32 B c y z f k lane i n lg vs w ∧ 0 ≤ (z k.toInt.toNat).toInt ∧ (y k.toInt.toNat).toInt = lane.toInt
def in_m105 (B : Nat → Nat) (c : Int32) (y z f : Nat → Int32) (k lane i n : Int32) : fL_ → List Value → lW → Prop := fun lg vs w => in_m72 B c y z f k lane i n lg vs w ∧ 0 ≤ n.toInt ∧ 0 ≤ i.toInt ∧ i.toInt + n.toInt ≤ (z k.toInt.toNat).toInt
def rm_gd (c : Int32) (y z f : Nat → Int32) (k lane i n : Int32) : Prop := ((0 ≤ k.toInt ∧ k.toInt < 4) ∧ (0 ≤ lane.toInt ∧ lane.toInt < 3)) ∧ (0 ≤ (z k.toInt.toNat).toInt ∧ (y k.toInt.toNat).toInt = lane.toInt) ∧ (0 ≤ n.toInt ∧ 0 ≤ i.toInt ∧ i.toInt + n.toInt ≤ (z k.toInt.toNat).toInt) ∧ c.toInt < 60 ∧ rm_t f k i n < 0
def in_m153 (B : Nat → Nat) (c : Int32) (y z f : Nat → Int32) (k lane i n : Int32) : fL_ → List Value → lW → Prop := fun lg vs w => ∃ t : Int32, f_sub [(6, false, .int t), (0, false, .ref (B 343))] lg ∧ vs = [] ∧ mI B c y z f w ∧ rm_gd c y z f k lane i n
def in_m196 (B : Nat → Nat) (c : Int32) (y z f : Nat → Int32) (k lane i n : Int32) : fL_ → List Value → lW → Prop := fun lg vs w => f_sub [(0, false, .ref (B 343))] lg ∧ vs = [] ∧ mI B (c + 1) y z f w ∧ rm_gd c y z f k lane i n
def rm_hd : rmA → lW → fI lW := fun (B, c, y, z, f, k, lane, i, n) _ => [(32, in_m32 B c y z f k lane i n), (72, in_m72 B c y z f k lane i n), (105, in_m105 B c y z f k lane i n), (153, in_m153 B c y z f k lane i n), (196, in_m196 B c y z f k lane i n)]
def Sp_rm : fP lW := [(604, 1, fLr r_X12_noSheet), (457, 3, fLr r_X12_in), (615, 2, fLr r_X12_refused), (630, 2, fLr r_X12_failed), (640, 3, fLr r_X12_isBeyond), (651, 3, fLr r_X12_parse)]
theorem Sp_rm_ok : f_sp T_X12_read Sp_rm wW := List.forall_mem_cons.mpr ⟨sp_w rfl (fun _ _ _ _ _ _ h => h.2.2.1), List.forall_mem_cons.mpr ⟨sp_w rfl (fun _ _ _ _ _ _ h => h.2.2.1), List.forall_mem_cons.mpr ⟨sp_w rfl (fun _ _ _ _ _ _ h => h.2.2.1), List.forall_mem_cons.mpr ⟨sp_w rfl (fun _ _ _ _ _ _ h => h.2.2.1), List.forall_mem_cons.mpr ⟨sp_w rfl (fun _ _ _ _ _ _ h => h.2.2.1), List.forall_mem_cons.mpr ⟨sp_w rfl (fun _ _ _ _ _ _ h => h.2.2.1), fun _ h => absurd h List.not_mem_nil⟩⟩⟩⟩⟩⟩
section
variable {B : Nat → Nat} {c : Int32} {y z f : Nat → Int32} {k lane i n : Int32} {w0 : lW}
theorem g_mz {w : lW} (hI : mI B c y z f w) (k : Int32) : eI (hof w.1 (rv_ (eG fl_X12 124 (hof w.1 (B 343))))) k.toNatClampNeg = z k.toInt.toNat := by
  rw [(hI.2.1.ref hI.1 bl_343 (show _ = some (2, 0, 381) from rfl)).get (show kfd fl_X12 124 12 = 64 from rfl)]
  obtain ⟨cA, h⟩ := hI.2.2.1
  show eI (hof w.1 (B 381)) _ = _
  rw [h]
  rfl
theorem g_my {w : lW} (hI : mI B c y z f w) (k : Int32) : eI (hof w.1 (rv_ (eG fl_X12 127 (hof w.1 (B 343))))) k.toNatClampNeg = y k.toInt.toNat := by
  rw [(hI.2.1.ref hI.1 bl_343 (show _ = some (2, 0, 382) from rfl)).get (show kfd fl_X12 127 12 = 65 from rfl)]
  obtain ⟨cA, h⟩ := hI.2.2.2.1
  show eI (hof w.1 (B 382)) _ = _
  rw [h]
  rfl
theorem g_mt {w : lW} (hI : mI B c y z f w) : eG fl_X12 7 (hof w.1 (B 343)) = .ref (B 344) := (hI.2.1.ref hI.1 bl_343 (show _ = some (2, 0, 344) from rfl)).get rfl
theorem g_mc {w : lW} (hI : mI B c y z f w) : eG fl_X12 149 (hof w.1 (B 343)) = .int c := hI.2.1.get rfl
theorem rm_cut {w : lW} {rv : Option Value} (v ft : Int32) (a1 : rv = some (.int v)) (a2 : oF B 343 12 1 (.int c) w) (a3 : oF B 343 12 0 (.int ft) w) (a4 : rdQ k lane i n c (decide ((z k.toInt.toNat).toInt < 0)) (decide (¬ (y k.toInt.toNat).toInt = lane.toInt)) (z k.toInt.toNat).toInt (rm_t f k i n) v c ft) : rmO B c y z f k lane i n rv w := ⟨v, c, ft, a1, a2, a3, a4⟩
set_option maxHeartbeats 4000000 in
theorem rm_en {w : lW} (hI : mI B c y z f w) : wl oW T_X12_read Sp_rm (rm_Q (B, c, y, z, f, k, lane, i, n) w0) K_X12_read (rm_hd (B, c, y, z, f, k, lane, i, n) w0) 40 K_X12_read 0 (la 0 (rm_F (B, c, y, z, f, k, lane, i, n))) [] w := by
  have e2 : (Int64.ofInt 2).toInt = 2 := by decide
  have e0 : (Int64.ofNat 0).toInt = 0 := by decide
  intro rv w1 hx
  have hx : fLr r_X12_noSheet [.int k] w rv w1 := hx
  have hI1 := hI.keep hx (by decide) (by decide)
  obtain ⟨-, rfl⟩ := (s_X12_noSheet _ _ _ _ _ _ hx).2 k rfl trivial
  refine ⟨fun hk => ?_, fun hk => ?_⟩
  rotate_left
  · have hk : ¬ (if 0 ≤ k.toInt ∧ k.toInt < 4 then (0 : Int32) else 1).toInt = 0 := hk
    have hk : ¬ (0 ≤ k.toInt ∧ k.toInt < 4) := fun h => hk (by rw [if_pos h]; decide)
    intro rv w3 hx3
    have hx3 : fLr r_X12_refused [.ref (B 343), .int (-1)] w1 rv w3 := hx3
    obtain ⟨rfl, a1, a2⟩ := cl_ref hI1 hx3
    refine rm_cut (-1) 0 rfl a1 a2 ?_
    unfold rdQ
    rw [if_neg hk]
    exact ⟨rfl, rfl, rfl⟩
  have hk : (if 0 ≤ k.toInt ∧ k.toInt < 4 then (0 : Int32) else 1).toInt = 0 := hk
  have hk : 0 ≤ k.toInt ∧ k.toInt < 4 := by
    by_cases h : 0 ≤ k.toInt ∧ k.toInt < 4
    · exact h
    · rw [if_neg h] at hk
      exact absurd hk (by decide)
  intro rv w2 hx2
  have hx2 : fLr r_X12_in [.long lane.toInt64, .long (Int64.ofNat 0), .long (Int64.ofInt 2)] w1 rv w2 := hx2
  have hI2 := hI1.keep hx2 (by decide) (by decide)
  obtain ⟨-, er⟩ := (s_X12_in _ _ _ _ _ _ hx2).2 (lane.toInt64, Int64.ofNat 0, Int64.ofInt 2) rfl trivial
  have er : rv = some (.int (if (Int64.ofNat 0).toInt ≤ lane.toInt64.toInt ∧ lane.toInt64.toInt ≤ (Int64.ofInt 2).toInt then 1 else 0)) := er
  rw [Int32.toInt_toInt64, e0, e2] at er
  subst er
  refine ⟨fun hl => ?_, fun hl => ?_⟩
  rotate_left
  · have hl : ¬ ¬ (if 0 ≤ lane.toInt ∧ lane.toInt ≤ 2 then (1 : Int32) else 0).toInt = 0 := hl
    have hl : ¬ (0 ≤ lane.toInt ∧ lane.toInt ≤ 2) := fun h => hl (by rw [if_pos h]; decide)
    intro rv w3 hx3
    have hx3 : fLr r_X12_refused [.ref (B 343), .int (-2)] w2 rv w3 := hx3
    obtain ⟨rfl, a1, a2⟩ := cl_ref hI2 hx3
    refine rm_cut (-2) 0 rfl a1 a2 ?_
    unfold rdQ
    rw [if_pos hk, if_neg (by omega)]
    exact ⟨rfl, rfl, rfl⟩
  have hl : ¬ (if 0 ≤ lane.toInt ∧ lane.toInt ≤ 2 then (1 : Int32) else 0).toInt = 0 := hl
  have hl : 0 ≤ lane.toInt ∧ lane.toInt ≤ 2 := by
    by_cases h : 0 ≤ lane.toInt ∧ lane.toInt ≤ 2
    · exact h
    · rw [if_neg h] at hl
      exact absurd rfl hl
  exact ⟨⟨⟨rfl, rfl, rfl, rfl, rfl, trivial⟩, rfl, hI2⟩, hk, ⟨hl.1, by omega⟩⟩
set_option maxHeartbeats 4000000 in
theorem rm_h32 : ∀ (lg : fL_) (vs : List Value) (w : lW), in_m32 B c y z f k lane i n lg vs w → ∃ (L : fL_) (fu : Nat), f_sub L lg ∧ wh oW T_X12_read Sp_rm (rm_Q (B, c, y, z, f, k, lane, i, n) w0) K_X12_read (rm_hd (B, c, y, z, f, k, lane, i, n) w0) fu 32 L vs w := by
  rintro lg vs w ⟨⟨hs, rfl, hI⟩, hk, hl⟩
  have nul : (z k.toInt.toNat).toInt < 0 → ∀ (rv : Option Value) (w3 : lW), fLr r_X12_failed [.ref (B 343), .int 1] w rv w3 → ∃ x : Int32, rv = some (.int x) ∧ rmO B c y z f k lane i n (some (.int x)) w3 := by
    intro ha rv w3 hx3
    obtain ⟨rfl, a1, a2⟩ := cl_fld hI hx3
    refine ⟨_, rfl, rm_cut (-11) 1 f10_1 a1 a2 ?_⟩
    unfold rdQ
    rw [if_pos hk, if_pos hl, decide_eq_true ha]
    exact ⟨rfl, rfl, rfl⟩
  refine ⟨_, 60, hs, fun ha => ⟨fun hb => ?_, fun hb => ?_⟩, fun ha => ⟨fun hb => ⟨fun hd => ?_, fun hd => ?_⟩, fun hb => ?_⟩⟩
  · have ha : (eI (hof w.1 (rv_ (eG fl_X12 124 (hof w.1 (B 343))))) k.toNatClampNeg).toInt < 0 := ha
    have hb : 0 ≤ (eI (hof w.1 (rv_ (eG fl_X12 124 (hof w.1 (B 343))))) k.toNatClampNeg).toInt := hb
    omega
  · have ha : (eI (hof w.1 (rv_ (eG fl_X12 124 (hof w.1 (B 343))))) k.toNatClampNeg).toInt < 0 := ha
    rw [g_mz hI] at ha
    intro rv w3 hx3
    obtain ⟨x, rfl, h⟩ := nul ha rv w3 hx3
    exact h
  · have hb : (eI (hof w.1 (rv_ (eG fl_X12 127 (hof w.1 (B 343))))) k.toNatClampNeg).toInt = lane.toInt := hb
    rw [g_my hI] at hb
    have hd : 0 ≤ (eI (hof w.1 (rv_ (eG fl_X12 124 (hof w.1 (B 343))))) k.toNatClampNeg).toInt := hd
    rw [g_mz hI] at hd
    exact ⟨⟨⟨⟨rfl, rfl, rfl, rfl, rfl, trivial⟩, rfl, hI⟩, hk, hl⟩, hd, hb⟩
  · have ha : ¬ (eI (hof w.1 (rv_ (eG fl_X12 124 (hof w.1 (B 343))))) k.toNatClampNeg).toInt < 0 := ha
    have hd : ¬ 0 ≤ (eI (hof w.1 (rv_ (eG fl_X12 124 (hof w.1 (B 343))))) k.toNatClampNeg).toInt := hd
    omega
  · have ha : ¬ (eI (hof w.1 (rv_ (eG fl_X12 124 (hof w.1 (B 343))))) k.toNatClampNeg).toInt < 0 := ha
    rw [g_mz hI] at ha
    have hb : ¬ (eI (hof w.1 (rv_ (eG fl_X12 127 (hof w.1 (B 343))))) k.toNatClampNeg).toInt = lane.toInt := hb
    rw [g_my hI] at hb
    intro rv w3 hx3
    have hx3 : fLr r_X12_failed [.ref (B 343), .int 2] w rv w3 := hx3
    obtain ⟨rfl, a1, a2⟩ := cl_fld hI hx3
    refine rm_cut (-12) 2 f10_2 a1 a2 ?_
    unfold rdQ
    rw [if_pos hk, if_pos hl, decide_eq_false ha, decide_eq_true hb]
    exact ⟨rfl, rfl, rfl⟩
set_option maxHeartbeats 4000000 in
theorem rm_h72 : ∀ (lg : fL_) (vs : List Value) (w : lW), in_m72 B c y z f k lane i n lg vs w → ∃ (L : fL_) (fu : Nat), f_sub L lg ∧ wh oW T_X12_read Sp_rm (rm_Q (B, c, y, z, f, k, lane, i, n) w0) K_X12_read (rm_hd (B, c, y, z, f, k, lane, i, n) w0) fu 72 L vs w := by
  rintro lg vs w ⟨⟨⟨hs, rfl, hI⟩, hk, hl⟩, ha, hb⟩
  have ha' : ¬ (z k.toInt.toNat).toInt < 0 := by omega
  refine ⟨_, 60, hs, fun hn => ?_, fun hn => ?_⟩
  rotate_left
  · have hn : ¬ 0 ≤ n.toInt := hn
    intro rv w3 hx3
    have hx3 : fLr r_X12_failed [.ref (B 343), .int 4] w rv w3 := hx3
    obtain ⟨rfl, a1, a2⟩ := cl_fld hI hx3
    refine rm_cut (-14) 4 f10_4 a1 a2 ?_
    unfold rdQ
    rw [if_pos hk, if_pos hl, decide_eq_false ha', decide_eq_false (not_not_intro hb)]
    dsimp only
    rw [if_pos (by omega)]
    exact ⟨rfl, rfl, rfl⟩
  have hn : 0 ≤ n.toInt := hn
  intro rv w1 hx
  have hx : fLr r_X12_isBeyond [.int i, .long n.toInt64, .int (eI (hof w.1 (rv_ (eG fl_X12 124 (hof w.1 (B 343))))) k.toNatClampNeg)] w rv w1 := hx
  rw [g_mz hI] at hx
  have hI1 := hI.keep hx (by decide) (by decide)
  obtain ⟨-, rfl⟩ := (s_X12_isBeyond _ _ _ _ _ _ hx).2 (i, n, z k.toInt.toNat) rfl trivial
  refine ⟨fun hs => ?_, fun hs => ?_⟩
  · have hs : (if (0 ≤ i.toInt ∧ 0 ≤ n.toInt) ∧ i.toInt + n.toInt ≤ (z k.toInt.toNat).toInt then (0 : Int32) else 1).toInt = 0 := hs
    have hs : (0 ≤ i.toInt ∧ 0 ≤ n.toInt) ∧ i.toInt + n.toInt ≤ (z k.toInt.toNat).toInt := by
      by_cases hx : (0 ≤ i.toInt ∧ 0 ≤ n.toInt) ∧ i.toInt + n.toInt ≤ (z k.toInt.toNat).toInt
      · exact hx
      · rw [if_neg hx] at hs
        exact absurd hs (by decide)
    exact ⟨⟨⟨⟨⟨rfl, rfl, rfl, rfl, rfl, trivial⟩, rfl, hI1⟩, hk, hl⟩, ha, hb⟩, hn, hs.1.1, hs.2⟩
  · have hs : ¬ (if (0 ≤ i.toInt ∧ 0 ≤ n.toInt) ∧ i.toInt + n.toInt ≤ (z k.toInt.toNat).toInt then (0 : Int32) else 1).toInt = 0 := hs
    have hs : ¬ ((0 ≤ i.toInt ∧ 0 ≤ n.toInt) ∧ i.toInt + n.toInt ≤ (z k.toInt.toNat).toInt) := by
      intro hx
      rw [if_pos hx] at hs
      exact hs (by decide)
    intro rv w3 hx3
    have hx3 : fLr r_X12_failed [.ref (B 343), .int 3] w1 rv w3 := hx3
    obtain ⟨rfl, a1, a2⟩ := cl_fld hI1 hx3
    refine rm_cut (-13) 3 f10_3 a1 a2 ?_
    unfold rdQ
    rw [if_pos hk, if_pos hl, decide_eq_false ha', decide_eq_false (not_not_intro hb)]
    dsimp only
    rw [if_neg (by omega), if_neg (fun h => hs ⟨⟨h.1, hn⟩, h.2⟩)]
    exact ⟨rfl, rfl, rfl⟩
set_option maxHeartbeats 4000000 in
theorem rm_h105 (hc60 : 0 ≤ c.toInt ∧ c.toInt ≤ 60) (hz : ∀ k, k < 4 → (z k).toInt ≤ 60) : ∀ (lg : fL_) (vs : List Value) (w : lW), in_m105 B c y z f k lane i n lg vs w → ∃ (L : fL_) (fu : Nat), f_sub L lg ∧ wh oW T_X12_read Sp_rm (rm_Q (B, c, y, z, f, k, lane, i, n) w0) K_X12_read (rm_hd (B, c, y, z, f, k, lane, i, n) w0) fu 105 L vs w := by
  rintro lg vs w ⟨⟨⟨⟨hs, rfl, hI⟩, hk, hl⟩, ha, hb⟩, hn, hi, hj⟩
  have ha' : ¬ (z k.toInt.toNat).toInt < 0 := by omega
  have z60 := hz k.toInt.toNat (by omega)
  have e60 : (Int32.ofInt 60).toInt = 60 := by decide
  have out : ∀ {w : lW} {rv : Option Value} (v : Int32), rv = some (.int v) → oF B 343 12 1 (.int c) w → oF B 343 12 0 (.int 0) w → (if c.toInt = 60 then v = -4 ∧ c = c ∧ (0 : Int32) = 0 else if 0 ≤ rm_t f k i n then v.toInt = -100 - rm_t f k i n ∧ c = c ∧ (0 : Int32) = 0 else v = c ∧ c = c + 1 ∧ (0 : Int32) = 0) → rmO B c y z f k lane i n rv w := by
    intro w rv v a1 a2 a3 a4
    refine rm_cut v 0 a1 a2 a3 ?_
    unfold rdQ
    rw [if_pos hk, if_pos hl, decide_eq_false ha', decide_eq_false (not_not_intro hb)]
    dsimp only
    rw [if_neg (by omega), if_pos ⟨hi, hj⟩]
    exact a4
  refine ⟨_, 60, hs, fun hf => ?_, fun hf => ?_⟩
  rotate_left
  · have hf : ¬ ¬ (iv (eG fl_X12 149 (hof w.1 (B 343)))).toInt = (Int32.ofInt 60).toInt := hf
    rw [g_mc hI, e60] at hf
    have hf : ¬ ¬ c.toInt = 60 := hf
    intro rv w3 hx3
    have hx3 : fLr r_X12_refused [.ref (B 343), .int (-4)] w rv w3 := hx3
    obtain ⟨rfl, a1, a2⟩ := cl_ref hI hx3
    refine out (-4) rfl a1 a2 ?_
    rw [if_pos (by omega)]
    exact ⟨rfl, rfl, rfl⟩
  have hf : ¬ (iv (eG fl_X12 149 (hof w.1 (B 343)))).toInt = (Int32.ofInt 60).toInt := hf
  rw [g_mc hI, e60] at hf
  have hf : ¬ c.toInt = 60 := hf
  intro rv w1 hx
  have hx : fLr r_X12_parse [.ref (B 343), .int (60 * k + i), .int n] w rv w1 := hx
  have hI1 := hI.keep hx (by decide) (by decide)
  have e6 : (60 : Int32).toInt = 60 := by decide
  have m1 : (60 * k).toInt = 60 * k.toInt := by
    rw [i_mul (by rw [e6]; omega) (by rw [e6]; omega), e6]
  have m2 : (60 * k + i).toInt = 60 * k.toInt + i.toInt := by
    rw [i_add (by rw [m1]; omega) (by rw [m1]; omega), m1]
  obtain ⟨cC, hC⟩ := hI.2.2.2.2
  obtain ⟨fs, hp, -⟩ := hI.2.1
  obtain ⟨-, x, rfl, ex⟩ := s_X12_parse (B, 60 * k + i, n, cC, f) w w1 rv hx ⟨⟨hI.1.1, hI.1.2, ⟨fs, hp⟩, hC⟩, (show 0 ≤ (60 * k + i).toInt by omega), hn, (show (60 * k + i).toInt + n.toInt ≤ 240 by omega)⟩
  have ex : x.toInt = rm_t f k i n := by
    rw [ex]
    refine acA_eq (fun u _ _ => ?_)
    show f ((60 * k + i).toInt.toNat + u) = f (60 * k.toInt.toNat + i.toInt.toNat + u)
    congr 1
    omega
  have xle : rm_t f k i n ≤ ((0 : Nat) : Int) + (n.toInt.toNat : Nat) := acA_le
  refine ⟨fun hw => ?_, fun hw => ?_⟩
  · have hw : x.toInt < 0 := hw
    exact ⟨0, ⟨rfl, rfl, trivial⟩, rfl, hI1, ⟨hk, hl⟩, ⟨ha, hb⟩, ⟨hn, hi, hj⟩, (show c.toInt < 60 by omega), (show rm_t f k i n < 0 by omega)⟩
  · have hw : ¬ x.toInt < 0 := hw
    have e100 : (Int32.ofInt (-100)).toInt = -100 := by decide
    intro rv w3 hx3
    have hx3 : fLr r_X12_refused [.ref (B 343), .int (Int32.ofInt (-100) - x)] w1 rv w3 := hx3
    obtain ⟨rfl, a1, a2⟩ := cl_ref hI1 hx3
    refine out (Int32.ofInt (-100) - x) rfl a1 a2 ?_
    rw [if_neg hf, if_pos (by omega)]
    refine ⟨?_, rfl, rfl⟩
    rw [i_sub (by rw [e100]; omega) (by rw [e100]; omega), e100, ex]
set_option maxHeartbeats 4000000 in
theorem rm_h153 : ∀ (lg : fL_) (vs : List Value) (w : lW), in_m153 B c y z f k lane i n lg vs w → ∃ (L : fL_) (fu : Nat), f_sub L lg ∧ wh oW T_X12_read Sp_rm (rm_Q (B, c, y, z, f, k, lane, i, n) w0) K_X12_read (rm_hd (B, c, y, z, f, k, lane, i, n) w0) fu 153 L vs w := by
  rintro lg vs w ⟨t, hs, rfl, hI, hg⟩
  refine ⟨_, 60, hs, fun hc => ?_, fun hc => ?_⟩
  · intro q e0 hq
    have hq : w.1[q]? = some (B 343, e0) := hq
    refine ⟨⟨rfl, trivial⟩, rfl, mI.cnt (c' := c + 1) hI ?_ hq, hg⟩
    show Value.int (iv (eG fl_X12 149 (hof w.1 (B 343))) + 1) = .int (c + 1)
    rw [g_mc hI]
    rfl
  · intro q e0 hq
    exact ⟨t + 1, ⟨rfl, rfl, trivial⟩, rfl, mI.lng hI (g_mt hI) hq, hg⟩
set_option maxHeartbeats 4000000 in
theorem rm_h196 : ∀ (lg : fL_) (vs : List Value) (w : lW), in_m196 B c y z f k lane i n lg vs w → ∃ (L : fL_) (fu : Nat), f_sub L lg ∧ wh oW T_X12_read Sp_rm (rm_Q (B, c, y, z, f, k, lane, i, n) w0) K_X12_read (rm_hd (B, c, y, z, f, k, lane, i, n) w0) fu 196 L vs w := by
  rintro lg vs w ⟨hs, rfl, hI, ⟨⟨hk, hl⟩, ⟨ha, hb⟩, ⟨hn, hi, hj⟩, hc, ht⟩⟩
  have ha' : ¬ (z k.toInt.toNat).toInt < 0 := by omega
  have ev : (c + 1 - 1 : Int32) = c := by
    rw [Int32.add_sub_cancel]
  refine ⟨_, 60, hs, ?_⟩
  intro rv w3 hx3
  have hx3 : fLr r_X12_refused [.ref (B 343), .int (iv (eG fl_X12 149 (hof w.1 (B 343))) - 1)] w rv w3 := hx3
  rw [g_mc hI] at hx3
  have hx3 : fLr r_X12_refused [.ref (B 343), .int (c + 1 - 1)] w rv w3 := hx3
  rw [ev] at hx3
  obtain ⟨rfl, a1, a2⟩ := cl_ref hI hx3
  refine ⟨c, c + 1, 0, rfl, a1, a2, ?_⟩
  unfold rdQ
  rw [if_pos hk, if_pos hl, decide_eq_false ha', decide_eq_false (not_not_intro hb)]
  dsimp only
  rw [if_neg (by omega), if_pos ⟨hi, hj⟩, if_neg (by omega), if_neg (by omega)]
  exact ⟨rfl, rfl, rfl⟩
end
theorem s_X12_read : ∀ (a : rmA) (w w' : lW) (rv : Option Value), fLr r_X12_read (rm_F a) w rv w' → rm_P a w → rm_Q a w rv w' := by
  refine do_ofW rm_F rm_P rm_Q Sp_rm rm_hd 40 fo_X12 Sp_rm_ok k_X12_read (fun a w0 hp => ?_) (fun a w0 hp hd0 => ?_)
  · obtain ⟨B, c, y, z, f, k, lane, i, n⟩ := a
    obtain ⟨-, hc60, hz⟩ := hp
    exact List.forall_mem_cons.mpr ⟨rm_h32, List.forall_mem_cons.mpr ⟨rm_h72, List.forall_mem_cons.mpr ⟨rm_h105 hc60 hz, List.forall_mem_cons.mpr ⟨rm_h153, List.forall_mem_cons.mpr ⟨rm_h196, fun _ h => absurd h List.not_mem_nil⟩⟩⟩⟩⟩
  · obtain ⟨B, c, y, z, f, k, lane, i, n⟩ := a
    exact rm_en hp.1
end
section
/-! make -/
def mkQ (how a b c v c' : Int32) : Prop :=
  if 0 ≤ how.toInt ∧ how.toInt ≤ 4 then
    if (0 ≤ a.toInt ∧ a.toInt < c.toInt) ∧ (how.toInt = 0 ∨ (0 ≤ b.toInt ∧ b.toInt < c.toInt)) then
      if c.toInt = 60 then v = -4 ∧ c' = c else v = c ∧ c' = c + 1
    else v = -1 ∧ c' = c
  else v = -2 ∧ c' = c
abbrev saA : Type := Nat × List Value × Int32 × Nat × ClassId × (Nat → Option Nat) × Int32
theorem s_X11_sentenceAt : f_do r_X11_sentenceAt (fun As h rv h' => ∀ a : saA, As = [.ref a.1, .int a.2.2.2.2.2.2] → (h a.1 = some (.inr (11, a.2.1)) ∧ a.2.1.getD 1 .null = .int a.2.2.1 ∧ a.2.1.getD 0 .null = .ref a.2.2.2.1 ∧ h a.2.2.2.1 = some (.inl (a.2.2.2.2.1, 60, .inr (.inr (.inr (.inr a.2.2.2.2.2.1)))))) → h' = h ∧ rv = some (if (0 ≤ a.2.2.2.2.2.2.toInt ∧ a.2.2.2.2.2.2.toInt < a.2.2.1.toInt) ∧ a.2.2.2.2.2.2.toInt < 60 then va_rf (a.2.2.2.2.2.1 a.2.2.2.2.2.2.toInt.toNat) else .null)) := by
  refine do_ofP (fun a : saA => [.ref a.1, .int a.2.2.2.2.2.2]) (fun a h => h a.1 = some (.inr (11, a.2.1)) ∧ a.2.1.getD 1 .null = .int a.2.2.1 ∧ a.2.1.getD 0 .null = .ref a.2.2.2.1 ∧ h a.2.2.2.1 = some (.inl (a.2.2.2.2.1, 60, .inr (.inr (.inr (.inr a.2.2.2.2.2.1)))))) (fun a h rv h' => h' = h ∧ rv = some (if (0 ≤ a.2.2.2.2.2.2.toInt ∧ a.2.2.2.2.2.2.toInt < a.2.2.1.toInt) ∧ a.2.2.2.2.2.2.toInt < 60 then va_rf (a.2.2.2.2.2.1 a.2.2.2.2.2.2.toInt.toNat) else .null)) [] (fun _ _ => []) 40 fo_X11 no_sp k_X11_sentenceAt (fun _ _ _ => no_hd) (fun a h0 hp => ?_)
  obtain ⟨p, fs, c, aS, cA, g, s⟩ := a
  obtain ⟨hp, hc, hs, ha⟩ := hp
  have hp : h0 p = some (.inr (11, fs)) := hp
  have hc : fs.getD 1 .null = .int c := hc
  have hs : fs.getD 0 .null = .ref aS := hs
  have ha : h0 aS = some (.inl (cA, 60, .inr (.inr (.inr (.inr g))))) := ha
  have g1 : eG fl_X11 108 (h0 p) = .int c := by
    rw [hp, ← hc]
    rfl
  have g2 : eG fl_X11 15 (h0 p) = .ref aS := by
    rw [hp, ← hs]
    rfl
  have e60 : (Int32.ofNat 60).toInt = 60 := by decide
  have no : ¬ ((0 ≤ s.toInt ∧ s.toInt < c.toInt) ∧ s.toInt < 60) → h0 = h0 ∧ some Value.null = some (if (0 ≤ s.toInt ∧ s.toInt < c.toInt) ∧ s.toInt < 60 then va_rf (g s.toInt.toNat) else .null) := fun h => by
    rw [if_neg h]
    exact ⟨rfl, rfl⟩
  refine ⟨fun h1 => ?_, fun h1 => ⟨fun h2 => ?_, fun h2 => ⟨fun h3 => ?_, fun h3 => ?_⟩⟩⟩
  · have h1 : s.toInt < 0 := h1
    exact no (by omega)
  · have h2 : (iv (eG fl_X11 108 (h0 p))).toInt ≤ s.toInt := h2
    rw [g1] at h2
    have h2 : c.toInt ≤ s.toInt := h2
    exact no (by omega)
  · have h3 : (Int32.ofNat (eL (h0 (rv_ (eG fl_X11 15 (h0 p)))))).toInt ≤ s.toInt := h3
    rw [g2] at h3
    have h3 : (Int32.ofNat (eL (h0 aS))).toInt ≤ s.toInt := h3
    rw [ha] at h3
    have h3 : (Int32.ofNat 60).toInt ≤ s.toInt := h3
    exact no (by omega)
  · have h1 : ¬ s.toInt < 0 := h1
    have h2 : ¬ (iv (eG fl_X11 108 (h0 p))).toInt ≤ s.toInt := h2
    rw [g1] at h2
    have h2 : ¬ c.toInt ≤ s.toInt := h2
    have h3 : ¬ (Int32.ofNat (eL (h0 (rv_ (eG fl_X11 15 (h0 p)))))).toInt ≤ s.toInt := h3
    rw [g2] at h3
    have h3 : ¬ (Int32.ofNat (eL (h0 aS))).toInt ≤ s.toInt := h3
    rw [ha] at h3
    have h3 : ¬ (Int32.ofNat 60).toInt ≤ s.toInt := h3
    show h0 = h0 ∧ some (eR (h0 (rv_ (eG fl_X11 15 (h0 p)))) s.toNatClampNeg) = some (if (0 ≤ s.toInt ∧ s.toInt < c.toInt) ∧ s.toInt < 60 then va_rf (g s.toInt.toNat) else .null)
    rw [g2, if_pos ⟨⟨by omega, by omega⟩, by omega⟩]
    show h0 = h0 ∧ some (eR (h0 aS) s.toNatClampNeg) = _
    rw [ha]
    exact ⟨rfl, rfl⟩
/-- the desk's sentences over whole worlds -/
def nS (B : Nat → Nat) (c : Int32) (w : lW) : Prop := bI B w ∧ sN B w ∧ oF B 0 11 1 (.int c) w
theorem nS.keep {B : Nat → Nat} {c : Int32} {rt : Nat} {Wr : List (Nat × Nat)} {T : fT} {cc : ByteArray} {As : List Value} {w w' : lW} {rv : Option Value} (hI : nS B c w) (h : fLr (fq cw_TT cw_SG rt Wr T cc) As w rv w') (hk : bs_K.all (fun x => !(Wr.contains x)) = true) (hw : (11, 1) ∉ Wr) : nS B c w' :=
  ⟨hI.1.keep h hk, sN.keep hI.1 h hk, hI.2.2.keep hI.1 h bl_0 bt_0 hw⟩
def at_ (B : Nat → Nat) (c s : Int32) : Value := if 0 ≤ s.toInt ∧ s.toInt < c.toInt then .ref (B (2 + 2 * s.toInt.toNat)) else .null
theorem cl_at {B : Nat → Nat} {c s : Int32} {w w' : lW} {rv : Option Value} (hI : nS B c w) (hc : c.toInt ≤ 60) (hx : fLr r_X11_sentenceAt [.ref (B 0), .int s] w rv w') : rv = some (at_ B c s) ∧ nS B c w' := by
  obtain ⟨cA, g, ha, hg⟩ := hI.2.1
  obtain ⟨fs, hp, hl, hv⟩ := id hI.2.2
  obtain ⟨fs2, hp2, -, hs⟩ := hI.2.2.ref hI.1 bl_0 (show _ = some (2, 0, 1) from rfl) (k' := 0)
  have e : fs = fs2 := congrArg Prod.snd (Sum.inr.inj (Option.some.inj (hp.symm.trans hp2)))
  subst e
  obtain ⟨-, er⟩ := (s_X11_sentenceAt _ _ _ _ _ _ hx).2 (B 0, fs, c, B 1, cA, g, s) rfl ⟨hp, hv, hs, ha⟩
  refine ⟨?_, hI.keep hx (by decide) (by decide)⟩
  rw [er]
  unfold at_
  by_cases h : 0 ≤ s.toInt ∧ s.toInt < c.toInt
  · rw [if_pos h]
    show some (if (0 ≤ s.toInt ∧ s.toInt < c.toInt) ∧ s.toInt < 60 then va_rf (g s.toInt.toNat) else .null) = _
    rw [if_pos ⟨h, by omega⟩, hg _ (by omega)]
    rfl
  · rw [if_neg h]
    show some (if (0 ≤ s.toInt ∧ s.toInt < c.toInt) ∧ s.toInt < 60 then va_rf (g s.toInt.toNat) else .null) = _
    rw [if_neg (fun z => h z.1)]
theorem at_nul {B : Nat → Nat} {c s : Int32} : at_ B c s = .null ↔ ¬ (0 ≤ s.toInt ∧ s.toInt < c.toInt) := by
  unfold at_
  by_cases h : 0 ≤ s.toInt ∧ s.toInt < c.toInt
  · rw [if_pos h]
    exact ⟨fun z => (by cases z), fun z => absurd h z⟩
  · rw [if_neg h]
    exact ⟨fun _ => h, fun _ => rfl⟩
theorem at_ref {B : Nat → Nat} {c s : Int32} (h : 0 ≤ s.toInt ∧ s.toInt < c.toInt) : at_ B c s = .ref (B (2 + 2 * s.toInt.toNat)) := if_pos h
abbrev mkA : Type := (Nat → Nat) × Int32 × Int32 × Int32 × Int32
def kk_F : mkA → List Value := fun (B, _, how, a, b) => [.ref (B 0), .int how, .int a, .int b]
def kk_P : mkA → lW → Prop := fun (B, c, _, _, _) w => nS B c w ∧ 0 ≤ c.toInt ∧ c.toInt ≤ 60
def mkO (B : Nat → Nat) (c how a b : Int32) (rv : Option Value) (w' : lW) : Prop := ∃ v c' : Int32, rv = some (.int v) ∧ oF B 0 11 1 (.int c') w' ∧ mkQ how a b c v c'
def kk_Q : mkA → lW → Option Value → lW → Prop := fun (B, c, how, a, b) _ rv w' => mkO B c how a b rv w'
def in_k33 (B : Nat → Nat) (c how a b : Int32) : fL_ → List Value → lW → Prop := fun lg vs w => f_sub [(0, false, .ref (B 0)), (1, false, .int how), (4, false, at_ B c a)] lg ∧ vs = [if how.toInt = 0 then at_ B c a else at_ B c b] ∧ nS B c w ∧ 0 ≤ how.toInt ∧ how.toInt ≤ 4
def in_k157 (B : Nat → Nat) (c how a b : Int32) : fL_ → List Value → lW → Prop := fun lg vs w => f_sub [(0, false, .ref (B 0))] lg ∧ vs = [] ∧ nS B c w ∧ (0 ≤ how.toInt ∧ how.toInt ≤ 4) ∧ ((0 ≤ a.toInt ∧ a.toInt < c.toInt) ∧ (how.toInt = 0 ∨ (0 ≤ b.toInt ∧ b.toInt < c.toInt))) ∧ c.toInt < 60
def kk_hd : mkA → lW → fI lW := fun (B, c, how, a, b) _ => [(33, in_k33 B c how a b), (157, in_k157 B c how a b)]
def Sp_mk : fP lW := [(381, 2, fLr r_X11_sentenceAt), (357, 2, fLr r_X1_become), (393, 1, fLr r_X1_turn), (402, 2, fLr r_X1_meet), (411, 2, fLr r_X1_join), (420, 2, fLr r_X1_imply), (429, 2, fLr r_X1_match), (369, 1, fLr r_X11_newSentence)]
theorem Sp_mk_ok : f_sp T_X11_make Sp_mk wW := List.forall_mem_cons.mpr ⟨sp_w rfl (fun _ _ _ _ _ _ h => h.2.2.1), List.forall_mem_cons.mpr ⟨sp_w rfl (fun _ _ _ _ _ _ h => h.2.2.1), List.forall_mem_cons.mpr ⟨sp_w rfl (fun _ _ _ _ _ _ h => h.2.2.1), List.forall_mem_cons.mpr ⟨sp_w rfl (fun _ _ _ _ _ _ h => h.2.2.1), List.forall_mem_cons.mpr ⟨sp_w rfl (fun _ _ _ _ _ _ h => h.2.2.1), List.forall_mem_cons.mpr ⟨sp_w rfl (fun _ _ _ _ _ _ h => h.2.2.1), List.forall_mem_cons.mpr ⟨sp_w rfl (fun _ _ _ _ _ _ h => h.2.2.1), List.forall_mem_cons.mpr ⟨sp_w rfl (fun _ _ _ _ _ _ h => h.2.2.1), fun _ h => absurd h List.not_mem_nil⟩⟩⟩⟩⟩⟩⟩⟩
section
variable {B : Nat → Nat} {c how a b : Int32} {w0 : lW}
set_option maxHeartbeats 4000000 in
theorem kk_h33 (hc60 : 0 ≤ c.toInt ∧ c.toInt ≤ 60) : ∀ (lg : fL_) (vs : List Value) (w : lW), in_k33 B c how a b lg vs w → ∃ (L : fL_) (f : Nat), f_sub L lg ∧ wh oW T_X11_make Sp_mk (kk_Q (B, c, how, a, b) w0) K_X11_make (kk_hd (B, c, how, a, b) w0) f 33 L vs w := by
  rintro lg vs w ⟨hs, rfl, hI, hh⟩
  have e60 : (Int32.ofNat 60).toInt = 60 := by decide
  have unk : ¬ ((0 ≤ a.toInt ∧ a.toInt < c.toInt) ∧ (how.toInt = 0 ∨ (0 ≤ b.toInt ∧ b.toInt < c.toInt))) → mkO B c how a b (some (.int (-1))) w := by
    intro hx
    refine ⟨-1, c, rfl, hI.2.2, ?_⟩
    unfold mkQ
    rw [if_pos hh, if_neg hx]
    exact ⟨rfl, rfl⟩
  refine ⟨_, 80, hs, fun h1 => ?_, fun h1 => ⟨fun h2 => ?_, fun h2 => ?_⟩⟩
  · have h1 : at_ B c a = .null := h1
    exact unk (fun z => at_nul.mp h1 z.1)
  rotate_left
  · have h2 : (if how.toInt = 0 then at_ B c a else at_ B c b) = .null := h2
    refine unk (fun z => ?_)
    split at h2
    · exact at_nul.mp h2 z.1
    · rename_i hn
      exact at_nul.mp h2 (z.2.resolve_left hn)
  have h1 : ¬ at_ B c a = .null := h1
  have h2 : ¬ (if how.toInt = 0 then at_ B c a else at_ B c b) = .null := h2
  have ha : 0 ≤ a.toInt ∧ a.toInt < c.toInt := Classical.byContradiction fun z => h1 (at_nul.mpr z)
  have hb : how.toInt = 0 ∨ (0 ≤ b.toInt ∧ b.toInt < c.toInt) := by
    by_cases hz : how.toInt = 0
    · exact Or.inl hz
    · rw [if_neg hz] at h2
      exact Or.inr (Classical.byContradiction fun z => h2 (at_nul.mpr z))
  refine ⟨fun hf => ?_, fun hf => ?_⟩
  rotate_left
  · have hf : ¬ (iv (eG fl_X11 108 (hof w.1 (B 0)))).toInt < (Int32.ofNat (eL (hof w.1 (rv_ (eG fl_X11 15 (hof w.1 (B 0))))))).toInt := hf
    rw [g_cnt hI.2.2, g_len hI.1 hI.2.2 hI.2.1, e60] at hf
    have hf : ¬ c.toInt < 60 := hf
    refine ⟨-4, c, rfl, hI.2.2, ?_⟩
    unfold mkQ
    rw [if_pos hh, if_pos ⟨ha, hb⟩, if_pos (by omega)]
    exact ⟨rfl, rfl⟩
  have hf : (iv (eG fl_X11 108 (hof w.1 (B 0)))).toInt < (Int32.ofNat (eL (hof w.1 (rv_ (eG fl_X11 15 (hof w.1 (B 0))))))).toInt := hf
  rw [g_cnt hI.2.2, g_len hI.1 hI.2.2 hI.2.1, e60] at hf
  have hf : c.toInt < 60 := hf
  intro rv w1 hx
  have hx : fLr r_X1_become _ w rv w1 := hx
  have hI1 := hI.keep hx (by decide) (by decide)
  obtain rfl : rv = none := hx.2.2.2.2.2
  refine ⟨fun _ => ?_, fun _ _ => ⟨fun _ => ?_, fun _ => ?_, fun _ => ?_, fun _ => ?_, trivial⟩⟩
  · intro rv w2 hx2
    have hx2 : fLr r_X1_match _ w1 rv w2 := hx2
    obtain rfl : rv = none := hx2.2.2.2.2.2
    exact ⟨⟨rfl, trivial⟩, rfl, hI1.keep hx2 (by decide) (by decide), hh, ⟨ha, hb⟩, hf⟩
  · intro rv w2 hx2
    have hx2 : fLr r_X1_turn _ w1 rv w2 := hx2
    obtain rfl : rv = none := hx2.2.2.2.2.2
    exact ⟨⟨rfl, trivial⟩, rfl, hI1.keep hx2 (by decide) (by decide), hh, ⟨ha, hb⟩, hf⟩
  · intro rv w2 hx2
    have hx2 : fLr r_X1_meet _ w1 rv w2 := hx2
    obtain rfl : rv = none := hx2.2.2.2.2.2
    exact ⟨⟨rfl, trivial⟩, rfl, hI1.keep hx2 (by decide) (by decide), hh, ⟨ha, hb⟩, hf⟩
  · intro rv w2 hx2
    have hx2 : fLr r_X1_join _ w1 rv w2 := hx2
    obtain rfl : rv = none := hx2.2.2.2.2.2
    exact ⟨⟨rfl, trivial⟩, rfl, hI1.keep hx2 (by decide) (by decide), hh, ⟨ha, hb⟩, hf⟩
  · intro rv w2 hx2
    have hx2 : fLr r_X1_imply _ w1 rv w2 := hx2
    obtain rfl : rv = none := hx2.2.2.2.2.2
    exact ⟨⟨rfl, trivial⟩, rfl, hI1.keep hx2 (by decide) (by decide), hh, ⟨ha, hb⟩, hf⟩
set_option maxHeartbeats 4000000 in
theorem kk_h157 : ∀ (lg : fL_) (vs : List Value) (w : lW), in_k157 B c how a b lg vs w → ∃ (L : fL_) (f : Nat), f_sub L lg ∧ wh oW T_X11_make Sp_mk (kk_Q (B, c, how, a, b) w0) K_X11_make (kk_hd (B, c, how, a, b) w0) f 157 L vs w := by
  rintro lg vs w ⟨hs, rfl, hI, hh, hab, hf⟩
  refine ⟨_, 40, hs, ?_⟩
  intro rv w1 hx
  have hx : fLr r_X11_newSentence [.ref (B 0)] w rv w1 := hx
  obtain ⟨rfl, a1⟩ := cl_new hI.1 hI.2.2 hx
  refine ⟨c, c + 1, rfl, a1, ?_⟩
  unfold mkQ
  rw [if_pos hh, if_pos hab, if_neg (by omega)]
  exact ⟨rfl, rfl⟩
set_option maxHeartbeats 4000000 in
theorem kk_en {w : lW} (hI : nS B c w) (hc60 : 0 ≤ c.toInt ∧ c.toInt ≤ 60) : wl oW T_X11_make Sp_mk (kk_Q (B, c, how, a, b) w0) K_X11_make (kk_hd (B, c, how, a, b) w0) 40 K_X11_make 0 (la 0 (kk_F (B, c, how, a, b))) [] w := by
  have e4 : (Int32.ofInt 4).toInt = 4 := by decide
  have bad : ¬ (0 ≤ how.toInt ∧ how.toInt ≤ 4) → mkO B c how a b (some (.int (-2))) w := by
    intro hx
    refine ⟨-2, c, rfl, hI.2.2, ?_⟩
    unfold mkQ
    rw [if_neg hx]
    exact ⟨rfl, rfl⟩
  refine ⟨fun h1 => ?_, fun h1 => ⟨fun h2 => ?_, fun h2 => ?_⟩⟩
  · have h1 : how.toInt < 0 := h1
    exact bad (by omega)
  rotate_left
  · have h2 : ¬ how.toInt ≤ (Int32.ofInt 4).toInt := h2
    exact bad (by omega)
  have h1 : ¬ how.toInt < 0 := h1
  have h2 : how.toInt ≤ (Int32.ofInt 4).toInt := h2
  intro rv w1 hx
  have hx : fLr r_X11_sentenceAt [.ref (B 0), .int a] w rv w1 := hx
  obtain ⟨rfl, hI1⟩ := cl_at hI hc60.2 hx
  refine ⟨fun h3 => ?_, fun h3 => ?_⟩
  · have h3 : ¬ how.toInt = 0 := h3
    intro rv w2 hx2
    have hx2 : fLr r_X11_sentenceAt [.ref (B 0), .int b] w1 rv w2 := hx2
    obtain ⟨rfl, hI2⟩ := cl_at hI1 hc60.2 hx2
    refine ⟨⟨rfl, rfl, rfl, trivial⟩, ?_, hI2, (show 0 ≤ how.toInt by omega), (show how.toInt ≤ 4 by omega)⟩
    rw [if_neg h3]
    rfl
  · have h3 : ¬ ¬ how.toInt = 0 := h3
    refine ⟨⟨rfl, rfl, rfl, trivial⟩, ?_, hI1, (show 0 ≤ how.toInt by omega), (show how.toInt ≤ 4 by omega)⟩
    rw [if_pos (Classical.not_not.mp h3)]
    rfl
end
theorem s_X11_make : ∀ (a : mkA) (w w' : lW) (rv : Option Value), fLr r_X11_make (kk_F a) w rv w' → kk_P a w → kk_Q a w rv w' := by
  refine do_ofW kk_F kk_P kk_Q Sp_mk kk_hd 40 fo_X11 Sp_mk_ok k_X11_make (fun a w0 hp => ?_) (fun a w0 hp hd0 => ?_)
  · obtain ⟨B, c, how, a, b⟩ := a
    obtain ⟨-, hc60⟩ := hp
    exact List.forall_mem_cons.mpr ⟨kk_h33 hc60, List.forall_mem_cons.mpr ⟨kk_h157, fun _ h => absurd h List.not_mem_nil⟩⟩
  · obtain ⟨B, c, how, a, b⟩ := a
    exact kk_en hp.1 hp.2
/-! make: the reference's -/
theorem s_X12_noSentence : f_do r_X12_noSentence (fun As h rv h' => ∀ a : Nat × List Value × Int32 × Int32, As = [.ref a.1, .int a.2.2.2] → (h a.1 = some (.inr (12, a.2.1)) ∧ a.2.1.getD 1 .null = .int a.2.2.1) → h' = h ∧ rv = some (.int (if 0 ≤ a.2.2.2.toInt ∧ a.2.2.2.toInt < a.2.2.1.toInt then 0 else 1))) := by
  refine do_ofP (fun a : Nat × List Value × Int32 × Int32 => [.ref a.1, .int a.2.2.2]) (fun a h => h a.1 = some (.inr (12, a.2.1)) ∧ a.2.1.getD 1 .null = .int a.2.2.1) (fun a h rv h' => h' = h ∧ rv = some (.int (if 0 ≤ a.2.2.2.toInt ∧ a.2.2.2.toInt < a.2.2.1.toInt then 0 else 1))) [(457, 3, _)] (fun _ _ => []) 40 fo_X12 (List.forall_mem_cons.mpr ⟨sp_one rfl s_X12_in, no_sp⟩) k_X12_noSentence (fun _ _ _ => no_hd) (fun a h0 hp => ?_)
  obtain ⟨p, fs, c, s⟩ := a
  obtain ⟨hp, hc⟩ := hp
  have hp : h0 p = some (.inr (12, fs)) := hp
  have hc : fs.getD 1 .null = .int c := hc
  have g1 : eG fl_X12 149 (h0 p) = .int c := by
    rw [hp, ← hc]
    rfl
  have e0 : (Int64.ofNat 0).toInt = 0 := by decide
  have e1 : (Int64.ofNat 1).toInt = 1 := by decide
  have c1 := Int32.toInt_lt c
  have c2 := Int32.le_toInt c
  have ec : (c.toInt64 - Int64.ofNat 1).toInt = c.toInt - 1 := by
    rw [Int64.toInt_sub, Int32.toInt_toInt64, e1]
    exact Int.bmod_eq_of_le (by omega) (by omega)
  intro rv h1 hx
  obtain ⟨e2, er⟩ := hx (s.toInt64, Int64.ofNat 0, (iv (eG fl_X12 149 (h0 p))).toInt64 - Int64.ofNat 1) rfl trivial
  have e2 : h1 = h0 := e2
  subst h1
  have er : rv = some (.int (if (Int64.ofNat 0).toInt ≤ s.toInt64.toInt ∧ s.toInt64.toInt ≤ ((iv (eG fl_X12 149 (h0 p))).toInt64 - Int64.ofNat 1).toInt then 1 else 0)) := er
  rw [g1, e0, Int32.toInt_toInt64] at er
  have er : rv = some (.int (if 0 ≤ s.toInt ∧ s.toInt ≤ (c.toInt64 - Int64.ofNat 1).toInt then 1 else 0)) := er
  rw [ec] at er
  subst er
  refine ⟨fun h => ?_, fun h => ?_⟩
  · have h : ¬ (if 0 ≤ s.toInt ∧ s.toInt ≤ c.toInt - 1 then (1 : Int32) else 0).toInt = 0 := h
    have hy : 0 ≤ s.toInt ∧ s.toInt ≤ c.toInt - 1 := by
      by_cases z : 0 ≤ s.toInt ∧ s.toInt ≤ c.toInt - 1
      · exact z
      · rw [if_neg z] at h
        exact absurd rfl h
    refine ⟨rfl, ?_⟩
    show some (Value.int 0) = some (.int (if 0 ≤ s.toInt ∧ s.toInt < c.toInt then 0 else 1))
    rw [if_pos (by omega)]
  · have h : ¬ ¬ (if 0 ≤ s.toInt ∧ s.toInt ≤ c.toInt - 1 then (1 : Int32) else 0).toInt = 0 := h
    have hy : ¬ (0 ≤ s.toInt ∧ s.toInt ≤ c.toInt - 1) := fun z => h (by rw [if_pos z]; decide)
    refine ⟨rfl, ?_⟩
    show some (Value.int 1) = some (.int (if 0 ≤ s.toInt ∧ s.toInt < c.toInt then 0 else 1))
    rw [if_neg (by omega)]
abbrev mmA : Type := (Nat × List Value × Int32) × (Nat × ClassId × (Nat → Int64)) × Int32 × Int32 × Int32
def mm_F : mmA → List Value := fun ((p, _, _), _, how, x, y) => [.ref p, .int how, .int x, .int y]
def mm_P : mmA → fH → Prop := fun ((p, fs, c), (aT, cT, g), _, _, _) h => h p = some (.inr (12, fs)) ∧ (fs.getD 1 .null = .int c ∧ fs.getD 2 .null = .ref aT ∧ 1 < fs.length) ∧ h aT = some (.inl (cT, 240, .inr (.inl g))) ∧ 0 ≤ c.toInt ∧ c.toInt ≤ 60
def mmO (p : Nat) (c how x y : Int32) (rv : Option Value) (h' : fH) : Prop := ∃ v c' : Int32, rv = some (.int v) ∧ (∃ fs' : List Value, h' p = some (.inr (12, fs')) ∧ 1 < fs'.length ∧ fs'.getD 1 .null = .int c') ∧ mkQ how x y c v c'
def mm_Q : mmA → fH → Option Value → fH → Prop := fun ((p, _, c), _, how, x, y) _ rv h' => mmO p c how x y rv h'
def in_q37 (p : Nat) (c how x y : Int32) (h0 : fH) : fL_ → List Value → fH → Prop := fun lg vs w => f_sub [(0, false, .ref p), (1, false, .int how), (2, false, .int x), (3, false, .int y)] lg ∧ vs = [] ∧ w = h0 ∧ (0 ≤ how.toInt ∧ how.toInt ≤ 4) ∧ ((0 ≤ x.toInt ∧ x.toInt < c.toInt) ∧ (how.toInt = 0 ∨ (0 ≤ y.toInt ∧ y.toInt < c.toInt)))
def in_q52 (p : Nat) (c : Int32) (aT : Nat) (cT : ClassId) (how x y : Int32) (h0 : fH) : fL_ → List Value → fH → Prop := fun lg vs w => ∃ (t : Int32) (g : Nat → Int64), f_sub [(4, false, .int t), (0, false, .ref p), (1, false, .int how), (2, false, .int x), (3, false, .int y)] lg ∧ vs = [] ∧ w = hset h0 aT (.inl (cT, 240, .inr (.inl g))) ∧ (0 ≤ how.toInt ∧ how.toInt ≤ 4) ∧ ((0 ≤ x.toInt ∧ x.toInt < c.toInt) ∧ (how.toInt = 0 ∨ (0 ≤ y.toInt ∧ y.toInt < c.toInt))) ∧ c.toInt < 60
def mm_hd : mmA → fH → fI fH := fun ((p, _, c), (aT, cT, _), how, x, y) h0 => [(37, in_q37 p c how x y h0), (52, in_q52 p c aT cT how x y h0)]
theorem tJ_put {h0 w : fH} {aT : Nat} {cT : ClassId} {g : Nat → Int64} (hw : w = hset h0 aT (.inl (cT, 240, .inr (.inl g)))) {E : Value} (hE : E = .ref aT) {i : Nat} {v : Int64} : hset w (rv_ E) (sJ i v (w (rv_ E))) = hset h0 aT (.inl (cT, 240, .inr (.inl (vp_updL g i v)))) := by
  subst hE
  show hset w aT (sJ i v (w aT)) = _
  rw [show w aT = some (.inl (cT, 240, .inr (.inl g))) by rw [hw, hset_at], hw]
  exact hset_hset
def Pi_in : fPh := fun As h rv h' => ∀ a : Int64 × Int64 × Int64, As = [.long a.1, .long a.2.1, .long a.2.2] → True → h' = h ∧ rv = some (.int (if a.2.1.toInt ≤ a.1.toInt ∧ a.1.toInt ≤ a.2.2.toInt then 1 else 0))
def Pi_noSentence : fPh := fun As h rv h' => ∀ a : Nat × List Value × Int32 × Int32, As = [.ref a.1, .int a.2.2.2] → (h a.1 = some (.inr (12, a.2.1)) ∧ a.2.1.getD 1 .null = .int a.2.2.1) → h' = h ∧ rv = some (.int (if 0 ≤ a.2.2.2.toInt ∧ a.2.2.2.toInt < a.2.2.1.toInt then 0 else 1))
def SpMM : fP fH := [(457, 3, Pi_in), (669, 2, Pi_noSentence)]
theorem SpMM_ok : f_sp T_X12_make SpMM wH := List.forall_mem_cons.mpr ⟨sp_one rfl (show f_do r_X12_in Pi_in from s_X12_in), List.forall_mem_cons.mpr ⟨sp_one rfl (show f_do r_X12_noSentence Pi_noSentence from s_X12_noSentence), no_sp⟩⟩
section
variable {p : Nat} {fs : List Value} {c : Int32} {aT : Nat} {cT : ClassId} {g0 : Nat → Int64} {how x y : Int32} {h0 : fH}
set_option maxHeartbeats 4000000 in
theorem mm_en (hp : h0 p = some (.inr (12, fs))) (hc : fs.getD 1 .null = .int c) (hl : 1 < fs.length) : wl oH T_X12_make SpMM (mm_Q ((p, fs, c), (aT, cT, g0), how, x, y) h0) K_X12_make (mm_hd ((p, fs, c), (aT, cT, g0), how, x, y) h0) 40 K_X12_make 0 (la 0 (mm_F ((p, fs, c), (aT, cT, g0), how, x, y))) [] h0 := by
  have e4 : (Int64.ofInt 4).toInt = 4 := by decide
  have e0 : (Int64.ofNat 0).toInt = 0 := by decide
  have unk : (0 ≤ how.toInt ∧ how.toInt ≤ 4) → ¬ ((0 ≤ x.toInt ∧ x.toInt < c.toInt) ∧ (how.toInt = 0 ∨ (0 ≤ y.toInt ∧ y.toInt < c.toInt))) → mmO p c how x y (some (.int (-1))) h0 := by
    intro hh hx
    refine ⟨-1, c, rfl, ⟨fs, hp, hl, hc⟩, ?_⟩
    unfold mkQ
    rw [if_pos hh, if_neg hx]
    exact ⟨rfl, rfl⟩
  intro rv h1 hx
  obtain ⟨e1, er⟩ := hx (how.toInt64, Int64.ofNat 0, Int64.ofInt 4) rfl trivial
  have e1 : h1 = h0 := e1
  subst h1
  have er : rv = some (.int (if (Int64.ofNat 0).toInt ≤ how.toInt64.toInt ∧ how.toInt64.toInt ≤ (Int64.ofInt 4).toInt then 1 else 0)) := er
  rw [e0, e4, Int32.toInt_toInt64] at er
  subst er
  refine ⟨fun h => ?_, fun h => ?_⟩
  rotate_left
  · have h : ¬ ¬ (if 0 ≤ how.toInt ∧ how.toInt ≤ 4 then (1 : Int32) else 0).toInt = 0 := h
    have hy : ¬ (0 ≤ how.toInt ∧ how.toInt ≤ 4) := fun z => h (by rw [if_pos z]; decide)
    refine ⟨-2, c, rfl, ⟨fs, hp, hl, hc⟩, ?_⟩
    unfold mkQ
    rw [if_neg hy]
    exact ⟨rfl, rfl⟩
  have h : ¬ (if 0 ≤ how.toInt ∧ how.toInt ≤ 4 then (1 : Int32) else 0).toInt = 0 := h
  have hh : 0 ≤ how.toInt ∧ how.toInt ≤ 4 := by
    by_cases z : 0 ≤ how.toInt ∧ how.toInt ≤ 4
    · exact z
    · rw [if_neg z] at h
      exact absurd rfl h
  intro rv h1 hx
  obtain ⟨e1, rfl⟩ := hx (p, fs, c, x) rfl ⟨hp, hc⟩
  have e1 : h1 = h0 := e1
  subst h1
  refine ⟨fun h => ?_, fun h => ?_⟩
  · have h : ¬ (if 0 ≤ x.toInt ∧ x.toInt < c.toInt then (0 : Int32) else 1).toInt = 0 := h
    exact unk hh (fun z => h (by rw [if_pos z.1]; decide))
  have h : ¬ ¬ (if 0 ≤ x.toInt ∧ x.toInt < c.toInt then (0 : Int32) else 1).toInt = 0 := h
  have hx : 0 ≤ x.toInt ∧ x.toInt < c.toInt := by
    by_cases z : 0 ≤ x.toInt ∧ x.toInt < c.toInt
    · exact z
    · rw [if_neg z] at h
      exact absurd (by decide) h
  refine ⟨fun h => ?_, fun h => ?_⟩
  · have h : how.toInt ≤ 0 := h
    exact ⟨⟨rfl, rfl, rfl, rfl, trivial⟩, rfl, rfl, hh, hx, Or.inl (show how.toInt = 0 by omega)⟩
  have hn : ¬ how.toInt ≤ 0 := h
  intro rv h1 hx2
  obtain ⟨e1, rfl⟩ := hx2 (p, fs, c, y) rfl ⟨hp, hc⟩
  have e1 : h1 = h0 := e1
  subst h1
  refine ⟨fun h => ?_, fun h => ?_⟩
  · have h : (if 0 ≤ y.toInt ∧ y.toInt < c.toInt then (0 : Int32) else 1).toInt = 0 := h
    have hy : 0 ≤ y.toInt ∧ y.toInt < c.toInt := by
      by_cases z : 0 ≤ y.toInt ∧ y.toInt < c.toInt
      · exact z
      · rw [if_neg z] at h
        exact absurd h (by decide)
    exact ⟨⟨rfl, rfl, rfl, rfl, trivial⟩, rfl, rfl, hh, hx, Or.inr hy⟩
  · have h : ¬ (if 0 ≤ y.toInt ∧ y.toInt < c.toInt then (0 : Int32) else 1).toInt = 0 := h
    exact unk hh (fun z => z.2.elim (fun e => by omega) (fun z => h (by rw [if_pos z]; decide)))
set_option maxHeartbeats 4000000 in
theorem mm_h37 (hp : h0 p = some (.inr (12, fs))) (hc : fs.getD 1 .null = .int c) (hl : 1 < fs.length) (hT : h0 aT = some (.inl (cT, 240, .inr (.inl g0)))) (hc60 : 0 ≤ c.toInt ∧ c.toInt ≤ 60) : ∀ (lg : fL_) (vs : List Value) (w : fH), in_q37 p c how x y h0 lg vs w → ∃ (L : fL_) (f : Nat), f_sub L lg ∧ wh oH T_X12_make SpMM (mm_Q ((p, fs, c), (aT, cT, g0), how, x, y) h0) K_X12_make (mm_hd ((p, fs, c), (aT, cT, g0), how, x, y) h0) f 37 L vs w := by
  rintro lg vs w ⟨hs, rfl, ew, hh, hab⟩
  have ew : w = h0 := ew
  subst w
  have e60 : (Int32.ofInt 60).toInt = 60 := by decide
  have g1 : eG fl_X12 149 (h0 p) = .int c := by
    rw [hp, ← hc]
    rfl
  refine ⟨_, 40, hs, fun h => ?_, fun h => ?_⟩
  · have h : ¬ (iv (eG fl_X12 149 (h0 p))).toInt = (Int32.ofInt 60).toInt := h
    rw [g1, e60] at h
    have h : ¬ c.toInt = 60 := h
    exact ⟨0, g0, ⟨rfl, rfl, rfl, rfl, rfl, trivial⟩, rfl, (hset_self hT).symm, hh, hab, (show c.toInt < 60 by omega)⟩
  · have h : ¬ ¬ (iv (eG fl_X12 149 (h0 p))).toInt = (Int32.ofInt 60).toInt := h
    rw [g1, e60] at h
    have h : ¬ ¬ c.toInt = 60 := h
    refine ⟨-4, c, rfl, ⟨fs, hp, hl, hc⟩, ?_⟩
    unfold mkQ
    rw [if_pos hh, if_pos hab, if_pos (by omega)]
    exact ⟨rfl, rfl⟩
set_option maxHeartbeats 4000000 in
theorem mm_h52 (hp : h0 p = some (.inr (12, fs))) (hc : fs.getD 1 .null = .int c) (hl : 1 < fs.length) (h2 : fs.getD 2 .null = .ref aT) (hT : h0 aT = some (.inl (cT, 240, .inr (.inl g0)))) : ∀ (lg : fL_) (vs : List Value) (w : fH), in_q52 p c aT cT how x y h0 lg vs w → ∃ (L : fL_) (f : Nat), f_sub L lg ∧ wh oH T_X12_make SpMM (mm_Q ((p, fs, c), (aT, cT, g0), how, x, y) h0) K_X12_make (mm_hd ((p, fs, c), (aT, cT, g0), how, x, y) h0) f 52 L vs w := by
  rintro lg vs w ⟨t, g, hs, rfl, ew, hh, hab, hf⟩
  have ew : w = hset h0 aT (.inl (cT, 240, .inr (.inl g))) := ew
  have hab : (0 ≤ x.toInt ∧ x.toInt < c.toInt) ∧ (how.toInt = 0 ∨ (0 ≤ y.toInt ∧ y.toInt < c.toInt)) := hab
  have hf : c.toInt < 60 := hf
  have hne : p ≠ aT := Ne.symm (ne_of_h hp hT)
  have wp : w p = some (.inr (12, fs)) := by rw [ew, hset_ne hne, hp]
  have g1 : eG fl_X12 149 (w p) = .int c := by
    rw [wp, ← hc]
    rfl
  have g2 : eG fl_X12 7 (w p) = .ref aT := by
    rw [wp, ← h2]
    rfl
  refine ⟨_, 80, hs, fun hx => ?_, fun hx => ?_⟩
  · have es : sG pl_X12 149 (.int (iv (eG fl_X12 149 (w p)) + 1)) (w p) = .inr (12, fs.set 1 (.int (c + 1))) := by
      rw [g1, wp]
      rfl
    show mmO p c how x y (some (.int (iv (eG fl_X12 149 (hset w p (sG pl_X12 149 (.int (iv (eG fl_X12 149 (w p)) + 1)) (w p)) p)) - 1))) (hset w p (sG pl_X12 149 (.int (iv (eG fl_X12 149 (w p)) + 1)) (w p)))
    rw [es, hset_at]
    have gv : (fs.set 1 (.int (c + 1))).getD 1 .null = .int (c + 1) := by
      rw [List.getD_eq_getElem?_getD, List.getElem?_set_self hl]
      rfl
    have ev : eG fl_X12 149 (some (.inr (12, fs.set 1 (.int (c + 1))))) = .int (c + 1) := gv
    rw [ev]
    refine ⟨c, c + 1, ?_, ⟨fs.set 1 (.int (c + 1)), hset_at, by rw [List.length_set]; exact hl, gv⟩, ?_⟩
    · show some (Value.int (c + 1 - 1)) = some (.int c)
      rw [Int32.add_sub_cancel]
    · unfold mkQ
      rw [if_pos hh, if_pos hab, if_neg (by omega)]
      exact ⟨rfl, rfl⟩
  · repeat' (first | exact ⟨t + 1, _, ⟨rfl, rfl, rfl, rfl, rfl, trivial⟩, rfl, tJ_put ew g2, hh, hab, hf⟩ | refine ⟨fun _ => ?_, fun _ => ?_⟩)
end
theorem s_X12_make : f_do r_X12_make (fun As h rv h' => ∀ a : mmA, As = mm_F a → mm_P a h → mm_Q a h rv h') := by
  refine do_ofP mm_F mm_P mm_Q SpMM mm_hd 40 fo_X12 SpMM_ok k_X12_make (fun a h0 hp => ?_) (fun a h0 hp => ?_)
  · obtain ⟨⟨p, fs, c⟩, ⟨aT, cT, g0⟩, how, x, y⟩ := a
    obtain ⟨hp, ⟨hc, h2, hl⟩, hT, hc60⟩ := hp
    exact List.forall_mem_cons.mpr ⟨mm_h37 hp hc hl hT hc60, List.forall_mem_cons.mpr ⟨mm_h52 hp hc hl h2 hT, fun _ h => absurd h List.not_mem_nil⟩⟩
  · obtain ⟨⟨p, fs, c⟩, ⟨aT, cT, g0⟩, how, x, y⟩ := a
    obtain ⟨hp, ⟨hc, h2, hl⟩, hT, hc60⟩ := hp
    exact mm_en hp hc hl
end
section
/-! the two's counts of sentences agree -/
def j2 (B : Nat → Nat) (w : lW) : Prop := ∃ c : Int32, oF B 0 11 1 (.int c) w ∧ oF B 343 12 1 (.int c) w
def J2 (B : Nat → Nat) : lW → Prop := fun w => J48 B w ∧ j2 B w
section
variable {B : Nat → Nat} {rt : Nat} {Wr : List (Nat × Nat)} {T : fT} {cc : ByteArray} {As : List Value} {w w' : lW} {rv : Option Value}
theorem kp2 (h : fLr (fq cw_TT cw_SG rt Wr T cc) As w rv w') (hb : bI B w) (hJ : j2 B w) (hw : (11, 1) ∉ Wr ∧ (17, 1) ∉ Wr) : j2 B w' := by
  obtain ⟨c, h1, h2⟩ := hJ
  exact ⟨c, h1.keep hb h bl_0 bt_0 hw.1, h2.keep hb h bl_343 bt_343 hw.2⟩
theorem fr2 (h : fLr (fq cw_TT cw_SG rt Wr T cc) As w rv w') (hJ : J2 B w) (hk : bs_K.all (fun x => !(Wr.contains x)) = true) (hw : (20, 0) ∉ Wr ∧ (22, 0) ∉ Wr ∧ (23, 0) ∉ Wr ∧ (82, 0) ∉ Wr ∧ (83, 0) ∉ Wr ∧ (84, 0) ∉ Wr) (hw2 : (11, 1) ∉ Wr ∧ (17, 1) ∉ Wr) : J2 B w' :=
  ⟨fr48 h hJ.1 hk hw, kp2 h ⟨hJ.1.1, hJ.1.2.1⟩ hJ.2 hw2⟩
theorem rng_0 (hb : bI B w) {tys : List (ClassId × FieldType)} (hw : ck_wo tys cw_TT cw_SG w.1 w.2) {c : Int32} (hc : oF B 0 11 1 (.int c) w) : 0 ≤ c.toInt ∧ c.toInt ≤ 60 := by
  obtain ⟨e, h1, h2, -⟩ := hb.2.h hb.1 bl_0
  obtain ⟨td, d1, d2⟩ := hw.2.1 0 _ e 11 h1 (hb.2.1 0 11 bt_0)
  obtain ⟨fs, hp, hl, hv⟩ := hc
  rw [hp] at h2
  have h2 : .inr (11, fs) = e := Option.some.inj h2
  subst h2
  have e1 : td = _ := Option.some.inj (d1.symm.trans (show cw_TT[11]? = some (0, 11, _, _) from rfl))
  subst e1
  obtain ⟨vs, ev, -, hf⟩ := d2
  have ev : fs = vs := congrArg Prod.snd (Sum.inr.inj ev)
  subst ev
  obtain ⟨v, g1, g2⟩ := hf 1 (0, 0, 60, []) rfl
  obtain ⟨x, rfl, x0, x1⟩ := (show ∃ x : Int32, v = .int x ∧ (0 : Int) ≤ x.toInt ∧ x.toInt ≤ 60 from g2)
  rw [List.getD_eq_getElem?_getD, g1] at hv
  have hv : Value.int x = .int c := hv
  injection hv with hv
  subst hv
  exact ⟨x0, x1⟩
end
theorem rdQ_eq {k lane i n c : Int32} {lo lo' di di' : Bool} {Z Z' t t' : Int} {v v2 c' c2 ft f2 : Int32} (h1 : rdQ k lane i n c lo di Z t v c' ft) (h2 : rdQ k lane i n c lo' di' Z' t' v2 c2 f2) (he : (0 ≤ k.toInt ∧ k.toInt < 4) → lo = lo' ∧ (lo = false → di = di' ∧ (di = false → Z = Z' ∧ (0 ≤ n.toInt → 0 ≤ i.toInt → i.toInt + n.toInt ≤ Z → t = t')))) : v = v2 ∧ c' = c2 ∧ ft = f2 := by
  unfold rdQ at h1 h2
  by_cases hk : 0 ≤ k.toInt ∧ k.toInt < 4
  · rw [if_pos hk] at h1 h2
    obtain ⟨rfl, he1⟩ := he hk
    by_cases hl : 0 ≤ lane.toInt ∧ lane.toInt < 3
    · rw [if_pos hl] at h1 h2
      cases lo with
      | true =>
        obtain ⟨rfl, rfl, rfl⟩ := h1
        obtain ⟨rfl, rfl, rfl⟩ := h2
        exact ⟨rfl, rfl, rfl⟩
      | false =>
        obtain ⟨rfl, he2⟩ := he1 rfl
        cases di with
        | true =>
          obtain ⟨rfl, rfl, rfl⟩ := h1
          obtain ⟨rfl, rfl, rfl⟩ := h2
          exact ⟨rfl, rfl, rfl⟩
        | false =>
          obtain ⟨rfl, ht⟩ := he2 rfl
          dsimp only at h1 h2
          by_cases hn : n.toInt < 0
          · rw [if_pos hn] at h1 h2
            obtain ⟨rfl, rfl, rfl⟩ := h1
            obtain ⟨rfl, rfl, rfl⟩ := h2
            exact ⟨rfl, rfl, rfl⟩
          · rw [if_neg hn] at h1 h2
            by_cases hi : 0 ≤ i.toInt ∧ i.toInt + n.toInt ≤ Z
            · rw [if_pos hi] at h1 h2
              obtain rfl := ht (by omega) hi.1 hi.2
              by_cases hc : c.toInt = 60
              · rw [if_pos hc] at h1 h2
                obtain ⟨rfl, rfl, rfl⟩ := h1
                obtain ⟨rfl, rfl, rfl⟩ := h2
                exact ⟨rfl, rfl, rfl⟩
              · rw [if_neg hc] at h1 h2
                by_cases h0 : 0 ≤ t
                · rw [if_pos h0] at h1 h2
                  obtain ⟨e1, rfl, rfl⟩ := h1
                  obtain ⟨e2, rfl, rfl⟩ := h2
                  exact ⟨Int32.toInt_inj.mp (e1.trans e2.symm), rfl, rfl⟩
                · rw [if_neg h0] at h1 h2
                  obtain ⟨rfl, rfl, rfl⟩ := h1
                  obtain ⟨e2, e3, rfl⟩ := h2
                  exact ⟨e2.symm, e3.symm, rfl⟩
            · rw [if_neg hi] at h1 h2
              obtain ⟨rfl, rfl, rfl⟩ := h1
              obtain ⟨rfl, rfl, rfl⟩ := h2
              exact ⟨rfl, rfl, rfl⟩
    · rw [if_neg hl] at h1 h2
      obtain ⟨rfl, rfl, rfl⟩ := h1
      obtain ⟨rfl, rfl, rfl⟩ := h2
      exact ⟨rfl, rfl, rfl⟩
  · rw [if_neg hk] at h1 h2
    obtain ⟨rfl, rfl, rfl⟩ := h1
    obtain ⟨rfl, rfl, rfl⟩ := h2
    exact ⟨rfl, rfl, rfl⟩
theorem mkQ_eq {how a b c v v2 c' c2 : Int32} (h1 : mkQ how a b c v c') (h2 : mkQ how a b c v2 c2) : v = v2 ∧ c' = c2 := by
  unfold mkQ at h1 h2
  split at h1
  · rename_i a1
    rw [if_pos a1] at h2
    split at h1
    · rename_i a2
      rw [if_pos a2] at h2
      split at h1
      · rename_i a3
        rw [if_pos a3] at h2
        exact ⟨h1.1.trans h2.1.symm, h1.2.trans h2.2.symm⟩
      · rename_i a3
        rw [if_neg a3] at h2
        exact ⟨h1.1.trans h2.1.symm, h1.2.trans h2.2.symm⟩
    · rename_i a2
      rw [if_neg a2] at h2
      exact ⟨h1.1.trans h2.1.symm, h1.2.trans h2.2.symm⟩
  · rename_i a1
    rw [if_neg a1] at h2
    exact ⟨h1.1.trans h2.1.symm, h1.2.trans h2.2.symm⟩
/-- what both hold of the sheets -/
theorem sh_of {B : Nat → Nat} {w : lW} (hJ : J48 B w) {tys : List (ClassId × FieldType)} (hw : ck_wo tys cw_TT cw_SG w.1 w.2) : ∃ (l s z y : Nat → Int32) (r : Nat → Nat → Int32) (f : Nat → Int32), aI B 340 4 l w ∧ aI B 341 4 s w ∧ (∀ i, i < 4 → aI B (336 + i) 60 (r i) w) ∧ aI B 381 4 z w ∧ aI B 382 4 y w ∧ aI B 383 240 f w ∧ c48 l s z y r f := by
  obtain ⟨hd, hB, hj⟩ := hJ
  obtain ⟨d, dp, dL, dS, dR, hp⟩ := dk_of hB hd hw
  obtain ⟨m, q, mp, mZ, mL, mC, mH, hm, hh⟩ := md_of hB hd hw
  have hl0 := hp.2.1.2
  rw [dL] at hl0
  have hs0 := hp.2.2.1.2
  rw [dS] at hs0
  have hz0 := hm.2.1.2
  rw [mZ] at hz0
  have hy0 := hm.2.2.1.2
  rw [mL] at hy0
  have hf0 := hm.2.2.2.1.2
  rw [mC] at hf0
  have hr0 : ∀ i, i < 4 → hof w.1 (B (336 + i)) = some (.inl ((d.R i).2.1, 60, .inl (d.R i).2.2)) := fun i hi => by
    rw [← dR i hi]
    exact (hp.2.2.2.2.2 i hi).2.1
  refine ⟨d.l, d.z, m.z, m.l, fun i => (d.R i).2.2, m.f, ⟨_, hl0⟩, ⟨_, hs0⟩, fun i hi => ⟨_, hr0 i hi⟩, ⟨_, hz0⟩, ⟨_, hy0⟩, ⟨_, hf0⟩, ?_⟩
  unfold j48 at hj
  rw [hl0, hs0, hz0, hy0, hf0] at hj
  refine c48.r (r := rowsB B (hof w.1)) hj (fun k j hk => ?_)
  unfold rowsB
  rw [hr0 k hk]
  rfl
theorem pk2_read {B : Nat → Nat} : ∀ (w w1 w2 : lW) (rv1 rv2 : Option Value) (k lane i n : Int32), J2 B w → fLr r_X11_read [.ref (B 0), .int k, .int lane, .int i, .int n] w rv1 w1 → fLr r_X12_read [.ref (B 343), .int k, .int lane, .int i, .int n] w1 rv2 w2 → rv1 = rv2 ∧ J2 B w2 := by
  intro w w1 w2 rv1 rv2 k lane i n hJ h1 h2
  obtain ⟨hJ, c, hc, hm⟩ := hJ
  have hb : bI B w := ⟨hJ.1, hJ.2.1⟩
  have hJ1 := fr48 h1 hJ (by decide) (by decide)
  have hJ2 := fr48 h2 hJ1 (by decide) (by decide)
  have hb1 : bI B w1 := hb.keep h1 (by decide)
  have hm1 := hm.keep hb h1 bl_343 bt_343 (by decide)
  obtain ⟨tys, hw, -⟩ := h1.2.2.2.2.1
  obtain ⟨l, s, z, y, r, f, al, as, ar, az, ay, af, hj⟩ := sh_of hJ hw
  have hr := rng_0 hb hw hc
  obtain ⟨fs, hp, hlen⟩ := ln_0 hb hw
  have s1 := s_X11_read (B, c, l, s, r, k, lane, i, n) w w1 rv1 h1 ⟨⟨hb, sN.of hb hw, rI.of hb hw, hc, al, as, ar⟩, ⟨_, ⟨fs, hp, by omega, rfl⟩⟩, hr, fun k hk => (hj k hk).imp (fun z => z.1) (fun z => by rw [z.1.2.2.1]; exact ⟨z.1.2.2.2.1, z.1.2.2.2.2⟩)⟩
  have s2 := s_X12_read (B, c, y, z, f, k, lane, i, n) w1 w2 rv2 h2 ⟨⟨hb1, hm1, az.keep hb h1 bl_381 bt_381 (by decide) (by decide), ay.keep hb h1 bl_382 bt_382 (by decide) (by decide), af.keep hb h1 bl_383 bt_383 (by decide) (by decide)⟩, hr, fun k hk => by rcases hj k hk with z | z <;> omega⟩
  obtain ⟨v1, c1, f1, rfl, a1, b1, q1⟩ := s1
  obtain ⟨v2, c2, f2, rfl, a2, b2, q2⟩ := s2
  obtain ⟨rfl, rfl, -⟩ := rdQ_eq q1 q2 (fun hk => by
    rcases hj k.toInt.toNat (by omega) with ⟨z1, z2⟩ | ⟨⟨z1, z2, z3, z4, z5⟩, z6⟩
    · rw [decide_eq_true z1, decide_eq_true z2]
      exact ⟨rfl, fun e => by cases e⟩
    · rw [decide_eq_false (show ¬ (l k.toInt.toNat).toInt = -1 by omega), decide_eq_false (show ¬ (z k.toInt.toNat).toInt < 0 by omega), z2, z3]
      refine ⟨rfl, fun _ => ⟨rfl, fun _ => ⟨rfl, fun n0 i0 hin => ?_⟩⟩⟩
      refine acA_eq (fun x hx0 hx => ?_)
      show r k.toInt.toNat (i.toInt.toNat + x) = f (60 * k.toInt.toNat + i.toInt.toNat + x)
      rw [z6 _ (by omega), Nat.add_assoc])
  exact ⟨rfl, hJ2, c1, a1.keep hb1 h2 bl_0 bt_0 (by decide), a2⟩
theorem pk2_make {B : Nat → Nat} : ∀ (w w1 w2 : lW) (rv1 rv2 : Option Value) (how a b : Int32), J2 B w → fLr r_X11_make [.ref (B 0), .int how, .int a, .int b] w rv1 w1 → fLr r_X12_make [.ref (B 343), .int how, .int a, .int b] w1 rv2 w2 → rv1 = rv2 ∧ J2 B w2 := by
  intro w w1 w2 rv1 rv2 how a b hJ h1 h2
  obtain ⟨hJ, c, hc, hm⟩ := hJ
  have hb : bI B w := ⟨hJ.1, hJ.2.1⟩
  have hJ1 := fr48 h1 hJ (by decide) (by decide)
  have hJ2 := fr48 h2 hJ1 (by decide) (by decide)
  have hb1 : bI B w1 := hb.keep h1 (by decide)
  have hm1 := hm.keep hb h1 bl_343 bt_343 (by decide)
  obtain ⟨tys, hw, -⟩ := h1.2.2.2.2.1
  obtain ⟨tys1, hw1, -⟩ := h2.2.2.2.2.1
  have hr := rng_0 hb hw hc
  have s1 := s_X11_make (B, c, how, a, b) w w1 rv1 h1 ⟨⟨hb, sN.of hb hw, hc⟩, hr⟩
  obtain ⟨fs, hp, hl, hv⟩ := id hm1
  obtain ⟨fs2, hp2, -, hT⟩ := hm1.ref hb1 bl_343 (show _ = some (2, 0, 344) from rfl) (k' := 2)
  have e : fs = fs2 := congrArg Prod.snd (Sum.inr.inj (Option.some.inj (hp.symm.trans hp2)))
  subst e
  obtain ⟨e0, t1, t2, -⟩ := hb1.2.h hb1.1 bl_344
  obtain ⟨td, d1, d2⟩ := hw1.2.1 344 _ e0 45 t1 (hb1.2.1 344 45 bt_344)
  have e1 : td = _ := Option.some.inj (d1.symm.trans (show cw_TT[45]? = some (2, 240, _, _) from rfl))
  subst e1
  obtain ⟨cT, g, -, rfl⟩ := d2
  obtain ⟨v2, c2, rfl, ⟨fs', p1, p2, p3⟩, q2⟩ := (s_X12_make _ _ _ _ _ _ h2).2 ((B 343, fs, c), (B 344, cT, g), how, a, b) rfl ⟨hp, ⟨hv, hT, hl⟩, t2, hr⟩
  obtain ⟨v1, c1, rfl, a1, q1⟩ := s1
  obtain ⟨rfl, rfl⟩ := mkQ_eq q1 q2
  exact ⟨rfl, hJ2, c1, a1.keep hb1 h2 bl_0 bt_0 (by decide), ⟨fs', p1, p2, p3⟩⟩
end
section
/-! claim -/
theorem bl_282 : lp_L2[282]? = some (0, 3, 17, [(1, 0, 0), (1, 0, 0), (2, 0, 283), (2, 0, 284), (2, 0, 285), (2, 0, 286), (2, 0, 287), (2, 0, 289), (2, 0, 291), (2, 0, 293), (2, 0, 294), (2, 0, 319), (2, 0, 320), (2, 0, 322), (2, 0, 323), (1, (-1), 0), (1, (-1), 0)]) := lp_at_ok (by decide +kernel)
theorem bt_282 : lp_sh[282]? = some 15 := by decide +kernel
theorem bl_283 : lp_L2[283]? = some (1, 0, 12, []) := lp_at_ok (by decide +kernel)
theorem bt_283 : lp_sh[283]? = some 34 := by decide +kernel
theorem bl_284 : lp_L2[284]? = some (1, 0, 12, []) := lp_at_ok (by decide +kernel)
theorem bt_284 : lp_sh[284]? = some 38 := by decide +kernel
theorem cR_sI {B : Nat → Nat} {c : mk_C} {e : va_E} (h : cR B c e) (h0 : c.1 ≠ 0) (hr : ∀ k r : Nat, c.2.2.2[k]? ≠ some (2, 0, r)) {i : Nat} {v : Int32} : cR B c (sI i v (some e)) := by
  cases e with
  | inr o => exact absurd h.1 h0
  | inl x =>
    obtain ⟨cA, n, a⟩ := x
    unfold sI
    split
    · exact ⟨h0, fun k r hk => absurd hk (hr k r)⟩
    · rename_i e' _ he'
      have he' : (Sum.inl (cA, n, a) : va_E) = e' := Option.some.inj he'
      subst he'
      exact ⟨h0, fun k r hk => absurd hk (hr k r)⟩
    · rename_i he'
      cases he'
/-- a number written into an array of ints that is there for good -/
theorem bI.wI {B : Nat → Nat} {w : lW} (hI : bI B w) {p : Nat} {c : mk_C} (hc : lp_L2[p]? = some c) (h0 : c.1 ≠ 0) (hr : ∀ k r : Nat, c.2.2.2[k]? ≠ some (2, 0, r)) {E : Value} (hE : E = .ref (B p)) {q : Nat} {e0 : va_E} (hq : w.1[q]? = some (rv_ E, e0)) {i : Nat} {v : Int32} : bI B (w.1.set q (rv_ E, sI i v (hof w.1 (rv_ E))), w.2) ∧ hof (w.1.set q (rv_ E, sI i v (hof w.1 (rv_ E)))) = hset (hof w.1) (B p) (sI i v (hof w.1 (rv_ E))) := by
  subst hE
  have hq : w.1[q]? = some (B p, e0) := hq
  obtain ⟨e, h1, h2, h3⟩ := hI.2.h hI.1 hc
  have he : cR B c (sI i v (hof w.1 (B p))) := by
    rw [h2]
    exact cR_sI h3 h0 hr
  exact hI.set hc hq he
theorem s_X11_isSource : f_do r_X11_isSource (fun As h rv h' => ∀ k : Int32, As = [.int k] → True → h' = h ∧ rv = some (.int (if 0 ≤ k.toInt ∧ k.toInt < 6 then 1 else 0))) := by
  refine do_ofP (fun k : Int32 => [.int k]) (fun _ _ => True) (fun k h rv h' => h' = h ∧ rv = some (.int (if 0 ≤ k.toInt ∧ k.toInt < 6 then 1 else 0))) [] (fun _ _ => []) 40 fo_X11 no_sp k_X11_isSource (fun _ _ _ => no_hd) (fun k h0 _ => ?_)
  have e6 : (Int32.ofInt 6).toInt = 6 := by decide
  have no : ¬ (0 ≤ k.toInt ∧ k.toInt < 6) → h0 = h0 ∧ some (Value.int 0) = some (.int (if 0 ≤ k.toInt ∧ k.toInt < 6 then 1 else 0)) := fun h => by
    rw [if_neg h]
    exact ⟨rfl, rfl⟩
  refine ⟨fun h1 => ?_, fun h1 => ⟨fun h2 => ?_, fun h2 => ?_⟩⟩
  · have h1 : k.toInt < 0 := h1
    exact no (by omega)
  · have h2 : (Int32.ofInt 6).toInt ≤ k.toInt := h2
    exact no (by omega)
  · have h1 : ¬ k.toInt < 0 := h1
    have h2 : ¬ (Int32.ofInt 6).toInt ≤ k.toInt := h2
    refine ⟨rfl, ?_⟩
    show some (Value.int 1) = some (.int (if 0 ≤ k.toInt ∧ k.toInt < 6 then 1 else 0))
    rw [if_pos (by omega)]
theorem s_X12_noSource : f_do r_X12_noSource (fun As h rv h' => ∀ k : Int32, As = [.int k] → True → h' = h ∧ rv = some (.int (if 0 ≤ k.toInt ∧ k.toInt < 6 then 0 else 1))) := by
  refine do_ofP (fun k : Int32 => [.int k]) (fun _ _ => True) (fun k h rv h' => h' = h ∧ rv = some (.int (if 0 ≤ k.toInt ∧ k.toInt < 6 then 0 else 1))) [(457, 3, _)] (fun _ _ => []) 40 fo_X12 (List.forall_mem_cons.mpr ⟨sp_one rfl s_X12_in, no_sp⟩) k_X12_noSource (fun _ _ _ => no_hd) (fun k h0 _ => ?_)
  have e0 : (Int64.ofNat 0).toInt = 0 := by decide
  have e5 : (Int64.ofInt 5).toInt = 5 := by decide
  intro rv h1 hx
  obtain ⟨e2, er⟩ := hx (k.toInt64, Int64.ofNat 0, Int64.ofInt 5) rfl trivial
  have e2 : h1 = h0 := e2
  subst h1
  have er : rv = some (.int (if (Int64.ofNat 0).toInt ≤ k.toInt64.toInt ∧ k.toInt64.toInt ≤ (Int64.ofInt 5).toInt then 1 else 0)) := er
  rw [e0, e5, Int32.toInt_toInt64] at er
  subst er
  refine ⟨fun h => ?_, fun h => ?_⟩
  · have h : ¬ (if 0 ≤ k.toInt ∧ k.toInt ≤ 5 then (1 : Int32) else 0).toInt = 0 := h
    have hy : 0 ≤ k.toInt ∧ k.toInt ≤ 5 := by
      by_cases z : 0 ≤ k.toInt ∧ k.toInt ≤ 5
      · exact z
      · rw [if_neg z] at h
        exact absurd rfl h
    refine ⟨rfl, ?_⟩
    show some (Value.int 0) = some (.int (if 0 ≤ k.toInt ∧ k.toInt < 6 then 0 else 1))
    rw [if_pos (by omega)]
  · have h : ¬ ¬ (if 0 ≤ k.toInt ∧ k.toInt ≤ 5 then (1 : Int32) else 0).toInt = 0 := h
    have hy : ¬ (0 ≤ k.toInt ∧ k.toInt ≤ 5) := fun z => h (by rw [if_pos z]; decide)
    refine ⟨rfl, ?_⟩
    show some (Value.int 1) = some (.int (if 0 ≤ k.toInt ∧ k.toInt < 6 then 0 else 1))
    rw [if_neg (by omega)]
theorem fo_X3 : f_ok5 fl_X3 pl_X3 nw_X3 kl_X3 il_X3 = true := by decide +kernel
abbrev ifA : Type := Nat × List Value × Int32 × Nat × ClassId × (Nat → Int32)
theorem s_X3_isFull : f_do r_X3_isFull (fun As h rv h' => ∀ a : ifA, As = [.ref a.1] → (h a.1 = some (.inr (3, a.2.1)) ∧ a.2.1.getD 0 .null = .int a.2.2.1 ∧ a.2.1.getD 2 .null = .ref a.2.2.2.1 ∧ h a.2.2.2.1 = some (.inl (a.2.2.2.2.1, 12, .inl a.2.2.2.2.2))) → h' = h ∧ rv = some (.int (if a.2.2.1.toInt < 12 then 0 else 1))) := by
  refine do_ofP (fun a : ifA => [.ref a.1]) (fun a h => h a.1 = some (.inr (3, a.2.1)) ∧ a.2.1.getD 0 .null = .int a.2.2.1 ∧ a.2.1.getD 2 .null = .ref a.2.2.2.1 ∧ h a.2.2.2.1 = some (.inl (a.2.2.2.2.1, 12, .inl a.2.2.2.2.2))) (fun a h rv h' => h' = h ∧ rv = some (.int (if a.2.2.1.toInt < 12 then 0 else 1))) [] (fun _ _ => []) 40 fo_X3 no_sp k_X3_isFull (fun _ _ _ => no_hd) (fun a h0 hp => ?_)
  obtain ⟨p, fs, c, aS, cA, g⟩ := a
  obtain ⟨hp, hc, hs, ha⟩ := hp
  have hp : h0 p = some (.inr (3, fs)) := hp
  have hc : fs.getD 0 .null = .int c := hc
  have hs : fs.getD 2 .null = .ref aS := hs
  have ha : h0 aS = some (.inl (cA, 12, .inl g)) := ha
  have g1 : eG fl_X3 69 (h0 p) = .int c := by
    rw [hp, ← hc]
    rfl
  have g2 : eG fl_X3 9 (h0 p) = .ref aS := by
    rw [hp, ← hs]
    rfl
  have e12 : (Int32.ofNat 12).toInt = 12 := by decide
  refine ⟨fun h => ?_, fun h => ?_⟩
  · have h : (iv (eG fl_X3 69 (h0 p))).toInt < (Int32.ofNat (eL (h0 (rv_ (eG fl_X3 9 (h0 p)))))).toInt := h
    rw [g1, g2] at h
    have h : c.toInt < (Int32.ofNat (eL (h0 aS))).toInt := h
    rw [ha] at h
    have h : c.toInt < (Int32.ofNat 12).toInt := h
    refine ⟨rfl, ?_⟩
    show some (Value.int 0) = some (.int (if c.toInt < 12 then 0 else 1))
    rw [if_pos (by omega)]
  · have h : ¬ (iv (eG fl_X3 69 (h0 p))).toInt < (Int32.ofNat (eL (h0 (rv_ (eG fl_X3 9 (h0 p)))))).toInt := h
    rw [g1, g2] at h
    have h : ¬ c.toInt < (Int32.ofNat (eL (h0 aS))).toInt := h
    rw [ha] at h
    have h : ¬ c.toInt < (Int32.ofNat 12).toInt := h
    refine ⟨rfl, ?_⟩
    show some (Value.int 1) = some (.int (if c.toInt < 12 then 0 else 1))
    rw [if_neg (by omega)]
/-- the claims' count over whole worlds -/
def qI (B : Nat → Nat) (m : Int32) (w : lW) : Prop := bI B w ∧ oF B 282 3 0 (.int m) w
theorem qI.keep {B : Nat → Nat} {m : Int32} {rt : Nat} {Wr : List (Nat × Nat)} {T : fT} {cc : ByteArray} {As : List Value} {w w' : lW} {rv : Option Value} (hI : qI B m w) (h : fLr (fq cw_TT cw_SG rt Wr T cc) As w rv w') (hk : bs_K.all (fun x => !(Wr.contains x)) = true) (hw : (15, 0) ∉ Wr) : qI B m w' :=
  ⟨hI.1.keep h hk, hI.2.keep hI.1 h bl_282 bt_282 hw⟩
abbrev qkA : Type := (Nat → Nat) × Int32 × Int32 × Int32 × Nat
def qk_F : qkA → List Value := fun (B, _, s, source, u) => [.ref (B 282), .int s, .int source, .ref u]
def qk_P : qkA → lW → Prop := fun (B, m, _, _, _) w => qI B m w ∧ m.toInt < 12 ∧ ∃ f, aI B 283 12 f w
def qk_Q : qkA → lW → Option Value → lW → Prop := fun (B, m, _, _, _) _ rv w' => rv = some (.int m) ∧ oF B 282 3 0 (.int (m + 1)) w'
def in_q25 (B : Nat → Nat) (m s source : Int32) (u : Nat) : fL_ → List Value → lW → Prop := fun lg vs w => f_sub [(0, false, .ref (B 282)), (1, false, .int s), (2, false, .int source), (3, false, .ref u)] lg ∧ vs = [] ∧ qI B m w
def in_q59 (B : Nat → Nat) (m : Int32) : fL_ → List Value → lW → Prop := fun lg vs w => f_sub [(0, false, .ref (B 282))] lg ∧ vs = [] ∧ oF B 282 3 0 (.int (m + 1)) w
def qk_hd : qkA → lW → fI lW := fun (B, m, s, source, u) _ => [(25, in_q25 B m s source u), (35, in_q25 B m s source u), (58, in_q59 B m)]
def Sp_qk : fP lW := [(216, 2, fLr r_X1_become)]
theorem Sp_qk_ok : f_sp T_X3_keep Sp_qk wW := List.forall_mem_cons.mpr ⟨sp_w rfl (fun _ _ _ _ _ _ h => h.2.2.1), fun _ h => absurd h List.not_mem_nil⟩
section
variable {B : Nat → Nat} {m s source : Int32} {u : Nat} {w0 : lW}
theorem bR {B : Nat → Nat} {q ci k : Nat} {v : Value} {c : mk_C} {w : lW} {fl : List (Nat × Nat × Nat)} {i k2 r : Nat} (ho : oF B q ci k v w) (hI : bI B w) (hc : lp_L2[q]? = some c) (hr : c.2.2.2[k2]? = some (2, 0, r)) (hk : kfd fl i ci = k2) : eG fl i (hof w.1 (B q)) = .ref (B r) := (ho.ref hI hc hr).get hk
set_option maxHeartbeats 4000000 in
theorem qk_h25 : ∀ (lg : fL_) (vs : List Value) (w : lW), in_q25 B m s source u lg vs w → ∃ (L : fL_) (f : Nat), f_sub L lg ∧ wh oW T_X3_keep Sp_qk (qk_Q (B, m, s, source, u) w0) K_X3_keep (qk_hd (B, m, s, source, u) w0) f 25 L vs w := by
  rintro lg vs w ⟨hs, rfl, hI⟩
  refine ⟨_, 40, hs, ?_⟩
  intro q e0 hq
  obtain ⟨b1, b2⟩ := hI.1.wI bl_284 (by decide) (fun k r h => by cases h) (bR (fl := fl_X3) (i := 15) (k2 := 3) (r := 284) hI.2 hI.1 bl_282 rfl rfl) hq
  exact ⟨⟨rfl, rfl, rfl, rfl, trivial⟩, rfl, b1, hI.2.upd hI.1 bl_282 bl_284 (by decide) b2⟩
set_option maxHeartbeats 4000000 in
theorem qk_h35 : ∀ (lg : fL_) (vs : List Value) (w : lW), in_q25 B m s source u lg vs w → ∃ (L : fL_) (f : Nat), f_sub L lg ∧ wh oW T_X3_keep Sp_qk (qk_Q (B, m, s, source, u) w0) K_X3_keep (qk_hd (B, m, s, source, u) w0) f 35 L vs w := by
  rintro lg vs w ⟨hs, rfl, hI⟩
  refine ⟨_, 40, hs, ?_⟩
  intro rv w1 hx
  have hx : fLr r_X1_become _ w rv w1 := hx
  have hI1 := hI.keep hx (by decide) (by decide)
  obtain rfl : rv = none := hx.2.2.2.2.2
  intro q e0 hq
  have hq : w1.1[q]? = some (B 282, e0) := hq
  obtain ⟨-, -, b3, -⟩ := oF.put (v' := .int (m + 1)) (i := 69) (pl := pl_X3) hI1.1 hI1.2 bl_282 hq rfl (fun r h => by have h : some ((1, 0, 0) : mk_V) = some (2, 0, r) := h; cases h)
  have e1 : Value.int (iv (eG fl_X3 69 (hof w1.1 (B 282))) + 1) = .int (m + 1) := by
    rw [hI1.2.get (show kfd fl_X3 69 3 = 0 from rfl)]
    rfl
  refine ⟨⟨rfl, trivial⟩, rfl, ?_⟩
  show oF B 282 3 0 (.int (m + 1)) (w1.1.set q (B 282, sG pl_X3 69 (.int (iv (eG fl_X3 69 (hof w1.1 (B 282))) + 1)) (hof w1.1 (B 282))), w1.2)
  rw [e1]
  exact b3
theorem qk_h58 : ∀ (lg : fL_) (vs : List Value) (w : lW), in_q59 B m lg vs w → ∃ (L : fL_) (f : Nat), f_sub L lg ∧ wh oW T_X3_keep Sp_qk (qk_Q (B, m, s, source, u) w0) K_X3_keep (qk_hd (B, m, s, source, u) w0) f 58 L vs w := by
  rintro lg vs w ⟨hs, rfl, hI⟩
  refine ⟨_, 40, hs, ?_⟩
  show some (Value.int (iv (eG fl_X3 69 (hof w.1 (B 282))) - 1)) = some (.int m) ∧ oF B 282 3 0 (.int (m + 1)) w
  rw [hI.get (show kfd fl_X3 69 3 = 0 from rfl)]
  refine ⟨?_, hI⟩
  show some (Value.int (m + 1 - 1)) = some (.int m)
  rw [Int32.add_sub_cancel]
end
theorem s_X3_keep : ∀ (a : qkA) (w w' : lW) (rv : Option Value), fLr r_X3_keep (qk_F a) w rv w' → qk_P a w → qk_Q a w rv w' := by
  refine do_ofW qk_F qk_P qk_Q Sp_qk qk_hd 40 fo_X3 Sp_qk_ok k_X3_keep (fun a w0 hp => ?_) (fun a w0 hp hd0 => ?_)
  · obtain ⟨B, m, s, source, u⟩ := a
    exact List.forall_mem_cons.mpr ⟨qk_h25, List.forall_mem_cons.mpr ⟨qk_h35, List.forall_mem_cons.mpr ⟨qk_h58, fun _ h => absurd h List.not_mem_nil⟩⟩⟩
  · obtain ⟨B, m, s, source, u⟩ := a
    obtain ⟨hI, hm, f, cA, ha⟩ := hp
    have e12 : (Int32.ofNat 12).toInt = 12 := by decide
    have g1 : eG fl_X3 69 (hof w0.1 (B 282)) = .int m := hI.2.get rfl
    have g2 : eG fl_X3 9 (hof w0.1 (B 282)) = .ref (B 283) := bR hI.2 hI.1 bl_282 rfl rfl
    refine ⟨fun h => ?_, fun h => ?_⟩
    · intro q e0 hq
      obtain ⟨b1, b2⟩ := hI.1.wI bl_283 (by decide) (fun k r h => by cases h) g2 hq
      exact ⟨⟨rfl, rfl, rfl, rfl, trivial⟩, rfl, b1, hI.2.upd hI.1 bl_282 bl_283 (by decide) b2⟩
    · have h : ¬ (iv (eG fl_X3 69 (hof w0.1 (B 282)))).toInt < (Int32.ofNat (eL (hof w0.1 (rv_ (eG fl_X3 9 (hof w0.1 (B 282))))))).toInt := h
      rw [g1, g2] at h
      have h : ¬ m.toInt < (Int32.ofNat (eL (hof w0.1 (B 283)))).toInt := h
      rw [ha] at h
      have h : ¬ m.toInt < (Int32.ofNat 12).toInt := h
      omega
def clQ (s source c m v m' : Int32) : Prop :=
  if (0 ≤ s.toInt ∧ s.toInt < c.toInt) ∧ (0 ≤ source.toInt ∧ source.toInt < 6) then
    if m.toInt = 12 then v = -4 ∧ m' = m else v = m ∧ m' = m + 1
  else v = -1 ∧ m' = m
theorem clQ_eq {s source c m v v2 m1 m2 : Int32} (h1 : clQ s source c m v m1) (h2 : clQ s source c m v2 m2) : v = v2 ∧ m1 = m2 := by
  unfold clQ at h1 h2
  split at h1
  · rename_i a1
    rw [if_pos a1] at h2
    split at h1
    · rename_i a2
      rw [if_pos a2] at h2
      exact ⟨h1.1.trans h2.1.symm, h1.2.trans h2.2.symm⟩
    · rename_i a2
      rw [if_neg a2] at h2
      exact ⟨h1.1.trans h2.1.symm, h1.2.trans h2.2.symm⟩
  · rename_i a1
    rw [if_neg a1] at h2
    exact ⟨h1.1.trans h2.1.symm, h1.2.trans h2.2.symm⟩
abbrev qcA : Type := (Nat → Nat) × Int32 × Int32 × Int32 × Int32
def qc_F : qcA → List Value := fun (B, _, _, s, source) => [.ref (B 0), .int s, .int source]
def qc_P : qcA → lW → Prop := fun (B, c, m, _, _) w => nS B c w ∧ qI B m w ∧ (0 ≤ c.toInt ∧ c.toInt ≤ 60) ∧ m.toInt ≤ 12 ∧ ∃ f, aI B 283 12 f w
def qcO (B : Nat → Nat) (c m s source : Int32) (rv : Option Value) (w' : lW) : Prop := ∃ v m' : Int32, rv = some (.int v) ∧ oF B 282 3 0 (.int m') w' ∧ clQ s source c m v m'
def qc_Q : qcA → lW → Option Value → lW → Prop := fun (B, c, m, s, source) _ rv w' => qcO B c m s source rv w'
def Sp_qc : fP lW := [(381, 2, fLr r_X11_sentenceAt), (487, 1, fLr r_X11_isSource), (1041, 1, fLr r_X3_isFull), (1044, 4, fLr r_X3_keep)]
theorem Sp_qc_ok : f_sp T_X11_claim Sp_qc wW := List.forall_mem_cons.mpr ⟨sp_w rfl (fun _ _ _ _ _ _ h => h.2.2.1), List.forall_mem_cons.mpr ⟨sp_w rfl (fun _ _ _ _ _ _ h => h.2.2.1), List.forall_mem_cons.mpr ⟨sp_w rfl (fun _ _ _ _ _ _ h => h.2.2.1), List.forall_mem_cons.mpr ⟨sp_w rfl (fun _ _ _ _ _ _ h => h.2.2.1), fun _ h => absurd h List.not_mem_nil⟩⟩⟩⟩
set_option maxHeartbeats 4000000 in
theorem s_X11_claim : ∀ (a : qcA) (w w' : lW) (rv : Option Value), fLr r_X11_claim (qc_F a) w rv w' → qc_P a w → qc_Q a w rv w' := by
  refine do_ofW qc_F qc_P qc_Q Sp_qc (fun _ _ => []) 60 fo_X11 Sp_qc_ok k_X11_claim (fun _ _ _ => no_hd) (fun a w0 hp hd0 => ?_)
  obtain ⟨B, c, m, s, source⟩ := a
  obtain ⟨hn, hI, hc60, hm, f, ha⟩ := hp
  have unk : ∀ {w : lW}, qI B m w → ¬ ((0 ≤ s.toInt ∧ s.toInt < c.toInt) ∧ (0 ≤ source.toInt ∧ source.toInt < 6)) → qcO B c m s source (some (.int (-1))) w := by
    intro w hI hx
    refine ⟨-1, m, rfl, hI.2, ?_⟩
    unfold clQ
    rw [if_neg hx]
    exact ⟨rfl, rfl⟩
  intro rv w1 hx
  have hx : fLr r_X11_sentenceAt [.ref (B 0), .int s] w0 rv w1 := hx
  obtain ⟨rfl, hn1⟩ := cl_at hn hc60.2 hx
  have hI1 := hI.keep hx (by decide) (by decide)
  have ha1 := ha.keep hI.1 hx bl_283 bt_283 (by decide) (by decide)
  refine ⟨fun h1 => ?_, fun h1 => ?_⟩
  · have h1 : at_ B c s = .null := h1
    exact unk hI1 (fun z => at_nul.mp h1 z.1)
  have h1 : ¬ at_ B c s = .null := h1
  have hs : 0 ≤ s.toInt ∧ s.toInt < c.toInt := Classical.byContradiction fun z => h1 (at_nul.mpr z)
  intro rv w2 hx2
  have hx2 : fLr r_X11_isSource [.int source] w1 rv w2 := hx2
  have hI2 := hI1.keep hx2 (by decide) (by decide)
  have ha2 := ha1.keep hI1.1 hx2 bl_283 bt_283 (by decide) (by decide)
  have hn2 := hn1.keep hx2 (by decide) (by decide)
  obtain ⟨-, rfl⟩ := (s_X11_isSource _ _ _ _ _ _ hx2).2 source rfl trivial
  refine ⟨fun h2 => ?_, fun h2 => ?_⟩
  rotate_left
  · have h2 : ¬ ¬ (if 0 ≤ source.toInt ∧ source.toInt < 6 then (1 : Int32) else 0).toInt = 0 := h2
    exact unk hI2 (fun z => h2 (by rw [if_pos z.2]; decide))
  have h2 : ¬ (if 0 ≤ source.toInt ∧ source.toInt < 6 then (1 : Int32) else 0).toInt = 0 := h2
  have h6 : 0 ≤ source.toInt ∧ source.toInt < 6 := by
    by_cases z : 0 ≤ source.toInt ∧ source.toInt < 6
    · exact z
    · rw [if_neg z] at h2
      exact absurd rfl h2
  have g1 : eG fl_X11 55 (hof w2.1 (B 0)) = .ref (B 282) := bR hn2.2.2 hn2.1 bl_0 rfl rfl
  intro rv w3 hx3
  have hx3 : fLr r_X3_isFull [eG fl_X11 55 (hof w2.1 (B 0))] w2 rv w3 := hx3
  rw [g1] at hx3
  have hI3 := hI2.keep hx3 (by decide) (by decide)
  have ha3 := ha2.keep hI2.1 hx3 bl_283 bt_283 (by decide) (by decide)
  have hn3 := hn2.keep hx3 (by decide) (by decide)
  obtain ⟨fs, hp, hl, hv⟩ := id hI2.2
  obtain ⟨fs2, hp2, -, hs2⟩ := hI2.2.ref hI2.1 bl_282 (show _ = some (2, 0, 283) from rfl) (k' := 2)
  have e : fs = fs2 := congrArg Prod.snd (Sum.inr.inj (Option.some.inj (hp.symm.trans hp2)))
  subst e
  obtain ⟨cA, ha2'⟩ := ha2
  obtain ⟨-, er⟩ := (s_X3_isFull _ _ _ _ _ _ hx3).2 (B 282, fs, m, B 283, cA, f) rfl ⟨hp, hv, hs2, ha2'⟩
  have er : rv = some (.int (if m.toInt < 12 then 0 else 1)) := er
  subst er
  refine ⟨fun h3 => ?_, fun h3 => ?_⟩
  rotate_left
  · have h3 : ¬ (if m.toInt < 12 then (0 : Int32) else 1).toInt = 0 := h3
    have hm2 : ¬ m.toInt < 12 := fun z => h3 (by rw [if_pos z]; decide)
    refine ⟨-4, m, rfl, hI3.2, ?_⟩
    unfold clQ
    rw [if_pos ⟨hs, h6⟩, if_pos (by omega)]
    exact ⟨rfl, rfl⟩
  have h3 : (if m.toInt < 12 then (0 : Int32) else 1).toInt = 0 := h3
  have hm2 : m.toInt < 12 := by
    by_cases z : m.toInt < 12
    · exact z
    · rw [if_neg z] at h3
      exact absurd h3 (by decide)
  have g3 : eG fl_X11 55 (hof w3.1 (B 0)) = .ref (B 282) := bR hn3.2.2 hn3.1 bl_0 rfl rfl
  intro rv w4 hx4
  have hx4 : fLr r_X3_keep [eG fl_X11 55 (hof w3.1 (B 0)), .int s, .int source, at_ B c s] w3 rv w4 := hx4
  rw [g3, at_ref hs] at hx4
  obtain ⟨rfl, b1⟩ := s_X3_keep (B, m, s, source, B (2 + 2 * s.toInt.toNat)) w3 w4 rv hx4 ⟨hI3, hm2, f, ha3⟩
  refine ⟨m, m + 1, rfl, b1, ?_⟩
  unfold clQ
  rw [if_pos ⟨hs, h6⟩, if_neg (by omega)]
  exact ⟨rfl, rfl⟩
/-! claim: the reference's -/
abbrev qmA : Type := (Nat × List Value × Int32 × Int32) × (Nat × Nat) × Int32 × Int32
def qm_F : qmA → List Value := fun ((p, _, _, _), _, s, source) => [.ref p, .int s, .int source]
def qm_P : qmA → fH → Prop := fun ((p, fs, c, m), (a1, a2), _, _) h => h p = some (.inr (12, fs)) ∧ (fs.getD 1 .null = .int c ∧ fs.getD 40 .null = .int m ∧ fs.getD 41 .null = .ref a1 ∧ fs.getD 42 .null = .ref a2 ∧ fs.length = 68) ∧ p ≠ a1 ∧ p ≠ a2
def qmO (p : Nat) (c m s source : Int32) (rv : Option Value) (h' : fH) : Prop := ∃ v m' : Int32, rv = some (.int v) ∧ (∃ fs' : List Value, h' p = some (.inr (12, fs')) ∧ 40 < fs'.length ∧ fs'.getD 40 .null = .int m') ∧ clQ s source c m v m'
def qm_Q : qmA → fH → Option Value → fH → Prop := fun ((p, _, c, m), _, s, source) _ rv h' => qmO p c m s source rv h'
def qm_g (c m s source : Int32) : Prop := ((0 ≤ s.toInt ∧ s.toInt < c.toInt) ∧ (0 ≤ source.toInt ∧ source.toInt < 6)) ∧ ¬ m.toInt = 12
def in_qm (p : Nat) (fs : List Value) (c m s source : Int32) : fL_ → List Value → fH → Prop := fun lg vs w => f_sub [(0, false, .ref p), (1, false, .int s), (2, false, .int source)] lg ∧ vs = [] ∧ w p = some (.inr (12, fs)) ∧ qm_g c m s source
def qm_hd : qmA → fH → fI fH := fun ((p, fs, c, m), _, s, source) _ => [(39, in_qm p fs c m s source), (49, in_qm p fs c m s source), (59, in_qm p (fs.set 40 (.int (m + 1))) c m s source), (64, in_qm p ((fs.set 40 (.int (m + 1))).set 43 (.int 0)) c m s source)]
def Pi_noSource : fPh := fun As h rv h' => ∀ k : Int32, As = [.int k] → True → h' = h ∧ rv = some (.int (if 0 ≤ k.toInt ∧ k.toInt < 6 then 0 else 1))
def SpQM : fP fH := [(669, 2, Pi_noSentence), (727, 1, Pi_noSource)]
theorem SpQM_ok : f_sp T_X12_claim SpQM wH := List.forall_mem_cons.mpr ⟨sp_one rfl (show f_do r_X12_noSentence Pi_noSentence from s_X12_noSentence), List.forall_mem_cons.mpr ⟨sp_one rfl (show f_do r_X12_noSource Pi_noSource from s_X12_noSource), no_sp⟩⟩
section
variable {p a1 a2 : Nat} {fs : List Value} {c m s source : Int32} {h0 : fH}
set_option maxHeartbeats 4000000 in
theorem qm_en (hp : h0 p = some (.inr (12, fs))) (hc : fs.getD 1 .null = .int c) (hm : fs.getD 40 .null = .int m) (h41 : fs.getD 41 .null = .ref a1) (hl : fs.length = 68) (n1 : p ≠ a1) : wl oH T_X12_claim SpQM (qm_Q ((p, fs, c, m), (a1, a2), s, source) h0) K_X12_claim (qm_hd ((p, fs, c, m), (a1, a2), s, source) h0) 40 K_X12_claim 0 (la 0 (qm_F ((p, fs, c, m), (a1, a2), s, source))) [] h0 := by
  have e12 : (Int32.ofInt 12).toInt = 12 := by decide
  have unk : ¬ ((0 ≤ s.toInt ∧ s.toInt < c.toInt) ∧ (0 ≤ source.toInt ∧ source.toInt < 6)) → qmO p c m s source (some (.int (-1))) h0 := by
    intro hx
    refine ⟨-1, m, rfl, ⟨fs, hp, by omega, hm⟩, ?_⟩
    unfold clQ
    rw [if_neg hx]
    exact ⟨rfl, rfl⟩
  intro rv h1 hx
  obtain ⟨e1, rfl⟩ := hx (p, fs, c, s) rfl ⟨hp, hc⟩
  have e1 : h1 = h0 := e1
  subst h1
  refine ⟨fun h => ?_, fun h => ?_⟩
  · have h : ¬ (if 0 ≤ s.toInt ∧ s.toInt < c.toInt then (0 : Int32) else 1).toInt = 0 := h
    exact unk (fun z => h (by rw [if_pos z.1]; decide))
  have h : ¬ ¬ (if 0 ≤ s.toInt ∧ s.toInt < c.toInt then (0 : Int32) else 1).toInt = 0 := h
  have hs : 0 ≤ s.toInt ∧ s.toInt < c.toInt := by
    by_cases z : 0 ≤ s.toInt ∧ s.toInt < c.toInt
    · exact z
    · rw [if_neg z] at h
      exact absurd (by decide) h
  intro rv h1 hx
  obtain ⟨e1, rfl⟩ := hx source rfl trivial
  have e1 : h1 = h0 := e1
  subst h1
  refine ⟨fun h => ?_, fun h => ?_⟩
  rotate_left
  · have h : ¬ (if 0 ≤ source.toInt ∧ source.toInt < 6 then (0 : Int32) else 1).toInt = 0 := h
    exact unk (fun z => h (by rw [if_pos z.2]; decide))
  have h : (if 0 ≤ source.toInt ∧ source.toInt < 6 then (0 : Int32) else 1).toInt = 0 := h
  have h6 : 0 ≤ source.toInt ∧ source.toInt < 6 := by
    by_cases z : 0 ≤ source.toInt ∧ source.toInt < 6
    · exact z
    · rw [if_neg z] at h
      exact absurd h (by decide)
  have g1 : eG fl_X12 401 (h0 p) = .int m := by
    rw [hp, ← hm]
    rfl
  have g2 : eG fl_X12 77 (h0 p) = .ref a1 := by
    rw [hp, ← h41]
    rfl
  refine ⟨fun h => ?_, fun h => ?_⟩
  · have h : ¬ (iv (eG fl_X12 401 (h0 p))).toInt = (Int32.ofInt 12).toInt := h
    rw [g1, e12] at h
    have h : ¬ m.toInt = 12 := h
    refine ⟨⟨rfl, rfl, rfl, trivial⟩, rfl, ?_, ⟨hs, h6⟩, h⟩
    show hset h0 (rv_ (eG fl_X12 77 (h0 p))) _ p = some (.inr (12, fs))
    rw [g2]
    show hset h0 a1 _ p = some (.inr (12, fs))
    rw [hset_ne n1]
    exact hp
  · have h : ¬ ¬ (iv (eG fl_X12 401 (h0 p))).toInt = (Int32.ofInt 12).toInt := h
    rw [g1, e12] at h
    have h : ¬ ¬ m.toInt = 12 := h
    refine ⟨-4, m, rfl, ⟨fs, hp, by omega, hm⟩, ?_⟩
    unfold clQ
    rw [if_pos ⟨hs, h6⟩, if_pos (by omega)]
    exact ⟨rfl, rfl⟩
set_option maxHeartbeats 4000000 in
theorem qm_h39 (h42 : fs.getD 42 .null = .ref a2) (n2 : p ≠ a2) : ∀ (lg : fL_) (vs : List Value) (w : fH), in_qm p fs c m s source lg vs w → ∃ (L : fL_) (f : Nat), f_sub L lg ∧ wh oH T_X12_claim SpQM (qm_Q ((p, fs, c, m), (a1, a2), s, source) h0) K_X12_claim (qm_hd ((p, fs, c, m), (a1, a2), s, source) h0) f 39 L vs w := by
  rintro lg vs w ⟨hs, rfl, hw, hg⟩
  have hw : w p = some (.inr (12, fs)) := hw
  have g2 : eG fl_X12 80 (w p) = .ref a2 := by
    rw [hw, ← h42]
    rfl
  refine ⟨_, 40, hs, ⟨rfl, rfl, rfl, trivial⟩, rfl, ?_, hg⟩
  show hset w (rv_ (eG fl_X12 80 (w p))) _ p = some (.inr (12, fs))
  rw [g2]
  show hset w a2 _ p = some (.inr (12, fs))
  rw [hset_ne n2]
  exact hw
set_option maxHeartbeats 4000000 in
theorem qm_h49 (hm : fs.getD 40 .null = .int m) : ∀ (lg : fL_) (vs : List Value) (w : fH), in_qm p fs c m s source lg vs w → ∃ (L : fL_) (f : Nat), f_sub L lg ∧ wh oH T_X12_claim SpQM (qm_Q ((p, fs, c, m), (a1, a2), s, source) h0) K_X12_claim (qm_hd ((p, fs, c, m), (a1, a2), s, source) h0) f 49 L vs w := by
  rintro lg vs w ⟨hs, rfl, hw, hg⟩
  have hw : w p = some (.inr (12, fs)) := hw
  refine ⟨_, 40, hs, ⟨rfl, rfl, rfl, trivial⟩, rfl, ?_, hg⟩
  show hset w p (sG pl_X12 401 (.int (iv (eG fl_X12 401 (w p)) + 1)) (w p)) p = some (.inr (12, fs.set 40 (.int (m + 1))))
  rw [hset_at, hw]
  show some (Sum.inr (12, fs.set 40 (.int (iv (fs.getD 40 .null) + 1)))) = _
  rw [hm]
  rfl
set_option maxHeartbeats 4000000 in
theorem qm_h59 : ∀ (lg : fL_) (vs : List Value) (w : fH), in_qm p (fs.set 40 (.int (m + 1))) c m s source lg vs w → ∃ (L : fL_) (f : Nat), f_sub L lg ∧ wh oH T_X12_claim SpQM (qm_Q ((p, fs, c, m), (a1, a2), s, source) h0) K_X12_claim (qm_hd ((p, fs, c, m), (a1, a2), s, source) h0) f 59 L vs w := by
  rintro lg vs w ⟨hs, rfl, hw, hg⟩
  have hw : w p = some (.inr (12, fs.set 40 (.int (m + 1)))) := hw
  refine ⟨_, 40, hs, ⟨rfl, rfl, rfl, trivial⟩, rfl, ?_, hg⟩
  show hset w p (sG pl_X12 250 (.int (Int32.ofInt 0)) (w p)) p = some (.inr (12, (fs.set 40 (.int (m + 1))).set 43 (.int 0)))
  rw [hset_at, hw]
  rfl
set_option maxHeartbeats 4000000 in
theorem qm_h64 (hl : fs.length = 68) : ∀ (lg : fL_) (vs : List Value) (w : fH), in_qm p ((fs.set 40 (.int (m + 1))).set 43 (.int 0)) c m s source lg vs w → ∃ (L : fL_) (f : Nat), f_sub L lg ∧ wh oH T_X12_claim SpQM (qm_Q ((p, fs, c, m), (a1, a2), s, source) h0) K_X12_claim (qm_hd ((p, fs, c, m), (a1, a2), s, source) h0) f 64 L vs w := by
  rintro lg vs w ⟨hs, rfl, hw, hg⟩
  have hw : w p = some (.inr (12, (fs.set 40 (.int (m + 1))).set 43 (.int 0))) := hw
  have gv : ((fs.set 40 (.int (m + 1))).set 43 (.int 0)).getD 40 .null = .int (m + 1) := by
    rw [getD_set_ne (by decide), List.getD_eq_getElem?_getD, List.getElem?_set_self (by omega)]
    rfl
  refine ⟨_, 40, hs, ?_⟩
  show qmO p c m s source (some (.int (iv (eG fl_X12 401 (w p)) - 1))) w
  refine ⟨m, m + 1, ?_, ⟨_, hw, by rw [List.length_set, List.length_set]; omega, gv⟩, ?_⟩
  · rw [hw]
    show some (Value.int (iv (((fs.set 40 (.int (m + 1))).set 43 (.int 0)).getD 40 .null) - 1)) = some (.int m)
    rw [gv]
    show some (Value.int (m + 1 - 1)) = some (.int m)
    rw [Int32.add_sub_cancel]
  · unfold clQ
    rw [if_pos hg.1, if_neg hg.2]
    exact ⟨rfl, rfl⟩
end
theorem s_X12_claim : f_do r_X12_claim (fun As h rv h' => ∀ a : qmA, As = qm_F a → qm_P a h → qm_Q a h rv h') := by
  refine do_ofP qm_F qm_P qm_Q SpQM qm_hd 40 fo_X12 SpQM_ok k_X12_claim (fun a h0 hp => ?_) (fun a h0 hp => ?_)
  · obtain ⟨⟨p, fs, c, m⟩, ⟨a1, a2⟩, s, source⟩ := a
    obtain ⟨hp, ⟨hc, hm, h41, h42, hl⟩, n1, n2⟩ := hp
    exact List.forall_mem_cons.mpr ⟨qm_h39 h42 n2, List.forall_mem_cons.mpr ⟨qm_h49 hm, List.forall_mem_cons.mpr ⟨qm_h59, List.forall_mem_cons.mpr ⟨qm_h64 hl, fun _ h => absurd h List.not_mem_nil⟩⟩⟩⟩
  · obtain ⟨⟨p, fs, c, m⟩, ⟨a1, a2⟩, s, source⟩ := a
    obtain ⟨hp, ⟨hc, hm, h41, h42, hl⟩, n1, n2⟩ := hp
    exact qm_en hp hc hm h41 hl n1
end
section
/-! rule -/
theorem bl_207 : lp_L2[207]? = some (0, 9, 12, [(2, 0, 208), (1, 0, 0), (2, 0, 210), (2, 0, 211), (2, 0, 232), (2, 0, 253), (2, 0, 274), (2, 0, 276), (2, 0, 278), (2, 0, 280), (1, (-1), 0), (1, (-1), 0)]) := lp_at_ok (by decide +kernel)
theorem bt_207 : lp_sh[207]? = some 14 := by decide +kernel
theorem bl_210 : lp_L2[210]? = some (3, 5, 10, []) := lp_at_ok (by decide +kernel)
theorem bt_210 : lp_sh[210]? = some 30 := by decide +kernel
theorem fo_X8 : f_ok5 fl_X8 pI_X8 nw_X8 kl_X8 il_X8 = true := by decide +kernel
theorem fo_X10 : f_ok5 fl_X10 pI_X10 nw_X10 kl_X10 il_X10 = true := by decide +kernel
theorem fo_X0 : f_ok5 fl_X0 pI_X0 nw_X0 kl_X0 il_X0 = true := by decide +kernel
theorem fo_X5 : f_ok5 fl_X5 pI_X5 nw_X5 kl_X5 il_X5 = true := by decide +kernel
theorem fo_X9 : f_ok5 fl_X9 pl_X9 nw_X9 kl_X9 il_X9 = true := by decide +kernel
def P_nop : fPh := fun _ h rv h' => h' = h ∧ rv = none
theorem sp_nop {T : fT} {key na : Nat} (hT : T.2.2.2.2.2.1 key = (na, f_nop)) : (T.2.2.2.2.2.1 (key, na, P_nop).1).1 = (key, na, P_nop).2.1 ∧ ∀ (As : List Value) (w : fH) (ws : va_W) (sh : List Nat) (rv : Option Value) (ws' : va_W) (sh' : List Nat), wH w ws sh → (T.2.2.2.2.2.1 (key, na, P_nop).1).2 As ws sh rv ws' sh' → ∃ w', wH w' ws' sh' ∧ (key, na, P_nop).2.2 As w rv w' := by
  refine ⟨by show (T.2.2.2.2.2.1 key).1 = na; rw [hT], fun As w ws sh rv ws' sh' hw hx => ?_⟩
  have hx : (T.2.2.2.2.2.1 key).2 As ws sh rv ws' sh' := hx
  rw [hT] at hx
  obtain ⟨h1, h2, -⟩ := (show rv = none ∧ ws' = ws ∧ sh' = sh from hx)
  refine ⟨w, ⟨?_, ?_⟩, rfl, h1⟩
  · rw [h2]; exact hw.1
  · rw [h2]; exact hw.2
/-- the maker of a thing: its number -/
abbrev tgA : Type := Nat × Nat × List Value × Int32 × Nat
def Pi_thing : fPh := fun As h rv h' => ∀ a : tgA, As = [.ref a.1, .int a.2.2.2.1] → (h a.1 = some (.inr (a.2.1, a.2.2.1)) ∧ kpd pI_X10 7 a.2.1 = a.2.2.2.2) → h' = hset h a.1 (.inr (a.2.1, a.2.2.1.set a.2.2.2.2 (.int a.2.2.2.1))) ∧ rv = none
theorem s_X10_init : f_do r_X10_init Pi_thing := by
  refine do_ofP (fun a : tgA => [.ref a.1, .int a.2.2.2.1]) (fun a h => h a.1 = some (.inr (a.2.1, a.2.2.1)) ∧ kpd pI_X10 7 a.2.1 = a.2.2.2.2) (fun a h rv h' => h' = hset h a.1 (.inr (a.2.1, a.2.2.1.set a.2.2.2.2 (.int a.2.2.2.1))) ∧ rv = none) [(5, 1, P_nop)] (fun _ _ => []) 40 fo_X10 (List.forall_mem_cons.mpr ⟨sp_nop rfl, no_sp⟩) k_X10_init (fun _ _ _ => no_hd) (fun a h0 hp => ?_)
  obtain ⟨p, ci, fs, n, k⟩ := a
  obtain ⟨hp, hk⟩ := hp
  have hp : h0 p = some (.inr (ci, fs)) := hp
  have hk : kpd pI_X10 7 ci = k := hk
  intro rv h1 hx
  obtain ⟨e1, rfl⟩ := (show h1 = h0 ∧ rv = none from hx)
  subst h1
  show hset h0 p (sG pI_X10 7 (.int n) (h0 p)) = hset h0 p (.inr (ci, fs.set k (.int n))) ∧ (none : Option Value) = none
  rw [hp]
  refine ⟨?_, rfl⟩
  show hset h0 p (.inr (ci, fs.set (kpd pI_X10 7 ci) (.int n))) = _
  rw [hk]
/-- the maker of a rule -/
abbrev ruA : Type := (Nat × Nat × List Value × Nat) × Int32 × Int32 × Int32 × Int32 × Int32
def ru_F (a : ruA) : List Value := [.ref a.1.1, .int a.2.1, .int a.2.2.1, .int a.2.2.2.1, .int a.2.2.2.2.1, .int a.2.2.2.2.2]
def ru_ok (ci k : Nat) : Prop := kpd pI_X10 7 ci = k ∧ kpd pI_X8 7 ci ≠ k ∧ kpd pI_X8 13 ci ≠ k ∧ kpd pI_X8 16 ci ≠ k ∧ kpd pI_X8 19 ci ≠ k
def ru_P (a : ruA) (h : fH) : Prop := h a.1.1 = some (.inr (a.1.2.1, a.1.2.2.1)) ∧ ru_ok a.1.2.1 a.1.2.2.2 ∧ a.1.2.2.2 < a.1.2.2.1.length
def ru_Q (a : ruA) (h : fH) (rv : Option Value) (h' : fH) : Prop := (∃ fs' : List Value, h' = hset h a.1.1 (.inr (a.1.2.1, fs')) ∧ a.1.2.2.2 < fs'.length ∧ fs'.getD a.1.2.2.2 .null = .int a.2.1) ∧ rv = none
def Pi_rule : fPh := fun As h rv h' => ∀ a : ruA, As = ru_F a → ru_P a h → ru_Q a h rv h'
set_option maxHeartbeats 4000000 in
theorem s_X8_init : f_do r_X8_init Pi_rule := by
  refine do_ofP ru_F ru_P ru_Q [(5, 2, Pi_thing)] (fun _ _ => []) 40 fo_X8 (List.forall_mem_cons.mpr ⟨sp_one rfl s_X10_init, no_sp⟩) k_X8_init (fun _ _ _ => no_hd) (fun a h0 hp => ?_)
  obtain ⟨⟨p, ci, fs, k⟩, n, x1, x2, x3, x4⟩ := a
  obtain ⟨hp, ⟨k0, k1, k2, k3, k4⟩, hl⟩ := hp
  have hp : h0 p = some (.inr (ci, fs)) := hp
  have hl : k < fs.length := hl
  intro rv h1 hx
  obtain ⟨e1, rfl⟩ := hx (p, ci, fs, n, k) rfl ⟨hp, k0⟩
  have e1 : h1 = hset h0 p (.inr (ci, fs.set k (.int n))) := e1
  have one : ∀ (h : fH) (fs : List Value), h p = some (.inr (ci, fs)) → k < fs.length → fs.getD k .null = .int n → h = hset h0 p (.inr (ci, fs)) → ∀ (i : Nat) (x : Int32), kpd pI_X8 i ci ≠ k → ∃ fs', hset h p (sG pI_X8 i (.int x) (h p)) p = some (.inr (ci, fs')) ∧ k < fs'.length ∧ fs'.getD k .null = .int n ∧ hset h p (sG pI_X8 i (.int x) (h p)) = hset h0 p (.inr (ci, fs')) := by
    intro h fs a1 a2 a3 a4 i x hn
    refine ⟨fs.set (kpd pI_X8 i ci) (.int x), ?_, by rw [List.length_set]; exact a2, by rw [getD_set_ne hn]; exact a3, ?_⟩
    · rw [hset_at, a1]
      rfl
    · rw [a1, a4]
      exact hset_hset
  have s0 : h1 p = some (.inr (ci, fs.set k (.int n))) := by rw [e1, hset_at]
  obtain ⟨f1, a1, b1, c1, d1⟩ := one h1 (fs.set k (.int n)) s0 (by rw [List.length_set]; exact hl) (by rw [List.getD_eq_getElem?_getD, List.getElem?_set_self hl]; rfl) e1 7 x1 k1
  obtain ⟨f2, a2, b2, c2, d2⟩ := one _ f1 a1 b1 c1 d1 13 x2 k2
  obtain ⟨f3, a3, b3, c3, d3⟩ := one _ f2 a2 b2 c2 d2 16 x3 k3
  obtain ⟨f4, a4, b4, c4, d4⟩ := one _ f3 a3 b3 c3 d3 19 x4 k4
  exact ⟨⟨f4, d4, b4, c4⟩, rfl⟩
theorem s_X0_init : f_do r_X0_init Pi_rule := by
  refine do_ofP ru_F ru_P ru_Q [(5, 6, Pi_rule)] (fun _ _ => []) 40 fo_X0 (List.forall_mem_cons.mpr ⟨sp_one rfl s_X8_init, no_sp⟩) k_X0_init (fun _ _ _ => no_hd) (fun a h0 hp => ?_)
  obtain ⟨⟨p, ci, fs, k⟩, n, x1, x2, x3, x4⟩ := a
  intro rv h1 hx
  obtain ⟨e1, rfl⟩ := hx ((p, ci, fs, k), n, x1, x2, x3, x4) rfl hp
  exact ⟨e1, rfl⟩
theorem s_X5_init : f_do r_X5_init Pi_rule := by
  refine do_ofP ru_F ru_P ru_Q [(5, 6, Pi_rule)] (fun _ _ => []) 40 fo_X5 (List.forall_mem_cons.mpr ⟨sp_one rfl s_X0_init, no_sp⟩) k_X5_init (fun _ _ _ => no_hd) (fun a h0 hp => ?_)
  obtain ⟨⟨p, ci, fs, k⟩, n, x1, x2, x3, x4⟩ := a
  intro rv h1 hx
  obtain ⟨e1, rfl⟩ := hx ((p, ci, fs, k), n, x1, x2, x3, x4) rfl hp
  exact ⟨e1, rfl⟩
/-- an object that came later -/
def pF (j t p ci k : Nat) (v : Value) (w : lW) : Prop := 385 ≤ j ∧ w.2[j]? = some t ∧ ∃ fs : List Value, w.1[j]? = some (p, .inr (ci, fs)) ∧ k < fs.length ∧ fs.getD k .null = v
section
variable {B : Nat → Nat} {rt : Nat} {Wr : List (Nat × Nat)} {T : fT} {cc : ByteArray} {As : List Value} {w w' : lW} {rv : Option Value} {j t p ci k : Nat} {v : Value}
theorem pF.keep (ho : pF j t p ci k v w) (h : fLr (fq cw_TT cw_SG rt Wr T cc) As w rv w') (hw : (t, k) ∉ Wr) : pF j t p ci k v w' := by
  obtain ⟨hj, ht, fs, hp, hl, hv⟩ := ho
  have hx : ck_ex Wr w.1 w.2 w'.1 w'.2 := h.2.2.2.1
  obtain ⟨e', x1, x2⟩ := hx.2 j _ _ t hp ht
  cases e' with
  | inl _ => exact x2.elim
  | inr o' =>
    obtain ⟨y1, y2⟩ := x2
    have y1 : o'.1 = ci := y1
    have y : o'.2[k]? = fs[k]? := y2 k hw
    refine ⟨hj, hx.1 j t ht, o'.2, ?_, ?_, ?_⟩
    · rw [x1, ← y1]
    · rw [List.getElem?_eq_getElem hl] at y
      exact (List.getElem?_eq_some_iff.mp y).1
    · rw [List.getD_eq_getElem?_getD, y, ← List.getD_eq_getElem?_getD]
      exact hv
theorem pF.get (ho : pF j t p ci k v w) (hI : bI B w) {fl : List (Nat × Nat × Nat)} {i : Nat} (hk : kfd fl i ci = k) : eG fl i (hof w.1 p) = v := by
  obtain ⟨-, -, fs, hp, -, hv⟩ := ho
  rw [hof_at hI.1 hp]
  show fs.getD (kfd fl i ci) .null = v
  rw [hk, hv]
theorem pF.set (ho : pF j t p ci k v w) (hI : bI B w) {q r : Nat} {c : mk_C} {e0 e : va_E} (hc : lp_L2[r]? = some c) (hq : w.1[q]? = some (B r, e0)) : pF j t p ci k v (w.1.set q (B r, e), w.2) := by
  obtain ⟨hj, ht, fs, hp, hl, hv⟩ := ho
  obtain ⟨e1, h1, -⟩ := hI.2.2 r c hc
  have eq : q = r := hI.1 q r _ _ hq h1 rfl
  have hr : r < 385 := by
    have h := (List.getElem?_eq_some_iff.mp hc).1
    rw [show lp_L2.length = 385 by decide +kernel] at h
    exact h
  refine ⟨hj, ht, fs, ?_, hl, hv⟩
  show (w.1.set q (B r, e))[j]? = _
  rw [List.getElem?_set_ne (by omega)]
  exact hp
/-- an object comes -/
theorem bI.app (hI : bI B w) {q t : Nat} {e : va_E} (hd : f_dj (w.1 ++ [(q, e)])) : bI B (w.1 ++ [(q, e)], w.2 ++ [t]) ∧ hof (w.1 ++ [(q, e)]) = hset (hof w.1) q e ∧ ∀ (r : Nat) (c : mk_C), lp_L2[r]? = some c → B r ≠ q := by
  obtain ⟨a1, a2, -⟩ := hof_app hd
  refine ⟨⟨hd, fun r t' ht => ?_, fun r c hc => ?_⟩, a1, fun r c hc e => ?_⟩
  · have h := hI.2.1 r t' ht
    show (w.2 ++ [t])[r]? = _
    rw [List.getElem?_append_left (List.getElem?_eq_some_iff.mp h).1]
    exact h
  · obtain ⟨e1, h1, h2⟩ := hI.2.2 r c hc
    refine ⟨e1, ?_, h2⟩
    show (w.1 ++ [(q, e)])[r]? = _
    rw [List.getElem?_append_left (List.getElem?_eq_some_iff.mp h1).1]
    exact h1
  · obtain ⟨e1, h1, h2, -⟩ := hI.2.h hI.1 hc
    rw [e] at h2
    rw [a2] at h2
    cases h2
theorem oF.app {q' ci' k' : Nat} {v' : Value} {c : mk_C} (ho : oF B q' ci' k' v' w) (hc : lp_L2[q']? = some c) {q t : Nat} {e : va_E} (hh : hof (w.1 ++ [(q, e)]) = hset (hof w.1) q e) (hn : ∀ (r : Nat) (c : mk_C), lp_L2[r]? = some c → B r ≠ q) : oF B q' ci' k' v' (w.1 ++ [(q, e)], w.2 ++ [t]) := by
  obtain ⟨fs, hp, hl, hv⟩ := ho
  refine ⟨fs, ?_, hl, hv⟩
  show hof (w.1 ++ [(q, e)]) (B q') = _
  rw [hh, hset_ne (hn _ _ hc)]
  exact hp
end
theorem cR_sR {B : Nat → Nat} {c : mk_C} {e : va_E} (h : cR B c e) (h0 : c.1 ≠ 0) (hr : ∀ k r : Nat, c.2.2.2[k]? ≠ some (2, 0, r)) {i : Nat} {v : Value} : cR B c (sR i v (some e)) := by
  cases e with
  | inr o => exact absurd h.1 h0
  | inl x =>
    obtain ⟨cA, n, a⟩ := x
    unfold sR
    split
    · exact ⟨h0, fun k r hk => absurd hk (hr k r)⟩
    · rename_i e' _ he'
      have he' : (Sum.inl (cA, n, a) : va_E) = e' := Option.some.inj he'
      subst he'
      exact ⟨h0, fun k r hk => absurd hk (hr k r)⟩
    · rename_i he'
      cases he'
theorem bI.wR {B : Nat → Nat} {w : lW} (hI : bI B w) {p : Nat} {c : mk_C} (hc : lp_L2[p]? = some c) (h0 : c.1 ≠ 0) (hr : ∀ k r : Nat, c.2.2.2[k]? ≠ some (2, 0, r)) {E : Value} (hE : E = .ref (B p)) {q : Nat} {e0 : va_E} (hq : w.1[q]? = some (rv_ E, e0)) {i : Nat} {v : Value} : bI B (w.1.set q (rv_ E, sR i v (hof w.1 (rv_ E))), w.2) ∧ hof (w.1.set q (rv_ E, sR i v (hof w.1 (rv_ E)))) = hset (hof w.1) (B p) (sR i v (hof w.1 (rv_ E))) ∧ w.1[q]? = some (B p, e0) ∧ rv_ E = B p := by
  subst hE
  have hq : w.1[q]? = some (B p, e0) := hq
  obtain ⟨e, h1, h2, h3⟩ := hI.2.h hI.1 hc
  have he : cR B c (sR i v (hof w.1 (B p))) := by
    rw [h2]
    exact cR_sR h3 h0 hr
  obtain ⟨a1, a2⟩ := hI.set hc hq he
  exact ⟨a1, a2, hq, rfl⟩
/-- the rules' row -/
def tI (B : Nat → Nat) (w : lW) : Prop := ∃ (cA : ClassId) (g : Nat → Option Nat), hof w.1 (B 210) = some (.inl (cA, 10, .inr (.inr (.inr (.inr g)))))
theorem tI.of {B : Nat → Nat} {w : lW} (hI : bI B w) {tys : List (ClassId × FieldType)} (hw : ck_wo tys cw_TT cw_SG w.1 w.2) : tI B w := by
  obtain ⟨e, h1, h2, h3⟩ := hI.2.h hI.1 bl_210
  obtain ⟨td, d1, d2⟩ := hw.2.1 210 _ e 30 h1 (hI.2.1 210 30 bt_210)
  have e1 : td = (3, 10, 5, [(3, 0, 0, [8, 9, 10])]) := Option.some.inj (d1.symm.trans (show cw_TT[30]? = some (3, 10, 5, [(3, 0, 0, [8, 9, 10])]) from rfl))
  subst e1
  obtain ⟨cA, C, f, -, rfl, -⟩ := d2
  exact ⟨cA, f, h2⟩
def uI (B : Nat → Nat) (m : Int32) (w : lW) : Prop := bI B w ∧ oF B 207 9 1 (.int m) w ∧ tI B w
theorem uI.keep {B : Nat → Nat} {m : Int32} {rt : Nat} {Wr : List (Nat × Nat)} {T : fT} {cc : ByteArray} {As : List Value} {w w' : lW} {rv : Option Value} (hI : uI B m w) (h : fLr (fq cw_TT cw_SG rt Wr T cc) As w rv w') (hk : bs_K.all (fun x => !(Wr.contains x)) = true) (hw : (14, 1) ∉ Wr) : uI B m w' := by
  obtain ⟨tys, -, hw2⟩ := h.2.2.2.2.1
  have hb := hI.1.keep h hk
  exact ⟨hb, hI.2.1.keep hI.1 h bl_207 bt_207 hw, tI.of hb hw2⟩
theorem uI.full {B : Nat → Nat} {m : Int32} {w : lW} (hI : uI B m w) : (iv (eG fl_X9 59 (hof w.1 (B 207)))).toInt = m.toInt ∧ (Int32.ofNat (eL (hof w.1 (rv_ (eG fl_X9 22 (hof w.1 (B 207))))))).toInt = 10 := by
  obtain ⟨hb, hc, cA, g, h⟩ := hI
  rw [hc.get (show kfd fl_X9 59 9 = 1 from rfl), bR (fl := fl_X9) (i := 22) (k2 := 2) (r := 210) hc hb bl_207 rfl rfl]
  refine ⟨rfl, ?_⟩
  show (Int32.ofNat (eL (hof w.1 (B 210)))).toInt = 10
  rw [h]
  show (Int32.ofNat 10).toInt = 10
  decide
theorem s_X9_isFull : ∀ (a : (Nat → Nat) × Int32) (w w' : lW) (rv : Option Value), fLr r_X9_isFull [.ref (a.1 207)] w rv w' → uI a.1 a.2 w → rv = some (.int (if a.2.toInt < 10 then 0 else 1)) := by
  refine do_ofW (fun a : (Nat → Nat) × Int32 => [.ref (a.1 207)]) (fun a w => uI a.1 a.2 w) (fun a _ rv _ => rv = some (.int (if a.2.toInt < 10 then 0 else 1))) [] (fun _ _ => []) 40 fo_X9 (fun _ h => absurd h List.not_mem_nil) k_X9_isFull (fun _ _ _ => no_hd) (fun a w0 hp hd0 => ?_)
  obtain ⟨B, m⟩ := a
  have hp : uI B m w0 := hp
  obtain ⟨f1, f2⟩ := hp.full
  refine ⟨fun h => ?_, fun h => ?_⟩
  · have h : (iv (eG fl_X9 59 (hof w0.1 (B 207)))).toInt < (Int32.ofNat (eL (hof w0.1 (rv_ (eG fl_X9 22 (hof w0.1 (B 207))))))).toInt := h
    rw [f1, f2] at h
    show some (Value.int 0) = some (.int (if m.toInt < 10 then 0 else 1))
    rw [if_pos h]
  · have h : ¬ (iv (eG fl_X9 59 (hof w0.1 (B 207)))).toInt < (Int32.ofNat (eL (hof w0.1 (rv_ (eG fl_X9 22 (hof w0.1 (B 207))))))).toInt := h
    rw [f1, f2] at h
    show some (Value.int 1) = some (.int (if m.toInt < 10 then 0 else 1))
    rw [if_neg h]
abbrev ukA : Type := ((Nat → Nat) × Int32) × (Nat × Nat × Nat × Nat × Nat × Int32) × Nat × Nat × Nat
def uk_F : ukA → List Value := fun ((B, _), (_, _, p, _, _, _), u1, u2, u3) => [.ref (B 207), .ref p, .ref u1, .ref u2, .ref u3]
def uk_P : ukA → lW → Prop := fun ((B, m), (j, t, p, ci, k, n), _, _, _) w => uI B m w ∧ m.toInt < 10 ∧ pF j t p ci k (.int n) w ∧ (7 ≤ t ∧ t ≤ 10) ∧ kfd fl_X9 66 ci = k
def uk_Q : ukA → lW → Option Value → lW → Prop := fun ((B, m), (_, _, _, _, _, n), _, _, _) _ rv w' => rv = some (.int n) ∧ oF B 207 9 1 (.int (m + 1)) w'
def in_u25 (B : Nat → Nat) (m : Int32) (j t p ci k : Nat) (n : Int32) (u1 u2 u3 : Nat) : fL_ → List Value → lW → Prop := fun lg vs w => f_sub [(0, false, .ref (B 207)), (1, false, .ref p), (2, false, .ref u1), (3, false, .ref u2), (4, false, .ref u3)] lg ∧ vs = [] ∧ bI B w ∧ oF B 207 9 1 (.int m) w ∧ pF j t p ci k (.int n) w ∧ (7 ≤ t ∧ t ≤ 10) ∧ kfd fl_X9 66 ci = k
def in_u75 (B : Nat → Nat) (m : Int32) (j t p ci k : Nat) (n : Int32) : fL_ → List Value → lW → Prop := fun lg vs w => f_sub [(1, false, .ref p)] lg ∧ vs = [] ∧ bI B w ∧ oF B 207 9 1 (.int (m + 1)) w ∧ pF j t p ci k (.int n) w ∧ kfd fl_X9 66 ci = k
def uk_hd : ukA → lW → fI lW := fun ((B, m), (j, t, p, ci, k, n), u1, u2, u3) _ => [(25, in_u25 B m j t p ci k n u1 u2 u3), (75, in_u75 B m j t p ci k n)]
def Sp_uk : fP lW := [(186, 2, fLr r_X1_become)]
theorem Sp_uk_ok : f_sp T_X9_keep Sp_uk wW := List.forall_mem_cons.mpr ⟨sp_w rfl (fun _ _ _ _ _ _ h => h.2.2.1), fun _ h => absurd h List.not_mem_nil⟩
set_option maxHeartbeats 4000000 in
theorem s_X9_keep : ∀ (a : ukA) (w w' : lW) (rv : Option Value), fLr r_X9_keep (uk_F a) w rv w' → uk_P a w → uk_Q a w rv w' := by
  refine do_ofW uk_F uk_P uk_Q Sp_uk uk_hd 40 fo_X9 Sp_uk_ok k_X9_keep (fun a w0 hp => ?_) (fun a w0 hp hd0 => ?_)
  · obtain ⟨⟨B, m⟩, ⟨j, t, p, ci, k, n⟩, u1, u2, u3⟩ := a
    refine List.forall_mem_cons.mpr ⟨?_, List.forall_mem_cons.mpr ⟨?_, fun _ h => absurd h List.not_mem_nil⟩⟩
    · rintro lg vs w ⟨hs, rfl, hb, hc, hF, ht, hk⟩
      have ht : 7 ≤ t ∧ t ≤ 10 := ht
      have nB : ∀ k : Nat, (t, k) ∉ [((2 : Nat), (0 : Nat)), (6, 0), (87, 0), (89, 0), (91, 0)] := fun k h => by
        simp only [List.mem_cons, Prod.mk.injEq, List.not_mem_nil, or_false] at h
        omega
      refine ⟨_, 60, hs, ?_⟩
      intro rv w1 hx
      have hx : fLr r_X1_become _ w rv w1 := hx
      have hb1 := hb.keep hx (by decide)
      have hc1 := hc.keep hb hx bl_207 bt_207 (by decide)
      have hF1 := hF.keep hx (nB _)
      obtain rfl : rv = none := hx.2.2.2.2.2
      intro rv w2 hx2
      have hx2 : fLr r_X1_become _ w1 rv w2 := hx2
      have hb2 := hb1.keep hx2 (by decide)
      have hc2 := hc1.keep hb1 hx2 bl_207 bt_207 (by decide)
      have hF2 := hF1.keep hx2 (nB _)
      obtain rfl : rv = none := hx2.2.2.2.2.2
      intro rv w3 hx3
      have hx3 : fLr r_X1_become _ w2 rv w3 := hx3
      have hb3 := hb2.keep hx3 (by decide)
      have hc3 := hc2.keep hb2 hx3 bl_207 bt_207 (by decide)
      have hF3 := hF2.keep hx3 (nB _)
      obtain rfl : rv = none := hx3.2.2.2.2.2
      intro q e0 hq
      have hq : w3.1[q]? = some (B 207, e0) := hq
      obtain ⟨b1, -, b3, -⟩ := oF.put (v' := .int (m + 1)) (i := 59) (pl := pl_X9) hb3 hc3 bl_207 hq rfl (fun r h => by have h : some ((1, 0, 0) : mk_V) = some (2, 0, r) := h; cases h)
      have e1 : Value.int (iv (eG fl_X9 59 (hof w3.1 (B 207))) + 1) = .int (m + 1) := by
        rw [hc3.get (show kfd fl_X9 59 9 = 1 from rfl)]
        rfl
      have fin : in_u75 B m j t p ci k n [(1, false, .ref p)] [] (w3.1.set q (B 207, sG pl_X9 59 (.int (iv (eG fl_X9 59 (hof w3.1 (B 207))) + 1)) (hof w3.1 (B 207))), w3.2) := by
        rw [e1]
        exact ⟨⟨rfl, trivial⟩, rfl, b1, b3, hF3.set hb3 bl_207 hq, hk⟩
      obtain ⟨-, -, f3⟩ := fin
      exact ⟨⟨rfl, trivial⟩, rfl, f3⟩
    · rintro lg vs w ⟨hs, rfl, hb, hc, hF, hk⟩
      refine ⟨_, 40, hs, ?_⟩
      show some (eG fl_X9 66 (hof w.1 p)) = some (.int n) ∧ oF B 207 9 1 (.int (m + 1)) w
      rw [hF.get hb hk]
      exact ⟨rfl, hc⟩
  · obtain ⟨⟨B, m⟩, ⟨j, t, p, ci, k, n⟩, u1, u2, u3⟩ := a
    obtain ⟨hI, hm, hF, ht, hk⟩ := hp
    have hI : uI B m w0 := hI
    obtain ⟨f1, f2⟩ := hI.full
    refine ⟨fun h => ?_, fun h => ?_⟩
    · intro q e0 hq
      obtain ⟨b1, b2, b3, b4⟩ := hI.1.wR bl_210 (by decide) (fun k r h => by cases h) (bR (fl := fl_X9) (i := 22) (k2 := 2) (r := 210) hI.2.1 hI.1 bl_207 rfl rfl) hq
      refine ⟨⟨rfl, rfl, rfl, rfl, rfl, trivial⟩, rfl, b1, hI.2.1.upd hI.1 bl_207 bl_210 (by decide) b2, ?_, ht, hk⟩
      have h5 := hF.set hI.1 (e := sR (iv (eG fl_X9 59 (hof w0.1 (B 207)))).toNatClampNeg (.ref p) (hof w0.1 (rv_ (eG fl_X9 22 (hof w0.1 (B 207)))))) bl_210 b3
      rw [← b4] at h5
      exact h5
    · have h : ¬ (iv (eG fl_X9 59 (hof w0.1 (B 207)))).toInt < (Int32.ofNat (eL (hof w0.1 (rv_ (eG fl_X9 22 (hof w0.1 (B 207))))))).toInt := h
      rw [f1, f2] at h
      exact absurd hm h
def ruQ (kind s then_ unless_ rank c m v m' : Int32) : Prop :=
  if 0 ≤ kind.toInt ∧ kind.toInt ≤ 2 then
    if (0 ≤ s.toInt ∧ s.toInt < c.toInt) ∧ (0 ≤ then_.toInt ∧ then_.toInt < c.toInt) ∧ (0 ≤ unless_.toInt ∧ unless_.toInt < c.toInt) then
      if 0 ≤ rank.toInt ∧ rank.toInt ≤ 9 then
        if m.toInt = 10 then v = -4 ∧ m' = m else v = m ∧ m' = m + 1
      else v = -2 ∧ m' = m
    else v = -1 ∧ m' = m
  else v = -2 ∧ m' = m
theorem ruQ_eq {kind s t u rank c m v v2 m1 m2 : Int32} (h1 : ruQ kind s t u rank c m v m1) (h2 : ruQ kind s t u rank c m v2 m2) : v = v2 ∧ m1 = m2 := by
  unfold ruQ at h1 h2
  split at h1
  · rename_i a1
    rw [if_pos a1] at h2
    split at h1
    · rename_i a2
      rw [if_pos a2] at h2
      split at h1
      · rename_i a3
        rw [if_pos a3] at h2
        split at h1
        · rename_i a4
          rw [if_pos a4] at h2
          exact ⟨h1.1.trans h2.1.symm, h1.2.trans h2.2.symm⟩
        · rename_i a4
          rw [if_neg a4] at h2
          exact ⟨h1.1.trans h2.1.symm, h1.2.trans h2.2.symm⟩
      · rename_i a3
        rw [if_neg a3] at h2
        exact ⟨h1.1.trans h2.1.symm, h1.2.trans h2.2.symm⟩
    · rename_i a2
      rw [if_neg a2] at h2
      exact ⟨h1.1.trans h2.1.symm, h1.2.trans h2.2.symm⟩
  · rename_i a1
    rw [if_neg a1] at h2
    exact ⟨h1.1.trans h2.1.symm, h1.2.trans h2.2.symm⟩
end
section
/-! rule: the class's -/
/-- an object made in a call -/
theorem new_ok {B : Nat → Nat} {w w2 : lW} {q ci k t : Nat} {L fs' : List Value} {v : Value} {rt : Nat} {Wr : List (Nat × Nat)} {T : fT} {cc : ByteArray} {As : List Value} {rv : Option Value} (hI : bI B w) (hx : fLr (fq cw_TT cw_SG rt Wr T cc) As (w.1 ++ [(q, .inr (ci, L))], w.2 ++ [t]) rv w2) (hh : hof w2.1 = hset (hof (w.1 ++ [(q, .inr (ci, L))])) q (.inr (ci, fs'))) (hl : k < fs'.length) (hv : fs'.getD k .null = v) : pF w.1.length t q ci k v w2 := by
  obtain ⟨tys, hw, -⟩ := hx.2.2.2.2.1
  have hlen : (w.2 ++ [t]).length = (w.1 ++ [(q, (Sum.inr (ci, L) : va_E))]).length := hw.1
  rw [List.length_append, List.length_append] at hlen
  have hlen : w.2.length + 1 = w.1.length + 1 := hlen
  obtain ⟨e1, h1, -⟩ := hI.2.2 384 _ bl_384
  have h385 := (List.getElem?_eq_some_iff.mp h1).1
  have hx2 : ck_ex Wr (w.1 ++ [(q, (Sum.inr (ci, L) : va_E))]) (w.2 ++ [t]) w2.1 w2.2 := hx.2.2.2.1
  have g1 : (w.1 ++ [(q, (Sum.inr (ci, L) : va_E))])[w.1.length]? = some (q, .inr (ci, L)) := by
    rw [List.getElem?_append_right (Nat.le_refl _), Nat.sub_self]
    rfl
  have g2 : (w.2 ++ [t])[w.1.length]? = some t := by
    rw [List.getElem?_append_right (by omega), show w.1.length - w.2.length = 0 by omega]
    rfl
  obtain ⟨e', x1, -⟩ := hx2.2 _ _ _ _ g1 g2
  have hd : f_dj w2.1 := hx.2.2.1
  have y := hof_at hd x1
  rw [hh, hset_at] at y
  have y : .inr (ci, fs') = e' := Option.some.inj y
  subst y
  exact ⟨by omega, hx2.1 _ _ g2, fs', x1, hl, hv⟩
abbrev urA : Type := (Nat → Nat) × (Int32 × Int32) × Int32 × Int32 × Int32 × Int32 × Int32
def ur_F : urA → List Value := fun (B, _, kind, s, th, un, rank) => [.ref (B 0), .int kind, .int s, .int th, .int un, .int rank]
def ur_P : urA → lW → Prop := fun (B, (c, m), _, _, _, _, _) w => nS B c w ∧ uI B m w ∧ (0 ≤ c.toInt ∧ c.toInt ≤ 60) ∧ m.toInt ≤ 10
def urO (B : Nat → Nat) (c m kind s th un rank : Int32) (rv : Option Value) (w' : lW) : Prop := ∃ v m' : Int32, rv = some (.int v) ∧ oF B 207 9 1 (.int m') w' ∧ ruQ kind s th un rank c m v m'
def ur_Q : urA → lW → Option Value → lW → Prop := fun (B, (c, m), kind, s, th, un, rank) _ rv w' => urO B c m kind s th un rank rv w'
def in_u34 (B : Nat → Nat) (c m kind s th un rank : Int32) : fL_ → List Value → lW → Prop := fun lg vs w => f_sub [(0, false, .ref (B 0)), (1, false, .int kind), (2, false, .int s), (3, false, .int th), (4, false, .int un), (5, false, .int rank), (6, false, at_ B c s), (7, false, at_ B c th), (8, false, at_ B c un)] lg ∧ vs = [] ∧ nS B c w ∧ uI B m w ∧ 0 ≤ kind.toInt ∧ kind.toInt ≤ 2
def ur_g (c kind s th un rank m : Int32) : Prop := (0 ≤ kind.toInt ∧ kind.toInt ≤ 2) ∧ ((0 ≤ s.toInt ∧ s.toInt < c.toInt) ∧ (0 ≤ th.toInt ∧ th.toInt < c.toInt) ∧ (0 ≤ un.toInt ∧ un.toInt < c.toInt)) ∧ (0 ≤ rank.toInt ∧ rank.toInt ≤ 9) ∧ m.toInt < 10
def in_u88 (B : Nat → Nat) (c m kind s th un rank : Int32) : fL_ → List Value → lW → Prop := fun lg vs w => f_sub [(0, false, .ref (B 0)), (1, false, .int kind), (2, false, .int s), (3, false, .int th), (4, false, .int un), (5, false, .int rank), (6, false, at_ B c s), (7, false, at_ B c th), (8, false, at_ B c un), (9, false, .int m)] lg ∧ vs = [] ∧ nS B c w ∧ uI B m w ∧ ur_g c kind s th un rank m
def in_u154 (B : Nat → Nat) (c m kind s th un rank : Int32) : fL_ → List Value → lW → Prop := fun lg vs w => ∃ j t p ci k : Nat, f_sub [(0, false, .ref (B 0)), (6, false, at_ B c s), (7, false, at_ B c th), (8, false, at_ B c un), (10, false, .ref p)] lg ∧ vs = [] ∧ nS B c w ∧ uI B m w ∧ ur_g c kind s th un rank m ∧ pF j t p ci k (.int m) w ∧ (7 ≤ t ∧ t ≤ 10) ∧ kfd fl_X9 66 ci = k
def ur_hd : urA → lW → fI lW := fun (B, (c, m), kind, s, th, un, rank) _ => [(34, in_u34 B c m kind s th un rank), (88, in_u88 B c m kind s th un rank), (154, in_u154 B c m kind s th un rank)]
def Sp_ur : fP lW := [(381, 2, fLr r_X11_sentenceAt), (858, 1, fLr r_X9_isFull), (872, 6, fLr r_X8_init), (887, 6, fLr r_X0_init), (896, 6, fLr r_X5_init), (897, 5, fLr r_X9_keep)]
theorem Sp_ur_ok : f_sp T_X11_rule Sp_ur wW := List.forall_mem_cons.mpr ⟨sp_w rfl (fun _ _ _ _ _ _ h => h.2.2.1), List.forall_mem_cons.mpr ⟨sp_w rfl (fun _ _ _ _ _ _ h => h.2.2.1), List.forall_mem_cons.mpr ⟨sp_w rfl (fun _ _ _ _ _ _ h => h.2.2.1), List.forall_mem_cons.mpr ⟨sp_w rfl (fun _ _ _ _ _ _ h => h.2.2.1), List.forall_mem_cons.mpr ⟨sp_w rfl (fun _ _ _ _ _ _ h => h.2.2.1), List.forall_mem_cons.mpr ⟨sp_w rfl (fun _ _ _ _ _ _ h => h.2.2.1), fun _ h => absurd h List.not_mem_nil⟩⟩⟩⟩⟩⟩
section
variable {B : Nat → Nat} {c m kind s th un rank : Int32} {w0 : lW}
set_option maxHeartbeats 4000000 in
theorem ur_en {w : lW} (hn : nS B c w) (hu : uI B m w) (hc60 : 0 ≤ c.toInt ∧ c.toInt ≤ 60) : wl oW T_X11_rule Sp_ur (ur_Q (B, (c, m), kind, s, th, un, rank) w0) K_X11_rule (ur_hd (B, (c, m), kind, s, th, un, rank) w0) 40 K_X11_rule 0 (la 0 (ur_F (B, (c, m), kind, s, th, un, rank))) [] w := by
  have e2 : (Int32.ofInt 2).toInt = 2 := by decide
  have bad : ¬ (0 ≤ kind.toInt ∧ kind.toInt ≤ 2) → urO B c m kind s th un rank (some (.int (-2))) w := by
    intro hx
    refine ⟨-2, m, rfl, hu.2.1, ?_⟩
    unfold ruQ
    rw [if_neg hx]
    exact ⟨rfl, rfl⟩
  refine ⟨fun h1 => ?_, fun h1 => ⟨fun h2 => ?_, fun h2 => ?_⟩⟩
  · have h1 : kind.toInt < 0 := h1
    exact bad (by omega)
  rotate_left
  · have h2 : ¬ kind.toInt ≤ (Int32.ofInt 2).toInt := h2
    exact bad (by omega)
  have h1 : ¬ kind.toInt < 0 := h1
  have h2 : kind.toInt ≤ (Int32.ofInt 2).toInt := h2
  intro rv w1 hx
  have hx : fLr r_X11_sentenceAt [.ref (B 0), .int s] w rv w1 := hx
  obtain ⟨rfl, hn1⟩ := cl_at hn hc60.2 hx
  have hu1 := hu.keep hx (by decide) (by decide)
  intro rv w2 hx2
  have hx2 : fLr r_X11_sentenceAt [.ref (B 0), .int th] w1 rv w2 := hx2
  obtain ⟨rfl, hn2⟩ := cl_at hn1 hc60.2 hx2
  have hu2 := hu1.keep hx2 (by decide) (by decide)
  intro rv w3 hx3
  have hx3 : fLr r_X11_sentenceAt [.ref (B 0), .int un] w2 rv w3 := hx3
  obtain ⟨rfl, hn3⟩ := cl_at hn2 hc60.2 hx3
  have hu3 := hu2.keep hx3 (by decide) (by decide)
  exact ⟨⟨rfl, rfl, rfl, rfl, rfl, rfl, rfl, rfl, rfl, trivial⟩, rfl, hn3, hu3, (show 0 ≤ kind.toInt by omega), (show kind.toInt ≤ 2 by omega)⟩
set_option maxHeartbeats 4000000 in
theorem ur_h34 (hm10 : m.toInt ≤ 10) : ∀ (lg : fL_) (vs : List Value) (w : lW), in_u34 B c m kind s th un rank lg vs w → ∃ (L : fL_) (f : Nat), f_sub L lg ∧ wh oW T_X11_rule Sp_ur (ur_Q (B, (c, m), kind, s, th, un, rank) w0) K_X11_rule (ur_hd (B, (c, m), kind, s, th, un, rank) w0) f 34 L vs w := by
  rintro lg vs w ⟨hs, rfl, hn, hu, hk⟩
  have e9 : (Int32.ofInt 9).toInt = 9 := by decide
  have unk : ¬ ((0 ≤ s.toInt ∧ s.toInt < c.toInt) ∧ (0 ≤ th.toInt ∧ th.toInt < c.toInt) ∧ (0 ≤ un.toInt ∧ un.toInt < c.toInt)) → urO B c m kind s th un rank (some (.int (-1))) w := by
    intro hx
    refine ⟨-1, m, rfl, hu.2.1, ?_⟩
    unfold ruQ
    rw [if_pos hk, if_neg hx]
    exact ⟨rfl, rfl⟩
  refine ⟨_, 80, hs, fun h1 => ?_, fun h1 => ⟨fun h2 => ?_, fun h2 => ⟨fun h3 => ?_, fun h3 => ?_⟩⟩⟩
  · have h1 : at_ B c s = .null := h1
    exact unk (fun z => at_nul.mp h1 z.1)
  · have h2 : at_ B c th = .null := h2
    exact unk (fun z => at_nul.mp h2 z.2.1)
  rotate_left
  · have h3 : at_ B c un = .null := h3
    exact unk (fun z => at_nul.mp h3 z.2.2)
  have h1 : ¬ at_ B c s = .null := h1
  have h2 : ¬ at_ B c th = .null := h2
  have h3 : ¬ at_ B c un = .null := h3
  have hall : (0 ≤ s.toInt ∧ s.toInt < c.toInt) ∧ (0 ≤ th.toInt ∧ th.toInt < c.toInt) ∧ (0 ≤ un.toInt ∧ un.toInt < c.toInt) := ⟨Classical.byContradiction fun z => h1 (at_nul.mpr z), Classical.byContradiction fun z => h2 (at_nul.mpr z), Classical.byContradiction fun z => h3 (at_nul.mpr z)⟩
  have out : ¬ (0 ≤ rank.toInt ∧ rank.toInt ≤ 9) → urO B c m kind s th un rank (some (.int (-2))) w := by
    intro hx
    refine ⟨-2, m, rfl, hu.2.1, ?_⟩
    unfold ruQ
    rw [if_pos hk, if_pos hall, if_neg hx]
    exact ⟨rfl, rfl⟩
  refine ⟨fun h4 => ?_, fun h4 => ⟨fun h5 => ?_, fun h5 => ?_⟩⟩
  · have h4 : rank.toInt < 0 := h4
    exact out (by omega)
  rotate_left
  · have h5 : ¬ rank.toInt ≤ (Int32.ofInt 9).toInt := h5
    exact out (by omega)
  have h4 : ¬ rank.toInt < 0 := h4
  have h5 : rank.toInt ≤ (Int32.ofInt 9).toInt := h5
  have g1 : eG fl_X11 48 (hof w.1 (B 0)) = .ref (B 207) := bR hn.2.2 hn.1 bl_0 rfl rfl
  intro rv w1 hx
  have hx : fLr r_X9_isFull [eG fl_X11 48 (hof w.1 (B 0))] w rv w1 := hx
  rw [g1] at hx
  have hn1 := hn.keep hx (by decide) (by decide)
  have hu1 := hu.keep hx (by decide) (by decide)
  have er := s_X9_isFull (B, m) w w1 rv hx hu
  have er : rv = some (.int (if m.toInt < 10 then 0 else 1)) := er
  subst er
  refine ⟨fun h6 => ?_, fun h6 => ?_⟩
  rotate_left
  · have h6 : ¬ (if m.toInt < 10 then (0 : Int32) else 1).toInt = 0 := h6
    have hm : ¬ m.toInt < 10 := fun z => h6 (by rw [if_pos z]; decide)
    refine ⟨-4, m, rfl, hu1.2.1, ?_⟩
    unfold ruQ
    rw [if_pos hk, if_pos hall, if_pos (by omega), if_pos (by omega)]
    exact ⟨rfl, rfl⟩
  have h6 : (if m.toInt < 10 then (0 : Int32) else 1).toInt = 0 := h6
  have hm : m.toInt < 10 := by
    by_cases z : m.toInt < 10
    · exact z
    · rw [if_neg z] at h6
      exact absurd h6 (by decide)
  have g2 : eG fl_X11 287 (hof w1.1 (rv_ (eG fl_X11 48 (hof w1.1 (B 0))))) = .int m := by
    rw [bR (fl := fl_X11) (i := 48) (k2 := 6) (r := 207) hn1.2.2 hn1.1 bl_0 rfl rfl]
    show eG fl_X11 287 (hof w1.1 (B 207)) = .int m
    exact hu1.2.1.get rfl
  refine ⟨⟨rfl, rfl, rfl, rfl, rfl, rfl, rfl, rfl, rfl, ?_, trivial⟩, rfl, hn1, hu1, hk, hall, (show 0 ≤ rank.toInt ∧ rank.toInt ≤ 9 by omega), hm⟩
  show some (false, eG fl_X11 287 (hof w1.1 (rv_ (eG fl_X11 48 (hof w1.1 (B 0)))))) = some (false, .int m)
  rw [g2]
theorem sn_app {w : lW} (hs : sN B w) {q t : Nat} {e : va_E} (hh : hof (w.1 ++ [(q, e)]) = hset (hof w.1) q e) (hn : ∀ (r : Nat) (c : mk_C), lp_L2[r]? = some c → B r ≠ q) : sN B (w.1 ++ [(q, e)], w.2 ++ [t]) := by
  obtain ⟨cA, g, h1, h2⟩ := hs
  refine ⟨cA, g, ?_, h2⟩
  show hof (w.1 ++ [(q, e)]) (B 1) = _
  rw [hh, hset_ne (hn _ _ bl_1)]
  exact h1
theorem t_app {w : lW} (hs : tI B w) {q t : Nat} {e : va_E} (hh : hof (w.1 ++ [(q, e)]) = hset (hof w.1) q e) (hn : ∀ (r : Nat) (c : mk_C), lp_L2[r]? = some c → B r ≠ q) : tI B (w.1 ++ [(q, e)], w.2 ++ [t]) := by
  obtain ⟨cA, g, h1⟩ := hs
  refine ⟨cA, g, ?_⟩
  show hof (w.1 ++ [(q, e)]) (B 210) = _
  rw [hh, hset_ne (hn _ _ bl_210)]
  exact h1
/-- a rule made -/
theorem ur_new {w w2 : lW} (hn : nS B c w) (hu : uI B m w) {q t ci k : Nat} {L : List Value} (hd : f_dj (w.1 ++ [(q, .inr (ci, L))])) {rt : Nat} {Wr : List (Nat × Nat)} {T : fT} {cc : ByteArray} {x1 x2 x3 x4 : Int32} {rv : Option Value} (hx : fLr (fq cw_TT cw_SG rt Wr T cc) [.ref q, .int m, .int x1, .int x2, .int x3, .int x4] (w.1 ++ [(q, .inr (ci, L))], w.2 ++ [t]) rv w2) (hs : f_do (fq cw_TT cw_SG rt Wr T cc) Pi_rule) (hok : ru_ok ci k) (hl : k < L.length) (hkk : bs_K.all (fun x => !(Wr.contains x)) = true) (hw1 : (11, 1) ∉ Wr ∧ (14, 1) ∉ Wr) : rv = none ∧ nS B c w2 ∧ uI B m w2 ∧ pF w.1.length t q ci k (.int m) w2 := by
  obtain ⟨b1, b2, b3⟩ := hn.1.app (t := t) hd
  have hn1 : nS B c (w.1 ++ [(q, .inr (ci, L))], w.2 ++ [t]) := ⟨b1, sn_app hn.2.1 b2 b3, hn.2.2.app bl_0 b2 b3⟩
  have hu1 : uI B m (w.1 ++ [(q, .inr (ci, L))], w.2 ++ [t]) := ⟨b1, hu.2.1.app bl_207 b2 b3, t_app hu.2.2 b2 b3⟩
  have hp : hof (w.1 ++ [(q, .inr (ci, L))]) q = some (.inr (ci, L)) := by rw [b2, hset_at]
  obtain ⟨⟨fs', f1, f2, f3⟩, rfl⟩ := (hs _ _ _ _ _ _ hx).2 ((q, ci, L, k), m, x1, x2, x3, x4) rfl ⟨hp, hok, hl⟩
  exact ⟨rfl, hn1.keep hx hkk hw1.1, hu1.keep hx hkk hw1.2, new_ok hn.1 hx f1 f2 f3⟩
set_option maxHeartbeats 4000000 in
theorem ur_h88 : ∀ (lg : fL_) (vs : List Value) (w : lW), in_u88 B c m kind s th un rank lg vs w → ∃ (L : fL_) (f : Nat), f_sub L lg ∧ wh oW T_X11_rule Sp_ur (ur_Q (B, (c, m), kind, s, th, un, rank) w0) K_X11_rule (ur_hd (B, (c, m), kind, s, th, un, rank) w0) f 88 L vs w := by
  rintro lg vs w ⟨hs, rfl, hn, hu, hg⟩
  refine ⟨_, 80, hs, fun h1 => ⟨fun h2 => ?_, fun h2 => ?_⟩, fun h1 => ?_⟩
  · intro q ty hq hd
    intro rv w2 hx
    have hx : fLr r_X5_init [.ref q, .int m, .int s, .int th, .int un, .int rank] (w.1 ++ [(q, .inr (5, (List.range 5).map fun j => defaultValue (ty j)))], w.2 ++ [10]) rv w2 := hx
    obtain ⟨rfl, hn2, hu2, hF⟩ := ur_new (k := 4) hn hu hd hx s_X5_init ⟨rfl, by decide, by decide, by decide, by decide⟩ (by simp) (by decide) (by decide)
    exact ⟨_, _, _, _, _, ⟨rfl, rfl, rfl, rfl, rfl, trivial⟩, rfl, hn2, hu2, hg, hF, (show 7 ≤ 10 ∧ 10 ≤ 10 by decide), rfl⟩
  · intro q ty hq hd
    intro rv w2 hx
    have hx : fLr r_X0_init [.ref q, .int m, .int s, .int th, .int un, .int rank] (w.1 ++ [(q, .inr (0, (List.range 5).map fun j => defaultValue (ty j)))], w.2 ++ [9]) rv w2 := hx
    obtain ⟨rfl, hn2, hu2, hF⟩ := ur_new (k := 4) hn hu hd hx s_X0_init ⟨rfl, by decide, by decide, by decide, by decide⟩ (by simp) (by decide) (by decide)
    exact ⟨_, _, _, _, _, ⟨rfl, rfl, rfl, rfl, rfl, trivial⟩, rfl, hn2, hu2, hg, hF, (show 7 ≤ 9 ∧ 9 ≤ 10 by decide), rfl⟩
  · intro q ty hq hd
    intro rv w2 hx
    have hx : fLr r_X8_init [.ref q, .int m, .int s, .int th, .int un, .int rank] (w.1 ++ [(q, .inr (8, (List.range 5).map fun j => defaultValue (ty j)))], w.2 ++ [8]) rv w2 := hx
    obtain ⟨rfl, hn2, hu2, hF⟩ := ur_new (k := 0) hn hu hd hx s_X8_init ⟨rfl, by decide, by decide, by decide, by decide⟩ (by simp) (by decide) (by decide)
    exact ⟨_, _, _, _, _, ⟨rfl, rfl, rfl, rfl, rfl, trivial⟩, rfl, hn2, hu2, hg, hF, (show 7 ≤ 8 ∧ 8 ≤ 10 by decide), rfl⟩
set_option maxHeartbeats 4000000 in
theorem ur_h154 : ∀ (lg : fL_) (vs : List Value) (w : lW), in_u154 B c m kind s th un rank lg vs w → ∃ (L : fL_) (f : Nat), f_sub L lg ∧ wh oW T_X11_rule Sp_ur (ur_Q (B, (c, m), kind, s, th, un, rank) w0) K_X11_rule (ur_hd (B, (c, m), kind, s, th, un, rank) w0) f 154 L vs w := by
  rintro lg vs w ⟨j, t, p, ci, k, hs, rfl, hn, hu, hg, hF, ht, hk⟩
  refine ⟨_, 80, hs, ?_⟩
  intro rv w2 hx
  have hx : fLr r_X9_keep [eG fl_X11 48 (hof w.1 (B 0)), .ref p, at_ B c s, at_ B c th, at_ B c un] w rv w2 := hx
  rw [bR (fl := fl_X11) (i := 48) (k2 := 6) (r := 207) hn.2.2 hn.1 bl_0 rfl rfl, at_ref hg.2.1.1, at_ref hg.2.1.2.1, at_ref hg.2.1.2.2] at hx
  obtain ⟨rfl, a1⟩ := s_X9_keep ((B, m), (j, t, p, ci, k, m), B (2 + 2 * s.toInt.toNat), B (2 + 2 * th.toInt.toNat), B (2 + 2 * un.toInt.toNat)) w w2 rv hx ⟨hu, hg.2.2.2, hF, ht, hk⟩
  refine ⟨m, m + 1, rfl, a1, ?_⟩
  have hg4 := hg.2.2.2
  unfold ruQ
  rw [if_pos hg.1, if_pos hg.2.1, if_pos hg.2.2.1, if_neg (by omega)]
  exact ⟨rfl, rfl⟩
end
theorem s_X11_rule : ∀ (a : urA) (w w' : lW) (rv : Option Value), fLr r_X11_rule (ur_F a) w rv w' → ur_P a w → ur_Q a w rv w' := by
  refine do_ofW ur_F ur_P ur_Q Sp_ur ur_hd 40 fo_X11 Sp_ur_ok k_X11_rule (fun a w0 hp => ?_) (fun a w0 hp hd0 => ?_)
  · obtain ⟨B, ⟨c, m⟩, kind, s, th, un, rank⟩ := a
    obtain ⟨-, -, -, hm⟩ := hp
    exact List.forall_mem_cons.mpr ⟨ur_h34 hm, List.forall_mem_cons.mpr ⟨ur_h88, List.forall_mem_cons.mpr ⟨ur_h154, fun _ h => absurd h List.not_mem_nil⟩⟩⟩
  · obtain ⟨B, ⟨c, m⟩, kind, s, th, un, rank⟩ := a
    exact ur_en hp.1 hp.2.1 hp.2.2.1
/-! rule: the reference's -/
abbrev vrA : Type := (Nat × List Value × Int32 × Int32) × (Nat → Nat) × Int32 × Int32 × Int32 × Int32 × Int32
def vr_F : vrA → List Value := fun ((p, _, _, _), _, kind, s, th, un, rank) => [.ref p, .int kind, .int s, .int th, .int un, .int rank]
def vr_P : vrA → fH → Prop := fun ((p, fs, c, m), A, _, _, _, _, _) h => h p = some (.inr (12, fs)) ∧ (fs.getD 1 .null = .int c ∧ fs.getD 27 .null = .int m ∧ fs.length = 68) ∧ ∀ i, 28 ≤ i → i ≤ 32 → fs.getD i .null = .ref (A i) ∧ p ≠ A i
def vrO (p : Nat) (c m kind s th un rank : Int32) (rv : Option Value) (h' : fH) : Prop := ∃ v m' : Int32, rv = some (.int v) ∧ (∃ fs' : List Value, h' p = some (.inr (12, fs')) ∧ 27 < fs'.length ∧ fs'.getD 27 .null = .int m') ∧ ruQ kind s th un rank c m v m'
def vr_Q : vrA → fH → Option Value → fH → Prop := fun ((p, _, c, m), _, kind, s, th, un, rank) _ rv h' => vrO p c m kind s th un rank rv h'
def in_v42 (p : Nat) (c kind s th un rank : Int32) (h0 : fH) : fL_ → List Value → fH → Prop := fun lg vs w => f_sub [(0, false, .ref p), (1, false, .int kind), (2, false, .int s), (3, false, .int th), (4, false, .int un), (5, false, .int rank)] lg ∧ vs = [] ∧ w = h0 ∧ (0 ≤ kind.toInt ∧ kind.toInt ≤ 2) ∧ ((0 ≤ s.toInt ∧ s.toInt < c.toInt) ∧ (0 ≤ th.toInt ∧ th.toInt < c.toInt) ∧ (0 ≤ un.toInt ∧ un.toInt < c.toInt))
def in_vr (p : Nat) (fs : List Value) (c m kind s th un rank : Int32) : fL_ → List Value → fH → Prop := fun lg vs w => f_sub [(0, false, .ref p), (1, false, .int kind), (2, false, .int s), (3, false, .int th), (4, false, .int un), (5, false, .int rank)] lg ∧ vs = [] ∧ w p = some (.inr (12, fs)) ∧ ur_g c kind s th un rank m
def vr_hd : vrA → fH → fI fH := fun ((p, fs, c, m), _, kind, s, th, un, rank) h0 => [(42, in_v42 p c kind s th un rank h0), (80, in_vr p fs c m kind s th un rank), (90, in_vr p fs c m kind s th un rank), (100, in_vr p fs c m kind s th un rank), (111, in_vr p fs c m kind s th un rank), (122, in_vr p fs c m kind s th un rank), (132, in_vr p (fs.set 27 (.int (m + 1))) c m kind s th un rank), (137, in_vr p ((fs.set 27 (.int (m + 1))).set 33 (.int 0)) c m kind s th un rank)]
def SpVR : fP fH := [(457, 3, Pi_in), (669, 2, Pi_noSentence)]
theorem SpVR_ok : f_sp T_X12_rule SpVR wH := List.forall_mem_cons.mpr ⟨sp_one rfl (show f_do r_X12_in Pi_in from s_X12_in), List.forall_mem_cons.mpr ⟨sp_one rfl (show f_do r_X12_noSentence Pi_noSentence from s_X12_noSentence), no_sp⟩⟩
section
variable {p : Nat} {A : Nat → Nat} {fs : List Value} {c m kind s th un rank : Int32} {h0 : fH}
set_option maxHeartbeats 4000000 in
theorem vr_en (hp : h0 p = some (.inr (12, fs))) (hc : fs.getD 1 .null = .int c) (hm : fs.getD 27 .null = .int m) (hl : fs.length = 68) : wl oH T_X12_rule SpVR (vr_Q ((p, fs, c, m), A, kind, s, th, un, rank) h0) K_X12_rule (vr_hd ((p, fs, c, m), A, kind, s, th, un, rank) h0) 40 K_X12_rule 0 (la 0 (vr_F ((p, fs, c, m), A, kind, s, th, un, rank))) [] h0 := by
  have e0 : (Int64.ofNat 0).toInt = 0 := by decide
  have e2 : (Int64.ofInt 2).toInt = 2 := by decide
  intro rv h1 hx
  obtain ⟨e1, er⟩ := hx (kind.toInt64, Int64.ofNat 0, Int64.ofInt 2) rfl trivial
  have e1 : h1 = h0 := e1
  subst h1
  have er : rv = some (.int (if (Int64.ofNat 0).toInt ≤ kind.toInt64.toInt ∧ kind.toInt64.toInt ≤ (Int64.ofInt 2).toInt then 1 else 0)) := er
  rw [e0, e2, Int32.toInt_toInt64] at er
  subst er
  refine ⟨fun h => ?_, fun h => ?_⟩
  rotate_left
  · have h : ¬ ¬ (if 0 ≤ kind.toInt ∧ kind.toInt ≤ 2 then (1 : Int32) else 0).toInt = 0 := h
    have hy : ¬ (0 ≤ kind.toInt ∧ kind.toInt ≤ 2) := fun z => h (by rw [if_pos z]; decide)
    refine ⟨-2, m, rfl, ⟨fs, hp, by omega, hm⟩, ?_⟩
    unfold ruQ
    rw [if_neg hy]
    exact ⟨rfl, rfl⟩
  have h : ¬ (if 0 ≤ kind.toInt ∧ kind.toInt ≤ 2 then (1 : Int32) else 0).toInt = 0 := h
  have hk : 0 ≤ kind.toInt ∧ kind.toInt ≤ 2 := by
    by_cases z : 0 ≤ kind.toInt ∧ kind.toInt ≤ 2
    · exact z
    · rw [if_neg z] at h
      exact absurd rfl h
  have unk : ¬ ((0 ≤ s.toInt ∧ s.toInt < c.toInt) ∧ (0 ≤ th.toInt ∧ th.toInt < c.toInt) ∧ (0 ≤ un.toInt ∧ un.toInt < c.toInt)) → vrO p c m kind s th un rank (some (.int (-1))) h0 := by
    intro hx
    refine ⟨-1, m, rfl, ⟨fs, hp, by omega, hm⟩, ?_⟩
    unfold ruQ
    rw [if_pos hk, if_neg hx]
    exact ⟨rfl, rfl⟩
  have yes : ∀ x : Int32, ¬ ¬ (if 0 ≤ x.toInt ∧ x.toInt < c.toInt then (0 : Int32) else 1).toInt = 0 → 0 ≤ x.toInt ∧ x.toInt < c.toInt := by
    intro x h
    by_cases z : 0 ≤ x.toInt ∧ x.toInt < c.toInt
    · exact z
    · rw [if_neg z] at h
      exact absurd (by decide) h
  intro rv h1 hx
  obtain ⟨e1, rfl⟩ := hx (p, fs, c, s) rfl ⟨hp, hc⟩
  have e1 : h1 = h0 := e1
  subst h1
  refine ⟨fun h => ?_, fun h => ?_⟩
  · have h : ¬ (if 0 ≤ s.toInt ∧ s.toInt < c.toInt then (0 : Int32) else 1).toInt = 0 := h
    exact unk (fun z => h (by rw [if_pos z.1]; decide))
  have hs := yes s h
  intro rv h1 hx
  obtain ⟨e1, rfl⟩ := hx (p, fs, c, th) rfl ⟨hp, hc⟩
  have e1 : h1 = h0 := e1
  subst h1
  refine ⟨fun h => ?_, fun h => ?_⟩
  · have h : ¬ (if 0 ≤ th.toInt ∧ th.toInt < c.toInt then (0 : Int32) else 1).toInt = 0 := h
    exact unk (fun z => h (by rw [if_pos z.2.1]; decide))
  have ht := yes th h
  intro rv h1 hx
  obtain ⟨e1, rfl⟩ := hx (p, fs, c, un) rfl ⟨hp, hc⟩
  have e1 : h1 = h0 := e1
  subst h1
  refine ⟨fun h => ?_, fun h => ?_⟩
  rotate_left
  · have h : ¬ (if 0 ≤ un.toInt ∧ un.toInt < c.toInt then (0 : Int32) else 1).toInt = 0 := h
    exact unk (fun z => h (by rw [if_pos z.2.2]; decide))
  have h : (if 0 ≤ un.toInt ∧ un.toInt < c.toInt then (0 : Int32) else 1).toInt = 0 := h
  have hu := yes un (not_not_intro h)
  exact ⟨⟨rfl, rfl, rfl, rfl, rfl, rfl, trivial⟩, rfl, rfl, hk, hs, ht, hu⟩
set_option maxHeartbeats 4000000 in
theorem vr_h42 (hp : h0 p = some (.inr (12, fs))) (hm : fs.getD 27 .null = .int m) (hm10 : m.toInt ≤ 10) (hl : fs.length = 68) (hA : fs.getD 28 .null = .ref (A 28) ∧ p ≠ A 28) : ∀ (lg : fL_) (vs : List Value) (w : fH), in_v42 p c kind s th un rank h0 lg vs w → ∃ (L : fL_) (f : Nat), f_sub L lg ∧ wh oH T_X12_rule SpVR (vr_Q ((p, fs, c, m), A, kind, s, th, un, rank) h0) K_X12_rule (vr_hd ((p, fs, c, m), A, kind, s, th, un, rank) h0) f 42 L vs w := by
  rintro lg vs w ⟨hs0, rfl, ew, hk, hall⟩
  have ew : w = h0 := ew
  subst w
  have e0 : (Int64.ofNat 0).toInt = 0 := by decide
  have e9 : (Int64.ofInt 9).toInt = 9 := by decide
  have e10 : (Int32.ofInt 10).toInt = 10 := by decide
  refine ⟨_, 60, hs0, ?_⟩
  intro rv h1 hx
  obtain ⟨e1, er⟩ := hx (rank.toInt64, Int64.ofNat 0, Int64.ofInt 9) rfl trivial
  have e1 : h1 = h0 := e1
  subst h1
  have er : rv = some (.int (if (Int64.ofNat 0).toInt ≤ rank.toInt64.toInt ∧ rank.toInt64.toInt ≤ (Int64.ofInt 9).toInt then 1 else 0)) := er
  rw [e0, e9, Int32.toInt_toInt64] at er
  subst er
  refine ⟨fun h => ?_, fun h => ?_⟩
  rotate_left
  · have h : ¬ ¬ (if 0 ≤ rank.toInt ∧ rank.toInt ≤ 9 then (1 : Int32) else 0).toInt = 0 := h
    have hy : ¬ (0 ≤ rank.toInt ∧ rank.toInt ≤ 9) := fun z => h (by rw [if_pos z]; decide)
    refine ⟨-2, m, rfl, ⟨fs, hp, by omega, hm⟩, ?_⟩
    unfold ruQ
    rw [if_pos hk, if_pos hall, if_neg hy]
    exact ⟨rfl, rfl⟩
  have h : ¬ (if 0 ≤ rank.toInt ∧ rank.toInt ≤ 9 then (1 : Int32) else 0).toInt = 0 := h
  have hr : 0 ≤ rank.toInt ∧ rank.toInt ≤ 9 := by
    by_cases z : 0 ≤ rank.toInt ∧ rank.toInt ≤ 9
    · exact z
    · rw [if_neg z] at h
      exact absurd rfl h
  have g1 : eG fl_X12 358 (h0 p) = .int m := by
    rw [hp, ← hm]
    rfl
  have g2 : eG fl_X12 50 (h0 p) = .ref (A 28) := by
    rw [hp, ← hA.1]
    rfl
  refine ⟨fun h => ?_, fun h => ?_⟩
  rotate_left
  · have h : ¬ ¬ (iv (eG fl_X12 358 (h0 p))).toInt = (Int32.ofInt 10).toInt := h
    rw [g1, e10] at h
    have h : ¬ ¬ m.toInt = 10 := h
    refine ⟨-4, m, rfl, ⟨fs, hp, by omega, hm⟩, ?_⟩
    unfold ruQ
    rw [if_pos hk, if_pos hall, if_pos hr, if_pos (by omega)]
    exact ⟨rfl, rfl⟩
  have h : ¬ (iv (eG fl_X12 358 (h0 p))).toInt = (Int32.ofInt 10).toInt := h
  rw [g1, e10] at h
  have h : ¬ m.toInt = 10 := h
  refine ⟨⟨rfl, rfl, rfl, rfl, rfl, rfl, trivial⟩, rfl, ?_, hk, hall, hr, (show m.toInt < 10 by omega)⟩
  show hset h0 (rv_ (eG fl_X12 50 (h0 p))) _ p = some (.inr (12, fs))
  rw [g2]
  show hset h0 (A 28) _ p = some (.inr (12, fs))
  rw [hset_ne hA.2]
  exact hp
set_option maxHeartbeats 4000000 in
theorem vr_h80 (hA : fs.getD 29 .null = .ref (A 29) ∧ p ≠ A 29) : ∀ (lg : fL_) (vs : List Value) (w : fH), in_vr p fs c m kind s th un rank lg vs w → ∃ (L : fL_) (f : Nat), f_sub L lg ∧ wh oH T_X12_rule SpVR (vr_Q ((p, fs, c, m), A, kind, s, th, un, rank) h0) K_X12_rule (vr_hd ((p, fs, c, m), A, kind, s, th, un, rank) h0) f 80 L vs w := by
  rintro lg vs w ⟨hs, rfl, hw, hg⟩
  have hw : w p = some (.inr (12, fs)) := hw
  have g2 : eG fl_X12 53 (w p) = .ref (A 29) := by
    rw [hw, ← hA.1]
    rfl
  refine ⟨_, 40, hs, ⟨rfl, rfl, rfl, rfl, rfl, rfl, trivial⟩, rfl, ?_, hg⟩
  show hset w (rv_ (eG fl_X12 53 (w p))) _ p = some (.inr (12, fs))
  rw [g2]
  show hset w (A 29) _ p = some (.inr (12, fs))
  rw [hset_ne hA.2]
  exact hw
set_option maxHeartbeats 4000000 in
theorem vr_h90 (hA : fs.getD 30 .null = .ref (A 30) ∧ p ≠ A 30) : ∀ (lg : fL_) (vs : List Value) (w : fH), in_vr p fs c m kind s th un rank lg vs w → ∃ (L : fL_) (f : Nat), f_sub L lg ∧ wh oH T_X12_rule SpVR (vr_Q ((p, fs, c, m), A, kind, s, th, un, rank) h0) K_X12_rule (vr_hd ((p, fs, c, m), A, kind, s, th, un, rank) h0) f 90 L vs w := by
  rintro lg vs w ⟨hs, rfl, hw, hg⟩
  have hw : w p = some (.inr (12, fs)) := hw
  have g2 : eG fl_X12 56 (w p) = .ref (A 30) := by
    rw [hw, ← hA.1]
    rfl
  refine ⟨_, 40, hs, ⟨rfl, rfl, rfl, rfl, rfl, rfl, trivial⟩, rfl, ?_, hg⟩
  show hset w (rv_ (eG fl_X12 56 (w p))) _ p = some (.inr (12, fs))
  rw [g2]
  show hset w (A 30) _ p = some (.inr (12, fs))
  rw [hset_ne hA.2]
  exact hw
set_option maxHeartbeats 4000000 in
theorem vr_h100 (hA : fs.getD 31 .null = .ref (A 31) ∧ p ≠ A 31) : ∀ (lg : fL_) (vs : List Value) (w : fH), in_vr p fs c m kind s th un rank lg vs w → ∃ (L : fL_) (f : Nat), f_sub L lg ∧ wh oH T_X12_rule SpVR (vr_Q ((p, fs, c, m), A, kind, s, th, un, rank) h0) K_X12_rule (vr_hd ((p, fs, c, m), A, kind, s, th, un, rank) h0) f 100 L vs w := by
  rintro lg vs w ⟨hs, rfl, hw, hg⟩
  have hw : w p = some (.inr (12, fs)) := hw
  have g2 : eG fl_X12 59 (w p) = .ref (A 31) := by
    rw [hw, ← hA.1]
    rfl
  refine ⟨_, 40, hs, ⟨rfl, rfl, rfl, rfl, rfl, rfl, trivial⟩, rfl, ?_, hg⟩
  show hset w (rv_ (eG fl_X12 59 (w p))) _ p = some (.inr (12, fs))
  rw [g2]
  show hset w (A 31) _ p = some (.inr (12, fs))
  rw [hset_ne hA.2]
  exact hw
set_option maxHeartbeats 4000000 in
theorem vr_h111 (hA : fs.getD 32 .null = .ref (A 32) ∧ p ≠ A 32) : ∀ (lg : fL_) (vs : List Value) (w : fH), in_vr p fs c m kind s th un rank lg vs w → ∃ (L : fL_) (f : Nat), f_sub L lg ∧ wh oH T_X12_rule SpVR (vr_Q ((p, fs, c, m), A, kind, s, th, un, rank) h0) K_X12_rule (vr_hd ((p, fs, c, m), A, kind, s, th, un, rank) h0) f 111 L vs w := by
  rintro lg vs w ⟨hs, rfl, hw, hg⟩
  have hw : w p = some (.inr (12, fs)) := hw
  have g2 : eG fl_X12 62 (w p) = .ref (A 32) := by
    rw [hw, ← hA.1]
    rfl
  refine ⟨_, 40, hs, ⟨rfl, rfl, rfl, rfl, rfl, rfl, trivial⟩, rfl, ?_, hg⟩
  show hset w (rv_ (eG fl_X12 62 (w p))) _ p = some (.inr (12, fs))
  rw [g2]
  show hset w (A 32) _ p = some (.inr (12, fs))
  rw [hset_ne hA.2]
  exact hw
set_option maxHeartbeats 4000000 in
theorem vr_h122 (hm : fs.getD 27 .null = .int m) : ∀ (lg : fL_) (vs : List Value) (w : fH), in_vr p fs c m kind s th un rank lg vs w → ∃ (L : fL_) (f : Nat), f_sub L lg ∧ wh oH T_X12_rule SpVR (vr_Q ((p, fs, c, m), A, kind, s, th, un, rank) h0) K_X12_rule (vr_hd ((p, fs, c, m), A, kind, s, th, un, rank) h0) f 122 L vs w := by
  rintro lg vs w ⟨hs, rfl, hw, hg⟩
  have hw : w p = some (.inr (12, fs)) := hw
  refine ⟨_, 40, hs, ⟨rfl, rfl, rfl, rfl, rfl, rfl, trivial⟩, rfl, ?_, hg⟩
  show hset w p (sG pl_X12 358 (.int (iv (eG fl_X12 358 (w p)) + 1)) (w p)) p = some (.inr (12, fs.set 27 (.int (m + 1))))
  rw [hset_at, hw]
  show some (Sum.inr (12, fs.set 27 (.int (iv (fs.getD 27 .null) + 1)))) = _
  rw [hm]
  rfl
set_option maxHeartbeats 4000000 in
theorem vr_h132 : ∀ (lg : fL_) (vs : List Value) (w : fH), in_vr p (fs.set 27 (.int (m + 1))) c m kind s th un rank lg vs w → ∃ (L : fL_) (f : Nat), f_sub L lg ∧ wh oH T_X12_rule SpVR (vr_Q ((p, fs, c, m), A, kind, s, th, un, rank) h0) K_X12_rule (vr_hd ((p, fs, c, m), A, kind, s, th, un, rank) h0) f 132 L vs w := by
  rintro lg vs w ⟨hs, rfl, hw, hg⟩
  have hw : w p = some (.inr (12, fs.set 27 (.int (m + 1)))) := hw
  refine ⟨_, 40, hs, ⟨rfl, rfl, rfl, rfl, rfl, rfl, trivial⟩, rfl, ?_, hg⟩
  show hset w p (sG pl_X12 257 (.int (Int32.ofInt 0)) (w p)) p = some (.inr (12, (fs.set 27 (.int (m + 1))).set 33 (.int 0)))
  rw [hset_at, hw]
  rfl
set_option maxHeartbeats 4000000 in
theorem vr_h137 (hl : fs.length = 68) : ∀ (lg : fL_) (vs : List Value) (w : fH), in_vr p ((fs.set 27 (.int (m + 1))).set 33 (.int 0)) c m kind s th un rank lg vs w → ∃ (L : fL_) (f : Nat), f_sub L lg ∧ wh oH T_X12_rule SpVR (vr_Q ((p, fs, c, m), A, kind, s, th, un, rank) h0) K_X12_rule (vr_hd ((p, fs, c, m), A, kind, s, th, un, rank) h0) f 137 L vs w := by
  rintro lg vs w ⟨hs, rfl, hw, hg⟩
  have hw : w p = some (.inr (12, (fs.set 27 (.int (m + 1))).set 33 (.int 0))) := hw
  have gv : ((fs.set 27 (.int (m + 1))).set 33 (.int 0)).getD 27 .null = .int (m + 1) := by
    rw [getD_set_ne (by decide), List.getD_eq_getElem?_getD, List.getElem?_set_self (by omega)]
    rfl
  refine ⟨_, 40, hs, ?_⟩
  show vrO p c m kind s th un rank (some (.int (iv (eG fl_X12 358 (w p)) - 1))) w
  have hg4 := hg.2.2.2
  refine ⟨m, m + 1, ?_, ⟨_, hw, by rw [List.length_set, List.length_set]; omega, gv⟩, ?_⟩
  · rw [hw]
    show some (Value.int (iv (((fs.set 27 (.int (m + 1))).set 33 (.int 0)).getD 27 .null) - 1)) = some (.int m)
    rw [gv]
    show some (Value.int (m + 1 - 1)) = some (.int m)
    rw [Int32.add_sub_cancel]
  · unfold ruQ
    rw [if_pos hg.1, if_pos hg.2.1, if_pos hg.2.2.1, if_neg (by omega)]
    exact ⟨rfl, rfl⟩
end
theorem s_X12_rule : f_do r_X12_rule (fun As h rv h' => ∀ a : vrA, As = vr_F a → (vr_P a h ∧ a.1.2.2.2.toInt ≤ 10) → vr_Q a h rv h') := by
  refine do_ofP vr_F (fun a h => vr_P a h ∧ a.1.2.2.2.toInt ≤ 10) vr_Q SpVR vr_hd 40 fo_X12 SpVR_ok k_X12_rule (fun a h0 hp => ?_) (fun a h0 hp => ?_)
  · obtain ⟨⟨p, fs, c, m⟩, A, kind, s, th, un, rank⟩ := a
    obtain ⟨⟨hp, ⟨hc, hm, hl⟩, hA⟩, hm10⟩ := hp
    exact List.forall_mem_cons.mpr ⟨vr_h42 hp hm hm10 hl (hA 28 (by decide) (by decide)), List.forall_mem_cons.mpr ⟨vr_h80 (hA 29 (by decide) (by decide)), List.forall_mem_cons.mpr ⟨vr_h90 (hA 30 (by decide) (by decide)), List.forall_mem_cons.mpr ⟨vr_h100 (hA 31 (by decide) (by decide)), List.forall_mem_cons.mpr ⟨vr_h111 (hA 32 (by decide) (by decide)), List.forall_mem_cons.mpr ⟨vr_h122 hm, List.forall_mem_cons.mpr ⟨vr_h132, List.forall_mem_cons.mpr ⟨vr_h137 hl, fun _ h => absurd h List.not_mem_nil⟩⟩⟩⟩⟩⟩⟩⟩
  · obtain ⟨⟨p, fs, c, m⟩, A, kind, s, th, un, rank⟩ := a
    obtain ⟨⟨hp, ⟨hc, hm, hl⟩, hA⟩, hm10⟩ := hp
    exact vr_en hp hc hm hl
end
section
/-! the two's counts of claims and of rules agree -/
theorem rng_of {B : Nat → Nat} {w : lW} (hb : bI B w) {tys : List (ClassId × FieldType)} (hw : ck_wo tys cw_TT cw_SG w.1 w.2) {q ci k t k0 : Nat} {lo hi : Int} {l : List ck_T} {c : mk_C} {x : Int32} (hc : lp_L2[q]? = some c) (ht : lp_sh[q]? = some t) (hT : cw_TT[t]? = some (0, ci, k0, l)) (hk : l[k]? = some (0, lo, hi, [])) (ho : oF B q ci k (.int x) w) : lo ≤ x.toInt ∧ x.toInt ≤ hi := by
  obtain ⟨e, h1, h2, -⟩ := hb.2.h hb.1 hc
  obtain ⟨td, d1, d2⟩ := hw.2.1 q _ e t h1 (hb.2.1 q t ht)
  obtain ⟨fs, hp, hl, hv⟩ := ho
  rw [hp] at h2
  have h2 : .inr (ci, fs) = e := Option.some.inj h2
  subst h2
  have e1 : td = _ := Option.some.inj (d1.symm.trans hT)
  subst e1
  obtain ⟨vs, ev, -, hf⟩ := d2
  have ev : fs = vs := congrArg Prod.snd (Sum.inr.inj ev)
  subst ev
  obtain ⟨v, g1, g2⟩ := hf k (0, lo, hi, []) hk
  obtain ⟨y, rfl, y0, y1⟩ := (show ∃ y : Int32, v = .int y ∧ lo ≤ y.toInt ∧ y.toInt ≤ hi from g2)
  rw [List.getD_eq_getElem?_getD, g1] at hv
  have hv : Value.int y = .int x := hv
  injection hv with hv
  subst hv
  exact ⟨y0, y1⟩
/-- an array of ints there for good -/
theorem aI.of {B : Nat → Nat} {w : lW} (hb : bI B w) {tys : List (ClassId × FieldType)} (hw : ck_wo tys cw_TT cw_SG w.1 w.2) {q n t k0 : Nat} {l : List ck_T} {c : mk_C} (hc : lp_L2[q]? = some c) (ht : lp_sh[q]? = some t) (hT : cw_TT[t]? = some (1, n, k0, l)) : ∃ f, aI B q n f w := by
  obtain ⟨cA, f, h⟩ := hb.2.iv hb.1 hw hc ht hT
  exact ⟨f, cA, h⟩
theorem bl_366 : lp_L2[366]? = some (1, 0, 12, []) := lp_at_ok (by decide +kernel)
theorem bl_367 : lp_L2[367]? = some (1, 0, 12, []) := lp_at_ok (by decide +kernel)
theorem bl_357 : lp_L2[357]? = some (1, 0, 10, []) := lp_at_ok (by decide +kernel)
theorem bl_358 : lp_L2[358]? = some (1, 0, 10, []) := lp_at_ok (by decide +kernel)
theorem bl_359 : lp_L2[359]? = some (1, 0, 10, []) := lp_at_ok (by decide +kernel)
theorem bl_360 : lp_L2[360]? = some (1, 0, 10, []) := lp_at_ok (by decide +kernel)
theorem bl_361 : lp_L2[361]? = some (1, 0, 10, []) := lp_at_ok (by decide +kernel)
def j4c (B : Nat → Nat) (w : lW) : Prop := ∃ m : Int32, oF B 282 3 0 (.int m) w ∧ oF B 343 12 40 (.int m) w
def j4r (B : Nat → Nat) (w : lW) : Prop := ∃ m : Int32, oF B 207 9 1 (.int m) w ∧ oF B 343 12 27 (.int m) w
def j4 (B : Nat → Nat) (w : lW) : Prop := j4c B w ∧ j4r B w
def J4 (B : Nat → Nat) : lW → Prop := fun w => J2 B w ∧ j4 B w
theorem J4.b {B : Nat → Nat} {w : lW} (h : J4 B w) : bI B w := ⟨h.1.1.1, h.1.1.2.1⟩
section
variable {B : Nat → Nat} {rt : Nat} {Wr : List (Nat × Nat)} {T : fT} {cc : ByteArray} {As : List Value} {w w' : lW} {rv : Option Value}
theorem kp4c (h : fLr (fq cw_TT cw_SG rt Wr T cc) As w rv w') (hb : bI B w) (hJ : j4c B w) (hw : (15, 0) ∉ Wr ∧ (17, 40) ∉ Wr) : j4c B w' := by
  obtain ⟨c, h1, h2⟩ := hJ
  exact ⟨c, h1.keep hb h bl_282 bt_282 hw.1, h2.keep hb h bl_343 bt_343 hw.2⟩
theorem kp4r (h : fLr (fq cw_TT cw_SG rt Wr T cc) As w rv w') (hb : bI B w) (hJ : j4r B w) (hw : (14, 1) ∉ Wr ∧ (17, 27) ∉ Wr) : j4r B w' := by
  obtain ⟨c, h1, h2⟩ := hJ
  exact ⟨c, h1.keep hb h bl_207 bt_207 hw.1, h2.keep hb h bl_343 bt_343 hw.2⟩
theorem kp4 (h : fLr (fq cw_TT cw_SG rt Wr T cc) As w rv w') (hb : bI B w) (hJ : j4 B w) (hw : ((15, 0) ∉ Wr ∧ (17, 40) ∉ Wr) ∧ (14, 1) ∉ Wr ∧ (17, 27) ∉ Wr) : j4 B w' :=
  ⟨kp4c h hb hJ.1 hw.1, kp4r h hb hJ.2 hw.2⟩
theorem fr4 (h : fLr (fq cw_TT cw_SG rt Wr T cc) As w rv w') (hJ : J4 B w) (hk : bs_K.all (fun x => !(Wr.contains x)) = true) (hw : (20, 0) ∉ Wr ∧ (22, 0) ∉ Wr ∧ (23, 0) ∉ Wr ∧ (82, 0) ∉ Wr ∧ (83, 0) ∉ Wr ∧ (84, 0) ∉ Wr) (hw2 : (11, 1) ∉ Wr ∧ (17, 1) ∉ Wr) (hw4 : ((15, 0) ∉ Wr ∧ (17, 40) ∉ Wr) ∧ (14, 1) ∉ Wr ∧ (17, 27) ∉ Wr) : J4 B w' :=
  ⟨fr2 h hJ.1 hk hw hw2, kp4 h hJ.b hJ.2 hw4⟩
end
theorem pk4_claim {B : Nat → Nat} : ∀ (w w1 w2 : lW) (rv1 rv2 : Option Value) (s source : Int32), J4 B w → fLr r_X11_claim [.ref (B 0), .int s, .int source] w rv1 w1 → fLr r_X12_claim [.ref (B 343), .int s, .int source] w1 rv2 w2 → rv1 = rv2 ∧ J4 B w2 := by
  intro w w1 w2 rv1 rv2 s source hJ h1 h2
  have hb := hJ.b
  have hJ1 := fr2 h1 hJ.1 (by decide) (by decide) (by decide)
  have hJ2 := fr2 h2 hJ1 (by decide) (by decide) (by decide)
  have hrr := kp4r h2 (hb.keep h1 (by decide)) (kp4r h1 hb hJ.2.2 (by decide)) (by decide)
  obtain ⟨⟨-, c, hc, hm⟩, ⟨m, hq, hn⟩, -⟩ := hJ
  have hb1 : bI B w1 := hb.keep h1 (by decide)
  have hm1 := hm.keep hb h1 bl_343 bt_343 (by decide)
  have hn1 := hn.keep hb h1 bl_343 bt_343 (by decide)
  obtain ⟨tys, hw, -⟩ := h1.2.2.2.2.1
  obtain ⟨tys1, hw1, -⟩ := h2.2.2.2.2.1
  have hr := rng_0 hb hw hc
  have hr2 := rng_of hb hw bl_282 bt_282 (show cw_TT[15]? = some (0, 3, _, _) from rfl) (show _ = some (0, 0, 12, []) from rfl) hq
  obtain ⟨f, hf⟩ := aI.of hb hw bl_283 bt_283 (show cw_TT[34]? = some (1, 12, _, _) from rfl)
  obtain ⟨v1, m1, rfl, a1, q1⟩ := s_X11_claim (B, c, m, s, source) w w1 rv1 h1 ⟨⟨hb, sN.of hb hw, hc⟩, ⟨hb, hq⟩, hr, hr2.2, f, hf⟩
  obtain ⟨fs, hp, hlen⟩ := ln_343 hb1 hw1
  have get : ∀ {k : Nat} {v : Value}, oF B 343 12 k v w1 → fs.getD k .null = v := fun {k v} ⟨fs2, g1, _, g3⟩ => by
    have e : fs = fs2 := congrArg Prod.snd (Sum.inr.inj (Option.some.inj (hp.symm.trans g1)))
    rw [e]
    exact g3
  have r1 := get (hm1.ref hb1 bl_343 (show _ = some (2, 0, 366) from rfl) (k' := 41))
  have r2 := get (hm1.ref hb1 bl_343 (show _ = some (2, 0, 367) from rfl) (k' := 42))
  obtain ⟨v2, m2, rfl, a2, q2⟩ := (s_X12_claim _ _ _ _ _ _ h2).2 ((B 343, fs, c, m), (B 366, B 367), s, source) rfl ⟨hp, ⟨get hm1, get hn1, r1, r2, hlen⟩, hb1.2.ne hb1.1 bl_343 bl_366 (by decide), hb1.2.ne hb1.1 bl_343 bl_367 (by decide)⟩
  obtain ⟨rfl, rfl⟩ := clQ_eq q1 q2
  exact ⟨rfl, hJ2, ⟨m1, a1.keep hb1 h2 bl_282 bt_282 (by decide), a2⟩, hrr⟩
theorem pk4_rule {B : Nat → Nat} : ∀ (w w1 w2 : lW) (rv1 rv2 : Option Value) (kind s th un rank : Int32), J4 B w → fLr r_X11_rule [.ref (B 0), .int kind, .int s, .int th, .int un, .int rank] w rv1 w1 → fLr r_X12_rule [.ref (B 343), .int kind, .int s, .int th, .int un, .int rank] w1 rv2 w2 → rv1 = rv2 ∧ J4 B w2 := by
  intro w w1 w2 rv1 rv2 kind s th un rank hJ h1 h2
  have hb := hJ.b
  have hJ1 := fr2 h1 hJ.1 (by decide) (by decide) (by decide)
  have hJ2 := fr2 h2 hJ1 (by decide) (by decide) (by decide)
  have hcc := kp4c h2 (hb.keep h1 (by decide)) (kp4c h1 hb hJ.2.1 (by decide)) (by decide)
  obtain ⟨⟨-, c, hc, hm⟩, -, ⟨m, hq, hn⟩⟩ := hJ
  have hb1 : bI B w1 := hb.keep h1 (by decide)
  have hm1 := hm.keep hb h1 bl_343 bt_343 (by decide)
  have hn1 := hn.keep hb h1 bl_343 bt_343 (by decide)
  obtain ⟨tys, hw, -⟩ := h1.2.2.2.2.1
  obtain ⟨tys1, hw1, -⟩ := h2.2.2.2.2.1
  have hr := rng_0 hb hw hc
  have hr2 := rng_of hb hw bl_207 bt_207 (show cw_TT[14]? = some (0, 9, _, _) from rfl) (show _ = some (0, 0, 10, []) from rfl) hq
  obtain ⟨v1, m1, rfl, a1, q1⟩ := s_X11_rule (B, (c, m), kind, s, th, un, rank) w w1 rv1 h1 ⟨⟨hb, sN.of hb hw, hc⟩, ⟨hb, hq, tI.of hb hw⟩, hr, hr2.2⟩
  obtain ⟨fs, hp, hlen⟩ := ln_343 hb1 hw1
  have get : ∀ {k : Nat} {v : Value}, oF B 343 12 k v w1 → fs.getD k .null = v := fun {k v} ⟨fs2, g1, _, g3⟩ => by
    have e : fs = fs2 := congrArg Prod.snd (Sum.inr.inj (Option.some.inj (hp.symm.trans g1)))
    rw [e]
    exact g3
  have hA : ∀ i, 28 ≤ i → i ≤ 32 → fs.getD i .null = .ref (B (329 + i)) ∧ B 343 ≠ B (329 + i) := by
    intro i h28 h32
    rcases (show i = 28 ∨ i = 29 ∨ i = 30 ∨ i = 31 ∨ i = 32 by omega) with rfl | rfl | rfl | rfl | rfl
    · exact ⟨get (hm1.ref hb1 bl_343 (show _ = some (2, 0, 357) from rfl) (k' := 28)), hb1.2.ne hb1.1 bl_343 bl_357 (by decide)⟩
    · exact ⟨get (hm1.ref hb1 bl_343 (show _ = some (2, 0, 358) from rfl) (k' := 29)), hb1.2.ne hb1.1 bl_343 bl_358 (by decide)⟩
    · exact ⟨get (hm1.ref hb1 bl_343 (show _ = some (2, 0, 359) from rfl) (k' := 30)), hb1.2.ne hb1.1 bl_343 bl_359 (by decide)⟩
    · exact ⟨get (hm1.ref hb1 bl_343 (show _ = some (2, 0, 360) from rfl) (k' := 31)), hb1.2.ne hb1.1 bl_343 bl_360 (by decide)⟩
    · exact ⟨get (hm1.ref hb1 bl_343 (show _ = some (2, 0, 361) from rfl) (k' := 32)), hb1.2.ne hb1.1 bl_343 bl_361 (by decide)⟩
  obtain ⟨v2, m2, rfl, a2, q2⟩ := (s_X12_rule _ _ _ _ _ _ h2).2 ((B 343, fs, c, m), fun i => B (329 + i), kind, s, th, un, rank) rfl ⟨⟨hp, ⟨get hm1, get hn1, hlen⟩, hA⟩, hr2.2⟩
  obtain ⟨rfl, rfl⟩ := ruQ_eq q1 q2
  exact ⟨rfl, hJ2, hcc, m1, a1.keep hb1 h2 bl_207 bt_207 (by decide), a2⟩
section
variable {B : Nat → Nat} {rt1 rt2 : Nat} {Wr1 Wr2 : List (Nat × Nat)} {T1 T2 : fT} {cc1 cc2 : ByteArray} {As1 As2 : List Value} {w w1 w2 : lW} {rv1 rv2 : Option Value}
theorem up2 (hJ : J4 B w) (h1 : fLr (fq cw_TT cw_SG rt1 Wr1 T1 cc1) As1 w rv1 w1) (h2 : fLr (fq cw_TT cw_SG rt2 Wr2 T2 cc2) As2 w1 rv2 w2) (k1 : bs_K.all (fun x => !(Wr1.contains x)) = true) (a1 : ((15, 0) ∉ Wr1 ∧ (17, 40) ∉ Wr1) ∧ (14, 1) ∉ Wr1 ∧ (17, 27) ∉ Wr1) (a2 : ((15, 0) ∉ Wr2 ∧ (17, 40) ∉ Wr2) ∧ (14, 1) ∉ Wr2 ∧ (17, 27) ∉ Wr2) (hJ2 : J2 B w2) : J4 B w2 :=
  ⟨hJ2, kp4 h2 (hJ.b.keep h1 k1) (kp4 h1 hJ.b hJ.2 a1) a2⟩
theorem up48 (hJ : J4 B w) (h1 : fLr (fq cw_TT cw_SG rt1 Wr1 T1 cc1) As1 w rv1 w1) (h2 : fLr (fq cw_TT cw_SG rt2 Wr2 T2 cc2) As2 w1 rv2 w2) (k1 : bs_K.all (fun x => !(Wr1.contains x)) = true) (a1 : ((15, 0) ∉ Wr1 ∧ (17, 40) ∉ Wr1) ∧ (14, 1) ∉ Wr1 ∧ (17, 27) ∉ Wr1) (a2 : ((15, 0) ∉ Wr2 ∧ (17, 40) ∉ Wr2) ∧ (14, 1) ∉ Wr2 ∧ (17, 27) ∉ Wr2) (b1 : (11, 1) ∉ Wr1 ∧ (17, 1) ∉ Wr1) (b2 : (11, 1) ∉ Wr2 ∧ (17, 1) ∉ Wr2) (h48 : J48 B w2) : J4 B w2 :=
  up2 hJ h1 h2 k1 a1 a2 ⟨h48, kp2 h2 (hJ.b.keep h1 k1) (kp2 h1 hJ.b hJ.1.2 b1) b2⟩
end
end
