/-! texts: the reference's parser is the machine -/
theorem bl_346 : lp_L2[346]? = some (2, 1, 256, []) := lp_at_ok (by decide +kernel)
theorem bt_346 : lp_sh[346]? = some 47 := by decide +kernel
theorem bl_347 : lp_L2[347]? = some (1, 0, 64, []) := lp_at_ok (by decide +kernel)
theorem bt_347 : lp_sh[347]? = some 48 := by decide +kernel
theorem bI.wJ {B : Nat → Nat} {w : lW} (hI : bI B w) {p : Nat} {c : mk_C} (hc : lp_L2[p]? = some c) (h0 : c.1 ≠ 0) (hr : ∀ k r : Nat, c.2.2.2[k]? ≠ some (2, 0, r)) {E : Value} (hE : E = .ref (B p)) {q : Nat} {e0 : va_E} (hq : w.1[q]? = some (rv_ E, e0)) {i : Nat} {v : Int64} : bI B (w.1.set q (rv_ E, sJ i v (hof w.1 (rv_ E))), w.2) ∧ hof (w.1.set q (rv_ E, sJ i v (hof w.1 (rv_ E)))) = hset (hof w.1) (B p) (sJ i v (hof w.1 (rv_ E))) := by
  subst hE
  have hq : w.1[q]? = some (B p, e0) := hq
  obtain ⟨e, h1, h2, h3⟩ := hI.2.h hI.1 hc
  have he : cR B c (sJ i v (hof w.1 (B p))) := by
    rw [h2]
    exact cR_sJ h3 h0 hr
  exact hI.set hc hq he
/-- the model's state: the counts' fields, and what of the machine's state is there -/
def mX (B : Nat → Nat) (s : pS) (km kv : Nat) (w : lW) : Prop := bI B w ∧ (∃ x : Int32, oF B 343 12 7 (.int x) w ∧ x.toInt = (km : Int)) ∧ (∃ x : Int32, oF B 343 12 5 (.int x) w ∧ x.toInt = (kv : Int)) ∧ (∃ f, aI B 347 64 f w ∧ ∀ j, j < s.1.1 → f j = s.1.2 j) ∧ ∃ g, aJ B 346 256 g w ∧ ∀ i, i < s.2.1 → ∀ x, x < 4 → g (4 * i + x) = s.2.2 i x
def mS (B : Nat → Nat) (s : pS) (w : lW) : Prop := mX B s s.1.1 s.2.1 w
section
variable {B : Nat → Nat} {s : pS} {km kv : Nat} {w w' : lW}
theorem mX.cut {s' : pS} (h : mX B s km kv w) (h1 : s'.1.1 ≤ s.1.1) (h2 : s'.1.2 = s.1.2) (h3 : s'.2.1 ≤ s.2.1) (h4 : s'.2.2 = s.2.2) : mX B s' km kv w := by
  obtain ⟨a1, a2, a3, ⟨f, a4, a5⟩, ⟨V, a6, a7⟩⟩ := h
  exact ⟨a1, a2, a3, ⟨f, a4, fun j hj => by rw [h2]; exact a5 j (by omega)⟩, ⟨V, a6, fun i hi x hx => by rw [h4]; exact a7 i (by omega) x hx⟩⟩
theorem mX.gm (h : mX B s km kv w) : ∃ x : Int32, eG fl_X12 167 (hof w.1 (B 343)) = .int x ∧ x.toInt = (km : Int) := by
  obtain ⟨x, h1, h2⟩ := h.2.1
  exact ⟨x, h1.get rfl, h2⟩
theorem mX.gv (h : mX B s km kv w) : ∃ x : Int32, eG fl_X12 162 (hof w.1 (B 343)) = .int x ∧ x.toInt = (kv : Int) := by
  obtain ⟨x, h1, h2⟩ := h.2.2.1
  exact ⟨x, h1.get rfl, h2⟩
theorem mX.g20 (h : mX B s km kv w) : eG fl_X12 20 (hof w.1 (B 343)) = .ref (B 347) := by
  obtain ⟨x, h1, h2⟩ := h.2.1
  exact bR h1 h.1 bl_343 rfl rfl
theorem mX.g17 (h : mX B s km kv w) : eG fl_X12 17 (hof w.1 (B 343)) = .ref (B 346) := by
  obtain ⟨x, h1, h2⟩ := h.2.1
  exact bR h1 h.1 bl_343 rfl rfl
theorem mX.mk (h : mX B s km kv w) {j : Nat} (hj : j < s.1.1) : eI (hof w.1 (B 347)) j = s.1.2 j := by
  obtain ⟨f, ⟨cA, h1⟩, h2⟩ := h.2.2.2.1
  rw [h1]
  exact h2 j hj
theorem mX.vl (h : mX B s km kv w) {i x : Nat} (hi : i < s.2.1) (hx : x < 4) : eJ (hof w.1 (B 346)) (4 * i + x) = s.2.2 i x := by
  obtain ⟨g, ⟨cA, h1⟩, h2⟩ := h.2.2.2.2
  rw [h1]
  exact h2 i hi x hx
theorem mX.pm (h : mX B s km kv w) {q : Nat} {e0 : va_E} (hq : w.1[q]? = some (B 343, e0)) {E : Value} {x : Int32} {k : Nat} (hE : E = .int x) (hx : x.toInt = (k : Int)) : mX B s k kv (w.1.set q (B 343, sG pl_X12 167 E (hof w.1 (B 343))), w.2) := by
  subst hE
  obtain ⟨a1, ⟨y, a2, -⟩, ⟨z, a3, ez⟩, ⟨f, a4, a5⟩, ⟨V, a6, a7⟩⟩ := h
  obtain ⟨b1, b2, b3, b4⟩ := oF.put (v' := .int x) (i := 167) (pl := pl_X12) a1 a2 bl_343 hq rfl (fun r h => by have h : some ((1, 0, 0) : mk_V) = some (2, 0, r) := h; cases h)
  exact ⟨b1, ⟨x, b3, hx⟩, ⟨z, b4 5 _ (by decide) a3, ez⟩, ⟨f, a4.upd a1 bl_347 bl_343 (by decide) b2, a5⟩, ⟨V, a6.upd a1 bl_346 bl_343 (by decide) b2, a7⟩⟩
theorem mX.pv (h : mX B s km kv w) {q : Nat} {e0 : va_E} (hq : w.1[q]? = some (B 343, e0)) {E : Value} {x : Int32} {k : Nat} (hE : E = .int x) (hx : x.toInt = (k : Int)) : mX B s km k (w.1.set q (B 343, sG pl_X12 162 E (hof w.1 (B 343))), w.2) := by
  subst hE
  obtain ⟨a1, ⟨y, a2, ey⟩, ⟨z, a3, -⟩, ⟨f, a4, a5⟩, ⟨V, a6, a7⟩⟩ := h
  obtain ⟨b1, b2, b3, b4⟩ := oF.put (v' := .int x) (i := 162) (pl := pl_X12) a1 a3 bl_343 hq rfl (fun r h => by have h : some ((1, 0, 0) : mk_V) = some (2, 0, r) := h; cases h)
  exact ⟨b1, ⟨y, b4 7 _ (by decide) a2, ey⟩, ⟨x, b3, hx⟩, ⟨f, a4.upd a1 bl_347 bl_343 (by decide) b2, a5⟩, ⟨V, a6.upd a1 bl_346 bl_343 (by decide) b2, a7⟩⟩
theorem mX.w347 (h : mX B s km kv w) {q : Nat} {e0 : va_E} {E : Value} (hE : E = .ref (B 347)) (hq : w.1[q]? = some (rv_ E, e0)) {c : Int32} {i : Nat} (hi : i = s.1.1) : mX B ((s.1.1 + 1, upd s.1.2 s.1.1 c), s.2) km kv (w.1.set q (rv_ E, sI i c (hof w.1 (rv_ E))), w.2) := by
  obtain ⟨a1, ⟨y, a2, ey⟩, ⟨z, a3, ez⟩, ⟨f, ⟨cA, a4⟩, a5⟩, ⟨V, a6, a7⟩⟩ := h
  obtain ⟨b1, b2⟩ := a1.wI bl_347 (by decide) (fun k r h => by cases h) hE hq (i := i) (v := c)
  refine ⟨b1, ⟨y, a2.upd a1 bl_343 bl_347 (by decide) b2, ey⟩, ⟨z, a3.upd a1 bl_343 bl_347 (by decide) b2, ez⟩, ⟨upd f i c, ⟨cA, ?_⟩, fun j hj => ?_⟩, ⟨V, a6.upd a1 bl_346 bl_347 (by decide) b2, a7⟩⟩
  · rw [b2, hset_at]
    subst hE
    show some (sI i c (hof w.1 (B 347))) = _
    rw [a4]
    rfl
  · have hj : j < s.1.1 + 1 := hj
    show upd f i c j = upd s.1.2 s.1.1 c j
    rw [hi]
    by_cases e : j = s.1.1
    · rw [e, upd_at, upd_at]
    · rw [upd_ne e, upd_ne e]
      exact a5 j (by omega)
/-- a word written: of the values, word y of value i, in the machine's state as the other side says -/
theorem mX.w346 (h : mX B s km kv w) {q : Nat} {e0 : va_E} {E : Value} (hE : E = .ref (B 346)) (hq : w.1[q]? = some (rv_ E, e0)) {u : Int64} {d : Nat} {n : Nat} {v' : Nat → Nat → Int64} (hv : ∀ g : Nat → Int64, (∀ i, i < s.2.1 → ∀ x, x < 4 → g (4 * i + x) = s.2.2 i x) → ∀ i, i < n → ∀ x, x < 4 → vp_updL g d u (4 * i + x) = v' i x) : mX B (s.1, n, v') km kv (w.1.set q (rv_ E, sJ d u (hof w.1 (rv_ E))), w.2) := by
  obtain ⟨a1, ⟨y, a2, ey⟩, ⟨z, a3, ez⟩, ⟨f, a4, a5⟩, ⟨V, ⟨cA, a6⟩, a7⟩⟩ := h
  obtain ⟨b1, b2⟩ := a1.wJ bl_346 (by decide) (fun k r h => by cases h) hE hq (i := d) (v := u)
  refine ⟨b1, ⟨y, a2.upd a1 bl_343 bl_346 (by decide) b2, ey⟩, ⟨z, a3.upd a1 bl_343 bl_346 (by decide) b2, ez⟩, ⟨f, a4.upd a1 bl_347 bl_346 (by decide) b2, a5⟩, ⟨vp_updL V d u, ⟨cA, ?_⟩, hv V a7⟩⟩
  rw [b2, hset_at]
  subst hE
  show some (sJ d u (hof w.1 (B 346))) = _
  rw [a6]
  rfl
theorem mX.keep {rt : Nat} {Wr : List (Nat × Nat)} {T : fT} {cc : ByteArray} {As : List Value} {rv : Option Value} (h : mX B s km kv w) (hx : fLr (fq cw_TT cw_SG rt Wr T cc) As w rv w') (hk : bs_K.all (fun x => !(Wr.contains x)) = true) (hw : (17, 7) ∉ Wr ∧ (17, 5) ∉ Wr ∧ (47, 0) ∉ Wr ∧ (48, 0) ∉ Wr) : mX B s km kv w' := by
  obtain ⟨a1, ⟨y, a2, ey⟩, ⟨z, a3, ez⟩, ⟨f, a4, a5⟩, ⟨V, a6, a7⟩⟩ := h
  exact ⟨a1.keep hx hk, ⟨y, a2.keep a1 hx bl_343 bt_343 hw.1, ey⟩, ⟨z, a3.keep a1 hx bl_343 bt_343 hw.2.1, ez⟩, ⟨f, a4.keep a1 hx bl_347 bt_347 (by decide) hw.2.2.2, a5⟩, ⟨V, a6.keep a1 hx bl_346 bt_346 (by decide) hw.2.2.1, a7⟩⟩
end
theorem s_X12_tight : f_do r_X12_tight (fun As h rv h' => ∀ c : Int32, As = [.int c] → True → h' = h ∧ rv = some (.int (rkc c))) := by
  refine do_ofP (fun c : Int32 => [.int c]) (fun _ _ => True) (fun c h rv h' => h' = h ∧ rv = some (.int (rkc c))) [] (fun _ _ => []) 40 fo_X12 no_sp k_X12_tight (fun _ _ _ => no_hd) (fun c h0 _ => ?_)
  have e38 : (38 : Int32).toInt = 38 := by decide
  have e124 : (124 : Int32).toInt = 124 := by decide
  have e62 : (62 : Int32).toInt = 62 := by decide
  refine ⟨fun ha => ⟨fun hb => ⟨fun hc => ?_, fun hc => ?_⟩, fun hb => ?_⟩, fun ha => ?_⟩
  · have ha : ¬ c.toInt = (38 : Int32).toInt := ha
    have hb : ¬ c.toInt = (124 : Int32).toInt := hb
    have hc : ¬ c.toInt = (62 : Int32).toInt := hc
    refine ⟨rfl, ?_⟩
    show some (Value.int 0) = some (.int (rkc c))
    unfold rkc
    rw [if_neg (by omega), if_neg (by omega), if_neg (by omega)]
  · have ha : ¬ c.toInt = (38 : Int32).toInt := ha
    have hb : ¬ c.toInt = (124 : Int32).toInt := hb
    have hc : ¬ ¬ c.toInt = (62 : Int32).toInt := hc
    refine ⟨rfl, ?_⟩
    show some (Value.int 1) = some (.int (rkc c))
    unfold rkc
    rw [if_neg (by omega), if_neg (by omega), if_pos (by omega)]
  · have ha : ¬ c.toInt = (38 : Int32).toInt := ha
    have hb : ¬ ¬ c.toInt = (124 : Int32).toInt := hb
    refine ⟨rfl, ?_⟩
    show some (Value.int 2) = some (.int (rkc c))
    unfold rkc
    rw [if_neg (by omega), if_pos (by omega)]
  · have ha : ¬ ¬ c.toInt = (38 : Int32).toInt := ha
    refine ⟨rfl, ?_⟩
    show some (Value.int 3) = some (.int (rkc c))
    unfold rkc
    rw [if_pos (by omega)]
