/-! rule -/
theorem bl_207 : lp_L2[207]? = some (0, 9, 12, [(2, 0, 208), (1, 0, 0), (2, 0, 210), (2, 0, 211), (2, 0, 232), (2, 0, 253), (2, 0, 274), (2, 0, 276), (2, 0, 278), (2, 0, 280), (1, (-1), 0), (1, (-1), 0)]) := lp_at_ok (by decide +kernel)
theorem bt_207 : lp_sh[207]? = some 14 := by decide +kernel
theorem bl_210 : lp_L2[210]? = some (3, 5, 10, []) := lp_at_ok (by decide +kernel)
theorem bt_210 : lp_sh[210]? = some 30 := by decide +kernel
theorem fo_X8 : f_ok5 fl_X8 pI_X8 nw_X8 kl_X8 il_X8 = true := by decide +kernel
theorem fo_X10 : f_ok5 fl_X10 pI_X10 nw_X10 kl_X10 il_X10 = true := by decide +kernel
theorem fo_X0 : f_ok5 fl_X0 pI_X0 nw_X0 kl_X0 il_X0 = true := by decide +kernel
theorem fo_X5 : f_ok5 fl_X5 pI_X5 nw_X5 kl_X5 il_X5 = true := by decide +kernel
theorem fo_X9 : f_ok5 fl_X9 pl_X9 nw_X9 kl_X9 il_X9 = true := by decide +kernel
def P_nop : fPh := fun _ h rv h' => h' = h ∧ rv = none
theorem sp_nop {T : fT} {key na : Nat} (hT : T.2.2.2.2.2.1 key = (na, f_nop)) : (T.2.2.2.2.2.1 (key, na, P_nop).1).1 = (key, na, P_nop).2.1 ∧ ∀ (As : List Value) (w : fH) (ws : va_W) (sh : List Nat) (rv : Option Value) (ws' : va_W) (sh' : List Nat), wH w ws sh → (T.2.2.2.2.2.1 (key, na, P_nop).1).2 As ws sh rv ws' sh' → ∃ w', wH w' ws' sh' ∧ (key, na, P_nop).2.2 As w rv w' := by
  refine ⟨by show (T.2.2.2.2.2.1 key).1 = na; rw [hT], fun As w ws sh rv ws' sh' hw hx => ?_⟩
  have hx : (T.2.2.2.2.2.1 key).2 As ws sh rv ws' sh' := hx
  rw [hT] at hx
  obtain ⟨h1, h2, -⟩ := (show rv = none ∧ ws' = ws ∧ sh' = sh from hx)
  refine ⟨w, ⟨?_, ?_⟩, rfl, h1⟩
  · rw [h2]; exact hw.1
  · rw [h2]; exact hw.2
/-- the maker of a thing: its number -/
abbrev tgA : Type := Nat × Nat × List Value × Int32 × Nat
def Pi_thing : fPh := fun As h rv h' => ∀ a : tgA, As = [.ref a.1, .int a.2.2.2.1] → (h a.1 = some (.inr (a.2.1, a.2.2.1)) ∧ kpd pI_X10 7 a.2.1 = a.2.2.2.2) → h' = hset h a.1 (.inr (a.2.1, a.2.2.1.set a.2.2.2.2 (.int a.2.2.2.1))) ∧ rv = none
theorem s_X10_init : f_do r_X10_init Pi_thing := by
  refine do_ofP (fun a : tgA => [.ref a.1, .int a.2.2.2.1]) (fun a h => h a.1 = some (.inr (a.2.1, a.2.2.1)) ∧ kpd pI_X10 7 a.2.1 = a.2.2.2.2) (fun a h rv h' => h' = hset h a.1 (.inr (a.2.1, a.2.2.1.set a.2.2.2.2 (.int a.2.2.2.1))) ∧ rv = none) [(5, 1, P_nop)] (fun _ _ => []) 40 fo_X10 (List.forall_mem_cons.mpr ⟨sp_nop rfl, no_sp⟩) k_X10_init (fun _ _ _ => no_hd) (fun a h0 hp => ?_)
  obtain ⟨p, ci, fs, n, k⟩ := a
  obtain ⟨hp, hk⟩ := hp
  have hp : h0 p = some (.inr (ci, fs)) := hp
  have hk : kpd pI_X10 7 ci = k := hk
  intro rv h1 hx
  obtain ⟨e1, rfl⟩ := (show h1 = h0 ∧ rv = none from hx)
  subst h1
  show hset h0 p (sG pI_X10 7 (.int n) (h0 p)) = hset h0 p (.inr (ci, fs.set k (.int n))) ∧ (none : Option Value) = none
  rw [hp]
  refine ⟨?_, rfl⟩
  show hset h0 p (.inr (ci, fs.set (kpd pI_X10 7 ci) (.int n))) = _
  rw [hk]
/-- the maker of a rule -/
abbrev ruA : Type := (Nat × Nat × List Value × Nat) × Int32 × Int32 × Int32 × Int32 × Int32
def ru_F (a : ruA) : List Value := [.ref a.1.1, .int a.2.1, .int a.2.2.1, .int a.2.2.2.1, .int a.2.2.2.2.1, .int a.2.2.2.2.2]
def ru_ok (ci k : Nat) : Prop := kpd pI_X10 7 ci = k ∧ kpd pI_X8 7 ci ≠ k ∧ kpd pI_X8 13 ci ≠ k ∧ kpd pI_X8 16 ci ≠ k ∧ kpd pI_X8 19 ci ≠ k
def ru_P (a : ruA) (h : fH) : Prop := h a.1.1 = some (.inr (a.1.2.1, a.1.2.2.1)) ∧ ru_ok a.1.2.1 a.1.2.2.2 ∧ a.1.2.2.2 < a.1.2.2.1.length
def ru_Q (a : ruA) (h : fH) (rv : Option Value) (h' : fH) : Prop := (∃ fs' : List Value, h' = hset h a.1.1 (.inr (a.1.2.1, fs')) ∧ a.1.2.2.2 < fs'.length ∧ fs'.getD a.1.2.2.2 .null = .int a.2.1) ∧ rv = none
def Pi_rule : fPh := fun As h rv h' => ∀ a : ruA, As = ru_F a → ru_P a h → ru_Q a h rv h'
set_option maxHeartbeats 4000000 in
theorem s_X8_init : f_do r_X8_init Pi_rule := by
  refine do_ofP ru_F ru_P ru_Q [(5, 2, Pi_thing)] (fun _ _ => []) 40 fo_X8 (List.forall_mem_cons.mpr ⟨sp_one rfl s_X10_init, no_sp⟩) k_X8_init (fun _ _ _ => no_hd) (fun a h0 hp => ?_)
  obtain ⟨⟨p, ci, fs, k⟩, n, x1, x2, x3, x4⟩ := a
  obtain ⟨hp, ⟨k0, k1, k2, k3, k4⟩, hl⟩ := hp
  have hp : h0 p = some (.inr (ci, fs)) := hp
  have hl : k < fs.length := hl
  intro rv h1 hx
  obtain ⟨e1, rfl⟩ := hx (p, ci, fs, n, k) rfl ⟨hp, k0⟩
  have e1 : h1 = hset h0 p (.inr (ci, fs.set k (.int n))) := e1
  have one : ∀ (h : fH) (fs : List Value), h p = some (.inr (ci, fs)) → k < fs.length → fs.getD k .null = .int n → h = hset h0 p (.inr (ci, fs)) → ∀ (i : Nat) (x : Int32), kpd pI_X8 i ci ≠ k → ∃ fs', hset h p (sG pI_X8 i (.int x) (h p)) p = some (.inr (ci, fs')) ∧ k < fs'.length ∧ fs'.getD k .null = .int n ∧ hset h p (sG pI_X8 i (.int x) (h p)) = hset h0 p (.inr (ci, fs')) := by
    intro h fs a1 a2 a3 a4 i x hn
    refine ⟨fs.set (kpd pI_X8 i ci) (.int x), ?_, by rw [List.length_set]; exact a2, by rw [getD_set_ne hn]; exact a3, ?_⟩
    · rw [hset_at, a1]
      rfl
    · rw [a1, a4]
      exact hset_hset
  have s0 : h1 p = some (.inr (ci, fs.set k (.int n))) := by rw [e1, hset_at]
  obtain ⟨f1, a1, b1, c1, d1⟩ := one h1 (fs.set k (.int n)) s0 (by rw [List.length_set]; exact hl) (by rw [List.getD_eq_getElem?_getD, List.getElem?_set_self hl]; rfl) e1 7 x1 k1
  obtain ⟨f2, a2, b2, c2, d2⟩ := one _ f1 a1 b1 c1 d1 13 x2 k2
  obtain ⟨f3, a3, b3, c3, d3⟩ := one _ f2 a2 b2 c2 d2 16 x3 k3
  obtain ⟨f4, a4, b4, c4, d4⟩ := one _ f3 a3 b3 c3 d3 19 x4 k4
  exact ⟨⟨f4, d4, b4, c4⟩, rfl⟩
theorem s_X0_init : f_do r_X0_init Pi_rule := by
  refine do_ofP ru_F ru_P ru_Q [(5, 6, Pi_rule)] (fun _ _ => []) 40 fo_X0 (List.forall_mem_cons.mpr ⟨sp_one rfl s_X8_init, no_sp⟩) k_X0_init (fun _ _ _ => no_hd) (fun a h0 hp => ?_)
  obtain ⟨⟨p, ci, fs, k⟩, n, x1, x2, x3, x4⟩ := a
  intro rv h1 hx
  obtain ⟨e1, rfl⟩ := hx ((p, ci, fs, k), n, x1, x2, x3, x4) rfl hp
  exact ⟨e1, rfl⟩
theorem s_X5_init : f_do r_X5_init Pi_rule := by
  refine do_ofP ru_F ru_P ru_Q [(5, 6, Pi_rule)] (fun _ _ => []) 40 fo_X5 (List.forall_mem_cons.mpr ⟨sp_one rfl s_X0_init, no_sp⟩) k_X5_init (fun _ _ _ => no_hd) (fun a h0 hp => ?_)
  obtain ⟨⟨p, ci, fs, k⟩, n, x1, x2, x3, x4⟩ := a
  intro rv h1 hx
  obtain ⟨e1, rfl⟩ := hx ((p, ci, fs, k), n, x1, x2, x3, x4) rfl hp
  exact ⟨e1, rfl⟩
/-- an object that came later -/
def pF (j t p ci k : Nat) (v : Value) (w : lW) : Prop := 385 ≤ j ∧ w.2[j]? = some t ∧ ∃ fs : List Value, w.1[j]? = some (p, .inr (ci, fs)) ∧ k < fs.length ∧ fs.getD k .null = v
section
variable {B : Nat → Nat} {rt : Nat} {Wr : List (Nat × Nat)} {T : fT} {cc : ByteArray} {As : List Value} {w w' : lW} {rv : Option Value} {j t p ci k : Nat} {v : Value}
theorem pF.keep (ho : pF j t p ci k v w) (h : fLr (fq cw_TT cw_SG rt Wr T cc) As w rv w') (hw : (t, k) ∉ Wr) : pF j t p ci k v w' := by
  obtain ⟨hj, ht, fs, hp, hl, hv⟩ := ho
  have hx : ck_ex Wr w.1 w.2 w'.1 w'.2 := h.2.2.2.1
  obtain ⟨e', x1, x2⟩ := hx.2 j _ _ t hp ht
  cases e' with
  | inl _ => exact x2.elim
  | inr o' =>
    obtain ⟨y1, y2⟩ := x2
    have y1 : o'.1 = ci := y1
    have y : o'.2[k]? = fs[k]? := y2 k hw
    refine ⟨hj, hx.1 j t ht, o'.2, ?_, ?_, ?_⟩
    · rw [x1, ← y1]
    · rw [List.getElem?_eq_getElem hl] at y
      exact (List.getElem?_eq_some_iff.mp y).1
    · rw [List.getD_eq_getElem?_getD, y, ← List.getD_eq_getElem?_getD]
      exact hv
theorem pF.get (ho : pF j t p ci k v w) (hI : bI B w) {fl : List (Nat × Nat × Nat)} {i : Nat} (hk : kfd fl i ci = k) : eG fl i (hof w.1 p) = v := by
  obtain ⟨-, -, fs, hp, -, hv⟩ := ho
  rw [hof_at hI.1 hp]
  show fs.getD (kfd fl i ci) .null = v
  rw [hk, hv]
theorem pF.set (ho : pF j t p ci k v w) (hI : bI B w) {q r : Nat} {c : mk_C} {e0 e : va_E} (hc : lp_L2[r]? = some c) (hq : w.1[q]? = some (B r, e0)) : pF j t p ci k v (w.1.set q (B r, e), w.2) := by
  obtain ⟨hj, ht, fs, hp, hl, hv⟩ := ho
  obtain ⟨e1, h1, -⟩ := hI.2.2 r c hc
  have eq : q = r := hI.1 q r _ _ hq h1 rfl
  have hr : r < 385 := by
    have h := (List.getElem?_eq_some_iff.mp hc).1
    rw [show lp_L2.length = 385 by decide +kernel] at h
    exact h
  refine ⟨hj, ht, fs, ?_, hl, hv⟩
  show (w.1.set q (B r, e))[j]? = _
  rw [List.getElem?_set_ne (by omega)]
  exact hp
/-- an object comes -/
theorem bI.app (hI : bI B w) {q t : Nat} {e : va_E} (hd : f_dj (w.1 ++ [(q, e)])) : bI B (w.1 ++ [(q, e)], w.2 ++ [t]) ∧ hof (w.1 ++ [(q, e)]) = hset (hof w.1) q e ∧ ∀ (r : Nat) (c : mk_C), lp_L2[r]? = some c → B r ≠ q := by
  obtain ⟨a1, a2, -⟩ := hof_app hd
  refine ⟨⟨hd, fun r t' ht => ?_, fun r c hc => ?_⟩, a1, fun r c hc e => ?_⟩
  · have h := hI.2.1 r t' ht
    show (w.2 ++ [t])[r]? = _
    rw [List.getElem?_append_left (List.getElem?_eq_some_iff.mp h).1]
    exact h
  · obtain ⟨e1, h1, h2⟩ := hI.2.2 r c hc
    refine ⟨e1, ?_, h2⟩
    show (w.1 ++ [(q, e)])[r]? = _
    rw [List.getElem?_append_left (List.getElem?_eq_some_iff.mp h1).1]
    exact h1
  · obtain ⟨e1, h1, h2, -⟩ := hI.2.h hI.1 hc
    rw [e] at h2
    rw [a2] at h2
    cases h2
theorem oF.app {q' ci' k' : Nat} {v' : Value} {c : mk_C} (ho : oF B q' ci' k' v' w) (hc : lp_L2[q']? = some c) {q t : Nat} {e : va_E} (hh : hof (w.1 ++ [(q, e)]) = hset (hof w.1) q e) (hn : ∀ (r : Nat) (c : mk_C), lp_L2[r]? = some c → B r ≠ q) : oF B q' ci' k' v' (w.1 ++ [(q, e)], w.2 ++ [t]) := by
  obtain ⟨fs, hp, hl, hv⟩ := ho
  refine ⟨fs, ?_, hl, hv⟩
  show hof (w.1 ++ [(q, e)]) (B q') = _
  rw [hh, hset_ne (hn _ _ hc)]
  exact hp
end
theorem cR_sR {B : Nat → Nat} {c : mk_C} {e : va_E} (h : cR B c e) (h0 : c.1 ≠ 0) (hr : ∀ k r : Nat, c.2.2.2[k]? ≠ some (2, 0, r)) {i : Nat} {v : Value} : cR B c (sR i v (some e)) := by
  cases e with
  | inr o => exact absurd h.1 h0
  | inl x =>
    obtain ⟨cA, n, a⟩ := x
    unfold sR
    split
    · exact ⟨h0, fun k r hk => absurd hk (hr k r)⟩
    · rename_i e' _ he'
      have he' : (Sum.inl (cA, n, a) : va_E) = e' := Option.some.inj he'
      subst he'
      exact ⟨h0, fun k r hk => absurd hk (hr k r)⟩
    · rename_i he'
      cases he'
theorem bI.wR {B : Nat → Nat} {w : lW} (hI : bI B w) {p : Nat} {c : mk_C} (hc : lp_L2[p]? = some c) (h0 : c.1 ≠ 0) (hr : ∀ k r : Nat, c.2.2.2[k]? ≠ some (2, 0, r)) {E : Value} (hE : E = .ref (B p)) {q : Nat} {e0 : va_E} (hq : w.1[q]? = some (rv_ E, e0)) {i : Nat} {v : Value} : bI B (w.1.set q (rv_ E, sR i v (hof w.1 (rv_ E))), w.2) ∧ hof (w.1.set q (rv_ E, sR i v (hof w.1 (rv_ E)))) = hset (hof w.1) (B p) (sR i v (hof w.1 (rv_ E))) ∧ w.1[q]? = some (B p, e0) ∧ rv_ E = B p := by
  subst hE
  have hq : w.1[q]? = some (B p, e0) := hq
  obtain ⟨e, h1, h2, h3⟩ := hI.2.h hI.1 hc
  have he : cR B c (sR i v (hof w.1 (B p))) := by
    rw [h2]
    exact cR_sR h3 h0 hr
  obtain ⟨a1, a2⟩ := hI.set hc hq he
  exact ⟨a1, a2, hq, rfl⟩
/-- the rules' row -/
def tI (B : Nat → Nat) (w : lW) : Prop := ∃ (cA : ClassId) (g : Nat → Option Nat), hof w.1 (B 210) = some (.inl (cA, 10, .inr (.inr (.inr (.inr g)))))
theorem tI.of {B : Nat → Nat} {w : lW} (hI : bI B w) {tys : List (ClassId × FieldType)} (hw : ck_wo tys cw_TT cw_SG w.1 w.2) : tI B w := by
  obtain ⟨e, h1, h2, h3⟩ := hI.2.h hI.1 bl_210
  obtain ⟨td, d1, d2⟩ := hw.2.1 210 _ e 30 h1 (hI.2.1 210 30 bt_210)
  have e1 : td = (3, 10, 5, [(3, 0, 0, [8, 9, 10])]) := Option.some.inj (d1.symm.trans (show cw_TT[30]? = some (3, 10, 5, [(3, 0, 0, [8, 9, 10])]) from rfl))
  subst e1
  obtain ⟨cA, C, f, -, rfl, -⟩ := d2
  exact ⟨cA, f, h2⟩
def uI (B : Nat → Nat) (m : Int32) (w : lW) : Prop := bI B w ∧ oF B 207 9 1 (.int m) w ∧ tI B w
theorem uI.keep {B : Nat → Nat} {m : Int32} {rt : Nat} {Wr : List (Nat × Nat)} {T : fT} {cc : ByteArray} {As : List Value} {w w' : lW} {rv : Option Value} (hI : uI B m w) (h : fLr (fq cw_TT cw_SG rt Wr T cc) As w rv w') (hk : bs_K.all (fun x => !(Wr.contains x)) = true) (hw : (14, 1) ∉ Wr) : uI B m w' := by
  obtain ⟨tys, -, hw2⟩ := h.2.2.2.2.1
  have hb := hI.1.keep h hk
  exact ⟨hb, hI.2.1.keep hI.1 h bl_207 bt_207 hw, tI.of hb hw2⟩
theorem uI.full {B : Nat → Nat} {m : Int32} {w : lW} (hI : uI B m w) : (iv (eG fl_X9 59 (hof w.1 (B 207)))).toInt = m.toInt ∧ (Int32.ofNat (eL (hof w.1 (rv_ (eG fl_X9 22 (hof w.1 (B 207))))))).toInt = 10 := by
  obtain ⟨hb, hc, cA, g, h⟩ := hI
  rw [hc.get (show kfd fl_X9 59 9 = 1 from rfl), bR (fl := fl_X9) (i := 22) (k2 := 2) (r := 210) hc hb bl_207 rfl rfl]
  refine ⟨rfl, ?_⟩
  show (Int32.ofNat (eL (hof w.1 (B 210)))).toInt = 10
  rw [h]
  show (Int32.ofNat 10).toInt = 10
  decide
theorem s_X9_isFull : ∀ (a : (Nat → Nat) × Int32) (w w' : lW) (rv : Option Value), fLr r_X9_isFull [.ref (a.1 207)] w rv w' → uI a.1 a.2 w → rv = some (.int (if a.2.toInt < 10 then 0 else 1)) := by
  refine do_ofW (fun a : (Nat → Nat) × Int32 => [.ref (a.1 207)]) (fun a w => uI a.1 a.2 w) (fun a _ rv _ => rv = some (.int (if a.2.toInt < 10 then 0 else 1))) [] (fun _ _ => []) 40 fo_X9 (fun _ h => absurd h List.not_mem_nil) k_X9_isFull (fun _ _ _ => no_hd) (fun a w0 hp hd0 => ?_)
  obtain ⟨B, m⟩ := a
  have hp : uI B m w0 := hp
  obtain ⟨f1, f2⟩ := hp.full
  refine ⟨fun h => ?_, fun h => ?_⟩
  · have h : (iv (eG fl_X9 59 (hof w0.1 (B 207)))).toInt < (Int32.ofNat (eL (hof w0.1 (rv_ (eG fl_X9 22 (hof w0.1 (B 207))))))).toInt := h
    rw [f1, f2] at h
    show some (Value.int 0) = some (.int (if m.toInt < 10 then 0 else 1))
    rw [if_pos h]
  · have h : ¬ (iv (eG fl_X9 59 (hof w0.1 (B 207)))).toInt < (Int32.ofNat (eL (hof w0.1 (rv_ (eG fl_X9 22 (hof w0.1 (B 207))))))).toInt := h
    rw [f1, f2] at h
    show some (Value.int 1) = some (.int (if m.toInt < 10 then 0 else 1))
    rw [if_neg h]
abbrev ukA : Type := ((Nat → Nat) × Int32) × (Nat × Nat × Nat × Nat × Nat × Int32) × Nat × Nat × Nat
def uk_F : ukA → List Value := fun ((B, _), (_, _, p, _, _, _), u1, u2, u3) => [.ref (B 207), .ref p, .ref u1, .ref u2, .ref u3]
def uk_P : ukA → lW → Prop := fun ((B, m), (j, t, p, ci, k, n), _, _, _) w => uI B m w ∧ m.toInt < 10 ∧ pF j t p ci k (.int n) w ∧ (7 ≤ t ∧ t ≤ 10) ∧ kfd fl_X9 66 ci = k
def uk_Q : ukA → lW → Option Value → lW → Prop := fun ((B, m), (_, _, _, _, _, n), _, _, _) _ rv w' => rv = some (.int n) ∧ oF B 207 9 1 (.int (m + 1)) w'
def in_u25 (B : Nat → Nat) (m : Int32) (j t p ci k : Nat) (n : Int32) (u1 u2 u3 : Nat) : fL_ → List Value → lW → Prop := fun lg vs w => f_sub [(0, false, .ref (B 207)), (1, false, .ref p), (2, false, .ref u1), (3, false, .ref u2), (4, false, .ref u3)] lg ∧ vs = [] ∧ bI B w ∧ oF B 207 9 1 (.int m) w ∧ pF j t p ci k (.int n) w ∧ (7 ≤ t ∧ t ≤ 10) ∧ kfd fl_X9 66 ci = k
def in_u75 (B : Nat → Nat) (m : Int32) (j t p ci k : Nat) (n : Int32) : fL_ → List Value → lW → Prop := fun lg vs w => f_sub [(1, false, .ref p)] lg ∧ vs = [] ∧ bI B w ∧ oF B 207 9 1 (.int (m + 1)) w ∧ pF j t p ci k (.int n) w ∧ kfd fl_X9 66 ci = k
def uk_hd : ukA → lW → fI lW := fun ((B, m), (j, t, p, ci, k, n), u1, u2, u3) _ => [(25, in_u25 B m j t p ci k n u1 u2 u3), (75, in_u75 B m j t p ci k n)]
def Sp_uk : fP lW := [(186, 2, fLr r_X1_become)]
theorem Sp_uk_ok : f_sp T_X9_keep Sp_uk wW := List.forall_mem_cons.mpr ⟨sp_w rfl (fun _ _ _ _ _ _ h => h.2.2.1), fun _ h => absurd h List.not_mem_nil⟩
set_option maxHeartbeats 4000000 in
theorem s_X9_keep : ∀ (a : ukA) (w w' : lW) (rv : Option Value), fLr r_X9_keep (uk_F a) w rv w' → uk_P a w → uk_Q a w rv w' := by
  refine do_ofW uk_F uk_P uk_Q Sp_uk uk_hd 40 fo_X9 Sp_uk_ok k_X9_keep (fun a w0 hp => ?_) (fun a w0 hp hd0 => ?_)
  · obtain ⟨⟨B, m⟩, ⟨j, t, p, ci, k, n⟩, u1, u2, u3⟩ := a
    refine List.forall_mem_cons.mpr ⟨?_, List.forall_mem_cons.mpr ⟨?_, fun _ h => absurd h List.not_mem_nil⟩⟩
    · rintro lg vs w ⟨hs, rfl, hb, hc, hF, ht, hk⟩
      have ht : 7 ≤ t ∧ t ≤ 10 := ht
      have nB : ∀ k : Nat, (t, k) ∉ [((2 : Nat), (0 : Nat)), (6, 0), (87, 0), (89, 0), (91, 0)] := fun k h => by
        simp only [List.mem_cons, Prod.mk.injEq, List.not_mem_nil, or_false] at h
        omega
      refine ⟨_, 60, hs, ?_⟩
      intro rv w1 hx
      have hx : fLr r_X1_become _ w rv w1 := hx
      have hb1 := hb.keep hx (by decide)
      have hc1 := hc.keep hb hx bl_207 bt_207 (by decide)
      have hF1 := hF.keep hx (nB _)
      obtain rfl : rv = none := hx.2.2.2.2.2
      intro rv w2 hx2
      have hx2 : fLr r_X1_become _ w1 rv w2 := hx2
      have hb2 := hb1.keep hx2 (by decide)
      have hc2 := hc1.keep hb1 hx2 bl_207 bt_207 (by decide)
      have hF2 := hF1.keep hx2 (nB _)
      obtain rfl : rv = none := hx2.2.2.2.2.2
      intro rv w3 hx3
      have hx3 : fLr r_X1_become _ w2 rv w3 := hx3
      have hb3 := hb2.keep hx3 (by decide)
      have hc3 := hc2.keep hb2 hx3 bl_207 bt_207 (by decide)
      have hF3 := hF2.keep hx3 (nB _)
      obtain rfl : rv = none := hx3.2.2.2.2.2
      intro q e0 hq
      have hq : w3.1[q]? = some (B 207, e0) := hq
      obtain ⟨b1, -, b3, -⟩ := oF.put (v' := .int (m + 1)) (i := 59) (pl := pl_X9) hb3 hc3 bl_207 hq rfl (fun r h => by have h : some ((1, 0, 0) : mk_V) = some (2, 0, r) := h; cases h)
      have e1 : Value.int (iv (eG fl_X9 59 (hof w3.1 (B 207))) + 1) = .int (m + 1) := by
        rw [hc3.get (show kfd fl_X9 59 9 = 1 from rfl)]
        rfl
      have fin : in_u75 B m j t p ci k n [(1, false, .ref p)] [] (w3.1.set q (B 207, sG pl_X9 59 (.int (iv (eG fl_X9 59 (hof w3.1 (B 207))) + 1)) (hof w3.1 (B 207))), w3.2) := by
        rw [e1]
        exact ⟨⟨rfl, trivial⟩, rfl, b1, b3, hF3.set hb3 bl_207 hq, hk⟩
      obtain ⟨-, -, f3⟩ := fin
      exact ⟨⟨rfl, trivial⟩, rfl, f3⟩
    · rintro lg vs w ⟨hs, rfl, hb, hc, hF, hk⟩
      refine ⟨_, 40, hs, ?_⟩
      show some (eG fl_X9 66 (hof w.1 p)) = some (.int n) ∧ oF B 207 9 1 (.int (m + 1)) w
      rw [hF.get hb hk]
      exact ⟨rfl, hc⟩
  · obtain ⟨⟨B, m⟩, ⟨j, t, p, ci, k, n⟩, u1, u2, u3⟩ := a
    obtain ⟨hI, hm, hF, ht, hk⟩ := hp
    have hI : uI B m w0 := hI
    obtain ⟨f1, f2⟩ := hI.full
    refine ⟨fun h => ?_, fun h => ?_⟩
    · intro q e0 hq
      obtain ⟨b1, b2, b3, b4⟩ := hI.1.wR bl_210 (by decide) (fun k r h => by cases h) (bR (fl := fl_X9) (i := 22) (k2 := 2) (r := 210) hI.2.1 hI.1 bl_207 rfl rfl) hq
      refine ⟨⟨rfl, rfl, rfl, rfl, rfl, trivial⟩, rfl, b1, hI.2.1.upd hI.1 bl_207 bl_210 (by decide) b2, ?_, ht, hk⟩
      have h5 := hF.set hI.1 (e := sR (iv (eG fl_X9 59 (hof w0.1 (B 207)))).toNatClampNeg (.ref p) (hof w0.1 (rv_ (eG fl_X9 22 (hof w0.1 (B 207)))))) bl_210 b3
      rw [← b4] at h5
      exact h5
    · have h : ¬ (iv (eG fl_X9 59 (hof w0.1 (B 207)))).toInt < (Int32.ofNat (eL (hof w0.1 (rv_ (eG fl_X9 22 (hof w0.1 (B 207))))))).toInt := h
      rw [f1, f2] at h
      exact absurd hm h
def ruQ (kind s then_ unless_ rank c m v m' : Int32) : Prop :=
  if 0 ≤ kind.toInt ∧ kind.toInt ≤ 2 then
    if (0 ≤ s.toInt ∧ s.toInt < c.toInt) ∧ (0 ≤ then_.toInt ∧ then_.toInt < c.toInt) ∧ (0 ≤ unless_.toInt ∧ unless_.toInt < c.toInt) then
      if 0 ≤ rank.toInt ∧ rank.toInt ≤ 9 then
        if m.toInt = 10 then v = -4 ∧ m' = m else v = m ∧ m' = m + 1
      else v = -2 ∧ m' = m
    else v = -1 ∧ m' = m
  else v = -2 ∧ m' = m
theorem ruQ_eq {kind s t u rank c m v v2 m1 m2 : Int32} (h1 : ruQ kind s t u rank c m v m1) (h2 : ruQ kind s t u rank c m v2 m2) : v = v2 ∧ m1 = m2 := by
  unfold ruQ at h1 h2
  split at h1
  · rename_i a1
    rw [if_pos a1] at h2
    split at h1
    · rename_i a2
      rw [if_pos a2] at h2
      split at h1
      · rename_i a3
        rw [if_pos a3] at h2
        split at h1
        · rename_i a4
          rw [if_pos a4] at h2
          exact ⟨h1.1.trans h2.1.symm, h1.2.trans h2.2.symm⟩
        · rename_i a4
          rw [if_neg a4] at h2
          exact ⟨h1.1.trans h2.1.symm, h1.2.trans h2.2.symm⟩
      · rename_i a3
        rw [if_neg a3] at h2
        exact ⟨h1.1.trans h2.1.symm, h1.2.trans h2.2.symm⟩
    · rename_i a2
      rw [if_neg a2] at h2
      exact ⟨h1.1.trans h2.1.symm, h1.2.trans h2.2.symm⟩
  · rename_i a1
    rw [if_neg a1] at h2
    exact ⟨h1.1.trans h2.1.symm, h1.2.trans h2.2.symm⟩
