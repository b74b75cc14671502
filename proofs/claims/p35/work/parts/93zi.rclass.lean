/-! texts: the class's parser is the machine -/
theorem bl_126 : lp_L2[126]? = some (0, 7, 4, [(2, 0, 127), (2, 0, 128), (1, 0, 0), (1, 0, 0)]) := lp_at_ok (by decide +kernel)
theorem bt_126 : lp_sh[126]? = some 12 := by decide +kernel
theorem bl_127 : lp_L2[127]? = some (1, 0, 60, []) := lp_at_ok (by decide +kernel)
theorem bt_127 : lp_sh[127]? = some 25 := by decide +kernel
def L128_ : List mk_V := (List.range 32).map (fun i => (2, 0, 129 + 2 * i))
theorem bl_128 : lp_L2[128]? = some (3, 3, 32, L128_) := lp_at_ok (by decide +kernel)
theorem bt_128 : lp_sh[128]? = some 26 := by decide +kernel
theorem L128_ix (i : Nat) (hi : i < 32) : L128_[i]? = some (2, 0, 129 + 2 * i) := by
  unfold L128_
  rw [List.getElem?_map, List.getElem?_range hi]
  rfl
theorem bl_VO (i : Nat) (hi : i < 32) : lp_L2[129 + 2 * i]? = some (0, 1, 1, [(2, 0, 130 + 2 * i)]) := lp_at_ok (List.all_eq_true.mp (show (List.range 32).all (fun i => lp_at lp_L2 (129 + 2 * i) (0, 1, 1, [(2, 0, 130 + 2 * i)])) = true by decide +kernel) i (List.mem_range.mpr hi))
theorem bt_VO : ∀ i, i < 32 → lp_sh[129 + 2 * i]? = some 92 := by decide +kernel
theorem bl_VW (i : Nat) (hi : i < 32) : lp_L2[130 + 2 * i]? = some (2, 1, 4, []) := lp_at_ok (List.all_eq_true.mp (show (List.range 32).all (fun i => lp_at lp_L2 (130 + 2 * i) (2, 1, 4, [])) = true by decide +kernel) i (List.mem_range.mpr hi))
theorem bt_VW : ∀ i, i < 32 → lp_sh[130 + 2 * i]? = some 93 := by decide +kernel
def vS (B : Nat → Nat) (V : Nat → Nat → Int64) (w : lW) : Prop := ∀ i, i < 32 → aJ B (130 + 2 * i) 4 (V i) w
theorem vS.keep {B : Nat → Nat} {V : Nat → Nat → Int64} {rt : Nat} {Wr : List (Nat × Nat)} {T : fT} {cc : ByteArray} {As : List Value} {w w' : lW} {rv : Option Value} (hW : vS B V w) (hI : bI B w) (h : fLr (fq cw_TT cw_SG rt Wr T cc) As w rv w') (hw : (93, 0) ∉ Wr) : vS B V w' :=
  fun i hi => (hW i hi).keep hI h (bl_VW i hi) (bt_VW i hi) (show (2 : Nat) ≠ 0 by decide) hw
theorem vS.bx {B : Nat → Nat} {V : Nat → Nat → Int64} {w : lW} (hW : vS B V w) (hI : bI B w) {tys : List (ClassId × FieldType)} (hw : ck_wo tys cw_TT cw_SG w.1 w.2) {i : Nat} (hi : i < 32) : ∃ (fs : List Value) (cA : ClassId), bx (B (129 + 2 * i), fs, B (130 + 2 * i), cA, V i) (hof w.1) := by
  obtain ⟨vs, h1, -, h3⟩ := hI.2.ov hI.1 hw (bl_VO i hi) (bt_VO i hi) (show cw_TT[92]? = some (0, 1, _, _) from rfl)
  obtain ⟨cA, h4⟩ := hW i hi
  exact ⟨vs, cA, h1, h3 0 (130 + 2 * i) rfl, h4⟩
theorem vS.upd {B : Nat → Nat} {V : Nat → Nat → Int64} {w w' : lW} (hW : vS B V w) (hI : bI B w) {C : Nat} (hC : C < 32) {cA : ClassId} {g : Nat → Int64} (hh : hof w'.1 = hset (hof w.1) (B (130 + 2 * C)) (.inl (cA, 4, .inr (.inl g)))) : vS B (updW V C g) w' := by
  intro i hi
  by_cases e : i = C
  · subst e
    refine ⟨cA, ?_⟩
    rw [updW_at, hh, hset_at]
  · obtain ⟨c2, h2⟩ := hW i hi
    refine ⟨c2, ?_⟩
    rw [updW_ne e, hh, hset_ne (hI.2.ne hI.1 (bl_VW i hi) (bl_VW C hC) (by omega))]
    exact h2
theorem vS.st {B : Nat → Nat} {V : Nat → Nat → Int64} {w : lW} (hW : vS B V w) (hI : bI B w) {p : Nat} {d : mk_C} {ws' : va_W} {sh' : List Nat} {e : va_E} (hd : lp_L2[p]? = some d) (hn : p < 129) (hh : hof ws' = hset (hof w.1) (B p) e) : vS B V (ws', sh') :=
  fun i hi => (hW i hi).upd hI (bl_VW i hi) hd (by omega) hh
/-- the values' row -/
def vR (B : Nat → Nat) (w : lW) : Prop := ∃ (cA : ClassId) (g : Nat → Option Nat), hof w.1 (B 128) = some (.inl (cA, 32, .inr (.inr (.inr (.inr g))))) ∧ ∀ i, i < 32 → g i = some (B (129 + 2 * i))
theorem vR.of {B : Nat → Nat} {w : lW} (hI : bI B w) {tys : List (ClassId × FieldType)} (hw : ck_wo tys cw_TT cw_SG w.1 w.2) : vR B w := by
  obtain ⟨e, h1, h2, h3⟩ := hI.2.h hI.1 bl_128
  obtain ⟨td, d1, d2⟩ := hw.2.1 128 _ e 26 h1 (hI.2.1 128 26 bt_128)
  have e1 : td = (3, 32, 3, [(2, 0, 0, [92])]) := Option.some.inj (d1.symm.trans (show cw_TT[26]? = some (3, 32, 3, [(2, 0, 0, [92])]) from rfl))
  subst e1
  obtain ⟨cA, C, f, -, rfl, -⟩ := d2
  exact ⟨cA, f, h2, fun i hi => h3.2 i _ (L128_ix i hi)⟩
theorem vR.upd {B : Nat → Nat} {w : lW} (hs : vR B w) (hI : bI B w) {p : Nat} {d : mk_C} {ws' : va_W} {sh' : List Nat} {e : va_E} (hd : lp_L2[p]? = some d) (hn : 128 ≠ p) (hh : hof ws' = hset (hof w.1) (B p) e) : vR B (ws', sh') := by
  obtain ⟨cA, g, h1, h2⟩ := hs
  refine ⟨cA, g, ?_, h2⟩
  show hof ws' (B 128) = _
  rw [hh, hset_ne (hI.2.ne hI.1 bl_128 hd hn)]
  exact h1
/-- the reader's state: the counts' fields, and what of the machine's state is there -/
def rX (B : Nat → Nat) (s : pS) (km kv : Nat) (w : lW) : Prop := bI B w ∧ (∃ x : Int32, oF B 126 7 2 (.int x) w ∧ x.toInt = (km : Int)) ∧ (∃ x : Int32, oF B 126 7 3 (.int x) w ∧ x.toInt = (kv : Int)) ∧ (∃ f, aI B 127 60 f w ∧ ∀ j, j < s.1.1 → f j = s.1.2 j) ∧ (∃ V, vS B V w ∧ ∀ i, i < s.2.1 → ∀ x, x < 4 → V i x = s.2.2 i x) ∧ vR B w
def rS (B : Nat → Nat) (s : pS) (w : lW) : Prop := rX B s s.1.1 s.2.1 w
theorem rX.cut {B : Nat → Nat} {s s' : pS} {km kv : Nat} {w : lW} (h : rX B s km kv w) (h1 : s'.1.1 ≤ s.1.1) (h2 : s'.1.2 = s.1.2) (h3 : s'.2.1 ≤ s.2.1) (h4 : s'.2.2 = s.2.2) : rX B s' km kv w := by
  obtain ⟨a1, a2, a3, ⟨f, a4, a5⟩, ⟨V, a6, a7⟩, a8⟩ := h
  exact ⟨a1, a2, a3, ⟨f, a4, fun j hj => by rw [h2]; exact a5 j (by omega)⟩, ⟨V, a6, fun i hi x hx => by rw [h4]; exact a7 i (by omega) x hx⟩, a8⟩
theorem nat_i {x : Int32} {n : Nat} (h : x.toInt = (n : Int)) : x.toInt.toNat = n := by
  rw [h]
  rfl
theorem i_m1 {x : Int32} {n : Nat} (h : x.toInt = ((n + 1 : Nat) : Int)) : (x - 1).toInt = (n : Int) := by
  have z1 : (1 : Int32).toInt = 1 := by decide
  have h2 := Int32.toInt_lt x
  rw [i_sub (by rw [z1]; omega) (by rw [z1]; omega), z1]
  omega
theorem i_p1 {x : Int32} {n : Nat} (h : x.toInt = (n : Int)) (hn : n < 1000) : (x + 1).toInt = ((n + 1 : Nat) : Int) := by
  rw [i_inc (by omega) (by omega)]
  omega
section
variable {B : Nat → Nat} {s : pS} {km kv : Nat} {w w' : lW}
theorem rX.g31 (h : rX B s km kv w) : ∃ x : Int32, eG fl_X7 31 (hof w.1 (B 126)) = .int x ∧ x.toInt = (km : Int) := by
  obtain ⟨x, h1, h2⟩ := h.2.1
  exact ⟨x, h1.get rfl, h2⟩
theorem rX.g35 (h : rX B s km kv w) : ∃ x : Int32, eG fl_X7 35 (hof w.1 (B 126)) = .int x ∧ x.toInt = (kv : Int) := by
  obtain ⟨x, h1, h2⟩ := h.2.2.1
  exact ⟨x, h1.get rfl, h2⟩
theorem rX.g9 (h : rX B s km kv w) : eG fl_X7 9 (hof w.1 (B 126)) = .ref (B 127) := by
  obtain ⟨x, h1, h2⟩ := h.2.1
  exact bR h1 h.1 bl_126 rfl rfl
theorem rX.g19 (h : rX B s km kv w) : eG fl_X7 19 (hof w.1 (B 126)) = .ref (B 128) := by
  obtain ⟨x, h1, h2⟩ := h.2.1
  exact bR h1 h.1 bl_126 rfl rfl
theorem rX.mk (h : rX B s km kv w) {j : Nat} (hj : j < s.1.1) : eI (hof w.1 (B 127)) j = s.1.2 j := by
  obtain ⟨f, ⟨cA, h1⟩, h2⟩ := h.2.2.2.1
  rw [h1]
  exact h2 j hj
theorem rX.vl (h : rX B s km kv w) {j : Nat} (hj : j < 32) : eR (hof w.1 (B 128)) j = .ref (B (129 + 2 * j)) := by
  obtain ⟨cA, g, h1, h2⟩ := h.2.2.2.2.2
  rw [h1]
  show va_rf (g j) = _
  rw [h2 j hj]
  rfl
/-- a count written -/
theorem rX.p31 (h : rX B s km kv w) {q : Nat} {e0 : va_E} (hq : w.1[q]? = some (B 126, e0)) {E : Value} {x : Int32} {k : Nat} (hE : E = .int x) (hx : x.toInt = (k : Int)) : rX B s k kv (w.1.set q (B 126, sG pl_X7 31 E (hof w.1 (B 126))), w.2) := by
  subst hE
  obtain ⟨a1, ⟨y, a2, -⟩, ⟨z, a3, ez⟩, ⟨f, a4, a5⟩, ⟨V, a6, a7⟩, a8⟩ := h
  obtain ⟨b1, b2, b3, b4⟩ := oF.put (v' := .int x) (i := 31) (pl := pl_X7) a1 a2 bl_126 hq rfl (fun r h => by have h : some ((1, 0, 0) : mk_V) = some (2, 0, r) := h; cases h)
  exact ⟨b1, ⟨x, b3, hx⟩, ⟨z, b4 3 _ (by decide) a3, ez⟩, ⟨f, a4.upd a1 bl_127 bl_126 (by decide) b2, a5⟩, ⟨V, a6.st a1 bl_126 (by decide) b2, a7⟩, a8.upd a1 bl_126 (by decide) b2⟩
theorem rX.p35 (h : rX B s km kv w) {q : Nat} {e0 : va_E} (hq : w.1[q]? = some (B 126, e0)) {E : Value} {x : Int32} {k : Nat} (hE : E = .int x) (hx : x.toInt = (k : Int)) : rX B s km k (w.1.set q (B 126, sG pl_X7 35 E (hof w.1 (B 126))), w.2) := by
  subst hE
  obtain ⟨a1, ⟨y, a2, ey⟩, ⟨z, a3, -⟩, ⟨f, a4, a5⟩, ⟨V, a6, a7⟩, a8⟩ := h
  obtain ⟨b1, b2, b3, b4⟩ := oF.put (v' := .int x) (i := 35) (pl := pl_X7) a1 a3 bl_126 hq rfl (fun r h => by have h : some ((1, 0, 0) : mk_V) = some (2, 0, r) := h; cases h)
  exact ⟨b1, ⟨y, b4 2 _ (by decide) a2, ey⟩, ⟨x, b3, hx⟩, ⟨f, a4.upd a1 bl_127 bl_126 (by decide) b2, a5⟩, ⟨V, a6.st a1 bl_126 (by decide) b2, a7⟩, a8.upd a1 bl_126 (by decide) b2⟩
/-- a sign written above -/
theorem rX.w127 (h : rX B s km kv w) {q : Nat} {e0 : va_E} {E : Value} (hE : E = .ref (B 127)) (hq : w.1[q]? = some (rv_ E, e0)) {c : Int32} {i : Nat} (hi : i = s.1.1) : rX B ((s.1.1 + 1, upd s.1.2 s.1.1 c), s.2) km kv (w.1.set q (rv_ E, sI i c (hof w.1 (rv_ E))), w.2) := by
  obtain ⟨a1, ⟨y, a2, ey⟩, ⟨z, a3, ez⟩, ⟨f, ⟨cA, a4⟩, a5⟩, ⟨V, a6, a7⟩, a8⟩ := h
  obtain ⟨b1, b2⟩ := a1.wI bl_127 (by decide) (fun k r h => by cases h) hE hq (i := i) (v := c)
  refine ⟨b1, ⟨y, a2.upd a1 bl_126 bl_127 (by decide) b2, ey⟩, ⟨z, a3.upd a1 bl_126 bl_127 (by decide) b2, ez⟩, ⟨upd f i c, ⟨cA, ?_⟩, fun j hj => ?_⟩, ⟨V, a6.st a1 bl_127 (by decide) b2, a7⟩, a8.upd a1 bl_127 (by decide) b2⟩
  · rw [b2, hset_at]
    subst hE
    show some (sI i c (hof w.1 (B 127))) = _
    rw [a4]
    rfl
  · have hj : j < s.1.1 + 1 := hj
    show upd f i c j = upd s.1.2 s.1.1 c j
    rw [hi]
    by_cases e : j = s.1.1
    · rw [e, upd_at, upd_at]
    · rw [upd_ne e, upd_ne e]
      exact a5 j (by omega)
/-- a call that leaves the marks and counts -/
theorem rX.kV {rt : Nat} {Wr : List (Nat × Nat)} {T : fT} {cc : ByteArray} {As : List Value} {rv : Option Value} (h : rX B s km kv w) (hx : fLr (fq cw_TT cw_SG rt Wr T cc) As w rv w') (hk : bs_K.all (fun x => !(Wr.contains x)) = true) (hw : (12, 2) ∉ Wr ∧ (12, 3) ∉ Wr ∧ (25, 0) ∉ Wr) {v' : Nat → Nat → Int64} {n : Nat} (hV : ∀ V, vS B V w → (∀ i, i < s.2.1 → ∀ x, x < 4 → V i x = s.2.2 i x) → ∃ V', vS B V' w' ∧ ∀ i, i < n → ∀ x, x < 4 → V' i x = v' i x) : rX B (s.1, n, v') km kv w' := by
  obtain ⟨tys, -, hw2⟩ := hx.2.2.2.2.1
  obtain ⟨a1, ⟨y, a2, ey⟩, ⟨z, a3, ez⟩, ⟨f, a4, a5⟩, ⟨V, a6, a7⟩, -⟩ := h
  have b1 := a1.keep hx hk
  exact ⟨b1, ⟨y, a2.keep a1 hx bl_126 bt_126 hw.1, ey⟩, ⟨z, a3.keep a1 hx bl_126 bt_126 hw.2.1, ez⟩, ⟨f, a4.keep a1 hx bl_127 bt_127 (by decide) hw.2.2, a5⟩, hV V a6 a7, vR.of b1 hw2⟩
theorem rX.keep {rt : Nat} {Wr : List (Nat × Nat)} {T : fT} {cc : ByteArray} {As : List Value} {rv : Option Value} (h : rX B s km kv w) (hx : fLr (fq cw_TT cw_SG rt Wr T cc) As w rv w') (hk : bs_K.all (fun x => !(Wr.contains x)) = true) (hw : (12, 2) ∉ Wr ∧ (12, 3) ∉ Wr ∧ (25, 0) ∉ Wr) (hv : (93, 0) ∉ Wr) : rX B s km kv w' :=
  h.kV hx hk hw (fun V h1 h2 => ⟨V, h1.keep h.1 hx hv, h2⟩)
end
/-! what the filling of a set does -/
theorem fo_J7b : f_ok5 fl_J7 pl_J7 nw_J7 kl_J7 il_J7 = true := by decide +kernel
abbrev fiA : Type := Nat × ClassId × (Nat → Int64) × Int64
def P_fil : fPh := fun As h rv h' => ∀ a : fiA, As = [.ref a.1, .long a.2.2.2] → h a.1 = some (.inl (a.2.1, 4, .inr (.inl a.2.2.1))) → rv = none ∧ ∃ g : Nat → Int64, h' = hset h a.1 (.inl (a.2.1, 4, .inr (.inl g))) ∧ ∀ x, x < 4 → g x = a.2.2.2
def in_fil (a : Nat) (cA : ClassId) (f : Nat → Int64) (v : Int64) (h0 : fH) : fL_ → List Value → fH → Prop := fun lg vs w => ∃ (t : Int32) (g : Nat → Int64), f_sub [(3, false, .int t), (4, false, .int (Int32.ofNat 4)), (0, false, .ref a), (1, true, .long v)] lg ∧ vs = [] ∧ w = hset h0 a (.inl (cA, 4, .inr (.inl g))) ∧ 0 ≤ t.toInt ∧ t.toInt ≤ 4 ∧ ∀ x, x < 4 → g x = if x < t.toInt.toNat then v else f x
set_option maxHeartbeats 4000000 in
theorem s_J7_fil : f_do r_J7_fill_d0a16 P_fil := by
  refine do_ofP (fun a : fiA => [.ref a.1, .long a.2.2.2]) (fun a h => h a.1 = some (.inl (a.2.1, 4, .inr (.inl a.2.2.1)))) (fun a h rv h' => rv = none ∧ ∃ g : Nat → Int64, h' = hset h a.1 (.inl (a.2.1, 4, .inr (.inl g))) ∧ ∀ x, x < 4 → g x = a.2.2.2) [] (fun a h => [(6, in_fil a.1 a.2.1 a.2.2.1 a.2.2.2 h)]) 60 fo_J7b no_sp k_J7_fill_d0a16 (fun a h0 hp => ?_) (fun a h0 hp => ?_)
  · refine List.forall_mem_cons.mpr ⟨?_, fun _ h => absurd h List.not_mem_nil⟩
    obtain ⟨a, cA, f, v⟩ := a
    have ha : h0 a = some (.inl (cA, 4, .inr (.inl f))) := hp
    rintro lg vs w ⟨t, g, hs, rfl, ew, t0, t4, hg⟩
    have ew : w = hset h0 a (.inl (cA, 4, .inr (.inl g))) := ew
    have hg : ∀ x, x < 4 → g x = if x < t.toInt.toNat then v else f x := hg
    have wa : w a = some (.inl (cA, 4, .inr (.inl g))) := by rw [ew, hset_at]
    refine ⟨_, 60, hs, fun hc => ?_, fun hc => ?_⟩
    · have hc : (Int32.ofNat 4).toInt ≤ t.toInt := hc
      rw [e4_] at hc
      refine ⟨rfl, g, ew, fun x hx => ?_⟩
      rw [hg x hx, t_end t4 hc, if_pos hx]
    · have hc : ¬ (Int32.ofNat 4).toInt ≤ t.toInt := hc
      rw [e4_] at hc
      obtain ⟨i1, i2, i3⟩ := t_inc t0 (show t.toInt < 4 by omega)
      refine ⟨t + 1, vp_updL g t.toInt.toNat v, ⟨rfl, rfl, rfl, rfl, trivial⟩, rfl, ?_, i1, i2, ?_⟩
      · show hset w a (sJ t.toNatClampNeg v (w a)) = _
        rw [wa, ew]
        exact hset_hset
      · show ∀ x, x < 4 → vp_updL g t.toInt.toNat v x = if x < (t + 1).toInt.toNat then v else f x
        rw [i3]
        exact o_step (o := fun _ => v) hg (by omega)
  · obtain ⟨a, cA, f, v⟩ := a
    have ha : h0 a = some (.inl (cA, 4, .inr (.inl f))) := hp
    refine ⟨0, f, ⟨rfl, ?_, rfl, rfl, trivial⟩, rfl, (hset_self ha).symm, by decide, by decide, fun x _ => (if_neg (Nat.not_lt_zero x)).symm⟩
    show some (false, Value.int (Int32.ofNat (eL (h0 a)))) = some (false, .int (Int32.ofNat 4))
    rw [ha]
    rfl
def P_fc (v : Int64) : fPh := fun As h rv h' => ∀ a : bxA, As = [.ref a.1] → bx a h → rv = none ∧ ∃ g : Nat → Int64, h' = hset h a.2.2.1 (.inl (a.2.2.2.1, 4, .inr (.inl g))) ∧ ∀ x, x < 4 → g x = v
theorem s_X1_fillUp : f_do r_X1_fillUp (P_fc m1_) := by
  refine do_ofP (fun a : bxA => [.ref a.1]) (fun a h => bx a h) (fun a h rv h' => rv = none ∧ ∃ g : Nat → Int64, h' = hset h a.2.2.1 (.inl (a.2.2.2.1, 4, .inr (.inl g))) ∧ ∀ x, x < 4 → g x = m1_) [(58, 2, P_fil)] (fun _ _ => []) 40 fo_X1 (List.forall_mem_cons.mpr ⟨sp_one rfl s_J7_fil, no_sp⟩) k_X1_fillUp (fun _ _ _ => no_hd) (fun a h0 hp => ?_)
  obtain ⟨p, fs, a, cA, f⟩ := a
  obtain ⟨hp, h0a, ha⟩ := hp
  have hp : h0 p = some (.inr (1, fs)) := hp
  have h0a : fs.getD 0 .null = .ref a := h0a
  have g1 : eG fl_X1 13 (h0 p) = .ref a := by
    rw [hp, ← h0a]
    rfl
  intro rv h1 hx
  obtain ⟨rfl, h⟩ := hx (a, cA, f, m1_) (by show [eG fl_X1 13 (h0 p), Value.long m1_] = _; rw [g1]) ha
  exact ⟨rfl, h⟩
theorem s_X1_clear : f_do r_X1_clear (P_fc 0) := by
  refine do_ofP (fun a : bxA => [.ref a.1]) (fun a h => bx a h) (fun a h rv h' => rv = none ∧ ∃ g : Nat → Int64, h' = hset h a.2.2.1 (.inl (a.2.2.2.1, 4, .inr (.inl g))) ∧ ∀ x, x < 4 → g x = 0) [(58, 2, P_fil)] (fun _ _ => []) 40 fo_X1 (List.forall_mem_cons.mpr ⟨sp_one rfl s_J7_fil, no_sp⟩) k_X1_clear (fun _ _ _ => no_hd) (fun a h0 hp => ?_)
  obtain ⟨p, fs, a, cA, f⟩ := a
  obtain ⟨hp, h0a, ha⟩ := hp
  have hp : h0 p = some (.inr (1, fs)) := hp
  have h0a : fs.getD 0 .null = .ref a := h0a
  have g1 : eG fl_X1 13 (h0 p) = .ref a := by
    rw [hp, ← h0a]
    rfl
  intro rv h1 hx
  obtain ⟨rfl, h⟩ := hx (a, cA, f, 0) (by show [eG fl_X1 13 (h0 p), Value.long (Int64.ofNat 0)] = _; rw [g1]; rfl) ha
  exact ⟨rfl, h⟩
