/-! texts: the reference's reduce, pushes, operand -/
abbrev reA : Type := (Nat → Nat) × pS
def re_F : reA → List Value := fun (B, _) => [.ref (B 343)]
/-- a part done: the words below t -/
def prt (s : pS) (c : Int32) (t : Nat) : pS := (s.1, s.2.1, updW s.2.2 (s.2.1 - 2) (fun x => if x < t then rdV c (s.2.2 (s.2.1 - 2) x) (s.2.2 (s.2.1 - 1) x) else s.2.2 (s.2.1 - 2) x))
def in_e10 (B : Nat → Nat) (s : pS) : fL_ → List Value → lW → Prop := fun lg vs w => f_sub [(0, false, .ref (B 343))] lg ∧ vs = [] ∧ mX B s (s.1.1 - 1) s.2.1 w
def in_e30 (B : Nat → Nat) (s : pS) : fL_ → List Value → lW → Prop := fun lg vs w => f_sub [(1, false, .int (s.1.2 (s.1.1 - 1))), (0, false, .ref (B 343))] lg ∧ vs = [] ∧ mX B s (s.1.1 - 1) (s.2.1 - 1) w
def in_e32 (B : Nat → Nat) (s : pS) : fL_ → List Value → lW → Prop := fun lg vs w => ∃ t : Int32, f_sub [(2, false, .int t), (1, false, .int (s.1.2 (s.1.1 - 1))), (0, false, .ref (B 343))] lg ∧ vs = [] ∧ mX B (prt s (s.1.2 (s.1.1 - 1)) t.toInt.toNat) (s.1.1 - 1) (s.2.1 - 1) w ∧ 0 ≤ t.toInt ∧ t.toInt ≤ 4
def redS (s : pS) : pS := ((s.1.1 - 1, s.1.2), s.2.1 - 1, rdZ (s.1.2 (s.1.1 - 1)) s.2.2 s.2.1)
set_option maxHeartbeats 4000000 in
theorem s_X12_reduce : ∀ (a : reA) (w w' : lW) (rv : Option Value), fLr r_X12_reduce (re_F a) w rv w' → (mS a.1 a.2 w ∧ 0 < a.2.1.1 ∧ 2 ≤ a.2.2.1 ∧ a.2.2.1 ≤ 60) → rv = none ∧ mS a.1 (redS a.2) w' := by
  refine do_ofW re_F (fun a w => mS a.1 a.2 w ∧ 0 < a.2.1.1 ∧ 2 ≤ a.2.2.1 ∧ a.2.2.1 ≤ 60) (fun a _ rv w' => rv = none ∧ mS a.1 (redS a.2) w') [] (fun a _ => [(10, in_e10 a.1 a.2), (30, in_e30 a.1 a.2), (32, in_e32 a.1 a.2)]) 40 fo_X12 (fun _ h => absurd h List.not_mem_nil) k_X12_reduce (fun a w0 hp => ?_) (fun a w0 hp hd0 => ?_)
  · obtain ⟨B, s⟩ := a
    obtain ⟨-, m0, v2, v60⟩ := hp
    have m0 : 0 < s.1.1 := m0
    have v2 : 2 ≤ s.2.1 := v2
    have v60 : s.2.1 ≤ 60 := v60
    obtain ⟨k, ek⟩ : ∃ k, s.2.1 = k + 2 := ⟨s.2.1 - 2, by omega⟩
    refine List.forall_mem_cons.mpr ⟨?_, List.forall_mem_cons.mpr ⟨?_, List.forall_mem_cons.mpr ⟨?_, fun _ h => absurd h List.not_mem_nil⟩⟩⟩
    · rintro lg vs w ⟨hs, rfl, h⟩
      have h : mX B s (s.1.1 - 1) s.2.1 w := h
      obtain ⟨x, g1, ex⟩ := h.gm
      obtain ⟨y, g2, ey⟩ := h.gv
      refine ⟨_, 40, hs, ?_⟩
      intro q e0 hq
      have hq : w.1[q]? = some (B 343, e0) := hq
      have er : eI (hof w.1 (rv_ (eG fl_X12 20 (hof w.1 (B 343))))) (iv (eG fl_X12 167 (hof w.1 (B 343)))).toNatClampNeg = s.1.2 (s.1.1 - 1) := by
        rw [g1, h.g20]
        show eI (hof w.1 (B 347)) x.toInt.toNat = _
        rw [nat_i ex, h.mk (by omega)]
      refine ⟨⟨?_, rfl, trivial⟩, rfl, h.pv hq (x := y - 1) (show Value.int (iv (eG fl_X12 162 (hof w.1 (B 343))) - 1) = .int (y - 1) by rw [g2]; rfl) (by rw [ek, show k + 2 - 1 = k + 1 by omega]; exact i_m1 (by rw [ey, ek]))⟩
      show some (false, Value.int (eI (hof w.1 (rv_ (eG fl_X12 20 (hof w.1 (B 343))))) (iv (eG fl_X12 167 (hof w.1 (B 343)))).toNatClampNeg)) = _
      rw [er]
    · rintro lg vs w ⟨hs, rfl, h⟩
      have h : mX B s (s.1.1 - 1) (s.2.1 - 1) w := h
      refine ⟨_, 40, hs, 0, ⟨rfl, rfl, rfl, trivial⟩, rfl, mX.ext h (fun i hi y hy => ?_), by decide, by decide⟩
      show s.2.2 i y = updW s.2.2 (s.2.1 - 2) (fun x => if x < 0 then rdV (s.1.2 (s.1.1 - 1)) (s.2.2 (s.2.1 - 2) x) (s.2.2 (s.2.1 - 1) x) else s.2.2 (s.2.1 - 2) x) i y
      by_cases e : i = s.2.1 - 2
      · rw [e, updW_at, if_neg (Nat.not_lt_zero y)]
      · rw [updW_ne e]
    · rintro lg vs w ⟨t, hs, rfl, h, t0, t4⟩
      generalize ec : s.1.2 (s.1.1 - 1) = c at hs h
      have h : mX B (prt s c t.toInt.toNat) (s.1.1 - 1) (s.2.1 - 1) w := h
      have e4 : (Int32.ofInt 4).toInt = 4 := by decide
      have e38 : (Int32.ofInt 38).toInt = 38 := by decide
      have e124 : (Int32.ofInt 124).toInt = 124 := by decide
      obtain ⟨x, g1, ex⟩ := h.gv
      have ex : x.toInt = ((k + 1 : Nat) : Int) := by rw [ex, ek]; rfl
      have em : (x - 1).toInt = (k : Int) := i_m1 ex
      refine ⟨_, 80, hs, fun hc => ?_, fun hc => ?_⟩
      · have hc : (Int32.ofInt 4).toInt ≤ t.toInt := hc
        rw [e4] at hc
        refine ⟨rfl, ?_⟩
        show mX B ((s.1.1 - 1, s.1.2), s.2.1 - 1, rdZ (s.1.2 (s.1.1 - 1)) s.2.2 s.2.1) (s.1.1 - 1) (s.2.1 - 1) w
        have y : mX B (s.1, s.2.1, rdZ c s.2.2 s.2.1) (s.1.1 - 1) (s.2.1 - 1) w := mX.ext h (fun i hi y hy => by
          show updW s.2.2 (s.2.1 - 2) (fun x => if x < t.toInt.toNat then rdV c (s.2.2 (s.2.1 - 2) x) (s.2.2 (s.2.1 - 1) x) else s.2.2 (s.2.1 - 2) x) i y = updW s.2.2 (s.2.1 - 2) (fun x => rdV c (s.2.2 (s.2.1 - 2) x) (s.2.2 (s.2.1 - 1) x)) i y
          by_cases e : i = s.2.1 - 2
          · rw [e, updW_at, updW_at, if_pos (by omega)]
          · rw [updW_ne e, updW_ne e])
        rw [ec]
        exact y.cut (by show s.1.1 - 1 ≤ s.1.1; omega) rfl (by show s.2.1 - 1 ≤ s.2.1; omega) rfl
      have hc : ¬ (Int32.ofInt 4).toInt ≤ t.toInt := hc
      rw [e4] at hc
      obtain ⟨i1, i2, i3⟩ := t_inc t0 (show t.toInt < 4 by omega)
      have eiA : (Int32.ofInt 4 * (iv (eG fl_X12 162 (hof w.1 (B 343))) - 1) + t).toNatClampNeg = 4 * k + t.toInt.toNat := by
        rw [g1]
        show (Int32.ofInt 4 * (x - 1) + t).toInt.toNat = _
        rw [four_ix ⟨by omega, by omega⟩ t0 t4, nat_i em]
      have eiB : (Int32.ofInt 4 * iv (eG fl_X12 162 (hof w.1 (B 343))) + t).toNatClampNeg = 4 * (k + 1) + t.toInt.toNat := by
        rw [g1]
        show (Int32.ofInt 4 * x + t).toInt.toNat = _
        rw [four_ix ⟨by omega, by omega⟩ t0 t4, nat_i ex]
      have vA : eJ (hof w.1 (rv_ (eG fl_X12 17 (hof w.1 (B 343))))) (Int32.ofInt 4 * (iv (eG fl_X12 162 (hof w.1 (B 343))) - 1) + t).toNatClampNeg = s.2.2 k t.toInt.toNat := by
        rw [eiA, h.g17]
        show eJ (hof w.1 (B 346)) (4 * k + t.toInt.toNat) = _
        rw [h.vl (show k < s.2.1 by omega) (by omega)]
        show updW s.2.2 (s.2.1 - 2) (fun x => if x < t.toInt.toNat then rdV c (s.2.2 (s.2.1 - 2) x) (s.2.2 (s.2.1 - 1) x) else s.2.2 (s.2.1 - 2) x) k t.toInt.toNat = _
        rw [ek, show k + 2 - 2 = k by omega, updW_at, if_neg (Nat.lt_irrefl _)]
      have vB : eJ (hof w.1 (rv_ (eG fl_X12 17 (hof w.1 (B 343))))) (Int32.ofInt 4 * iv (eG fl_X12 162 (hof w.1 (B 343))) + t).toNatClampNeg = s.2.2 (k + 1) t.toInt.toNat := by
        rw [eiB, h.g17]
        show eJ (hof w.1 (B 346)) (4 * (k + 1) + t.toInt.toNat) = _
        rw [h.vl (show k + 1 < s.2.1 by omega) (by omega)]
        show updW s.2.2 (s.2.1 - 2) _ (k + 1) t.toInt.toNat = _
        rw [updW_ne (by omega)]
      have fin : ∀ {q : Nat} {e0 : va_E} {u : Int64} {L : fL_}, w.1[q]? = some (rv_ (eG fl_X12 17 (hof w.1 (B 343))), e0) → f_sub [(2, false, .int (t + 1)), (1, false, .int c), (0, false, .ref (B 343))] L → u = rdV c (s.2.2 k t.toInt.toNat) (s.2.2 (k + 1) t.toInt.toNat) → in_e32 B s L [] (w.1.set q (rv_ (eG fl_X12 17 (hof w.1 (B 343))), sJ (Int32.ofInt 4 * (iv (eG fl_X12 162 (hof w.1 (B 343))) - 1) + t).toNatClampNeg u (hof w.1 (rv_ (eG fl_X12 17 (hof w.1 (B 343)))))), w.2) := by
        intro q e0 u L hq hL hu
        have y := h.wv (j := k) h.g17 hq (u := u) eiA (show t.toInt.toNat < 4 by omega)
        refine ⟨t + 1, by rw [ec]; exact hL, rfl, ?_, i1, i2⟩
        rw [ec]
        refine mX.ext y (fun i hi z hz => ?_)
        show updW (updW s.2.2 (s.2.1 - 2) (fun x => if x < t.toInt.toNat then rdV c (s.2.2 (s.2.1 - 2) x) (s.2.2 (s.2.1 - 1) x) else s.2.2 (s.2.1 - 2) x)) k (fun x => if x = t.toInt.toNat then u else updW s.2.2 (s.2.1 - 2) (fun x => if x < t.toInt.toNat then rdV c (s.2.2 (s.2.1 - 2) x) (s.2.2 (s.2.1 - 1) x) else s.2.2 (s.2.1 - 2) x) k x) i z = updW s.2.2 (s.2.1 - 2) (fun x => if x < (t + 1).toInt.toNat then rdV c (s.2.2 (s.2.1 - 2) x) (s.2.2 (s.2.1 - 1) x) else s.2.2 (s.2.1 - 2) x) i z
        rw [ek, show k + 2 - 2 = k by omega, show k + 2 - 1 = k + 1 by omega, i3]
        by_cases e : i = k
        · rw [e, updW_at, updW_at, updW_at]
          by_cases ez : z = t.toInt.toNat
          · rw [if_pos ez, if_pos (by omega), hu, ez]
          · rw [if_neg ez]
            by_cases hl : z < t.toInt.toNat
            · rw [if_pos hl, if_pos (by omega)]
            · rw [if_neg hl, if_neg (by omega)]
        · rw [updW_ne e, updW_ne e, updW_ne e]
      refine ⟨fun h1 => ⟨fun h2 => ?_, fun h2 => ?_⟩, fun h1 => ?_⟩
      · have h1 : ¬ c.toInt = (Int32.ofInt 38).toInt := h1
        rw [e38] at h1
        have h2 : ¬ c.toInt = (Int32.ofInt 124).toInt := h2
        rw [e124] at h2
        intro q e0 hq
        refine fin (u := (eJ (hof w.1 (rv_ (eG fl_X12 17 (hof w.1 (B 343))))) (Int32.ofInt 4 * (iv (eG fl_X12 162 (hof w.1 (B 343))) - 1) + t).toNatClampNeg ^^^ m1_) ||| eJ (hof w.1 (rv_ (eG fl_X12 17 (hof w.1 (B 343))))) (Int32.ofInt 4 * iv (eG fl_X12 162 (hof w.1 (B 343))) + t).toNatClampNeg) hq ⟨rfl, rfl, rfl, trivial⟩ ?_
        rw [vA, vB]
        unfold rdV
        rw [if_neg h1, if_neg h2]
        rfl
      · have h1 : ¬ c.toInt = (Int32.ofInt 38).toInt := h1
        rw [e38] at h1
        have h2 : ¬ ¬ c.toInt = (Int32.ofInt 124).toInt := h2
        rw [e124] at h2
        intro q e0 hq
        refine fin (u := eJ (hof w.1 (rv_ (eG fl_X12 17 (hof w.1 (B 343))))) (Int32.ofInt 4 * (iv (eG fl_X12 162 (hof w.1 (B 343))) - 1) + t).toNatClampNeg ||| eJ (hof w.1 (rv_ (eG fl_X12 17 (hof w.1 (B 343))))) (Int32.ofInt 4 * iv (eG fl_X12 162 (hof w.1 (B 343))) + t).toNatClampNeg) hq ⟨rfl, rfl, rfl, trivial⟩ ?_
        rw [vA, vB]
        unfold rdV
        rw [if_neg h1, if_pos (Classical.not_not.mp h2)]
        rfl
      · have h1 : ¬ ¬ c.toInt = (Int32.ofInt 38).toInt := h1
        rw [e38] at h1
        intro q e0 hq
        refine fin (u := eJ (hof w.1 (rv_ (eG fl_X12 17 (hof w.1 (B 343))))) (Int32.ofInt 4 * (iv (eG fl_X12 162 (hof w.1 (B 343))) - 1) + t).toNatClampNeg &&& eJ (hof w.1 (rv_ (eG fl_X12 17 (hof w.1 (B 343))))) (Int32.ofInt 4 * iv (eG fl_X12 162 (hof w.1 (B 343))) + t).toNatClampNeg) hq ⟨rfl, rfl, rfl, trivial⟩ ?_
        rw [vA, vB]
        unfold rdV
        rw [if_pos (Classical.not_not.mp h1)]
        rfl
  · obtain ⟨B, s⟩ := a
    obtain ⟨h, m0, -, -⟩ := hp
    have h : mX B s s.1.1 s.2.1 w0 := h
    have m0 : 0 < s.1.1 := m0
    obtain ⟨k, ek⟩ : ∃ k, s.1.1 = k + 1 := ⟨s.1.1 - 1, by omega⟩
    obtain ⟨x, g1, ex⟩ := h.gm
    intro q e0 hq
    have hq : w0.1[q]? = some (B 343, e0) := hq
    exact ⟨⟨rfl, trivial⟩, rfl, h.pm hq (x := x - 1) (show Value.int (iv (eG fl_X12 167 (hof w0.1 (B 343))) - 1) = .int (x - 1) by rw [g1]; rfl) (by rw [ek, Nat.add_sub_cancel]; exact i_m1 (by rw [ex, ek]))⟩
/-- a constant value pushed -/
abbrev plA : Type := (Nat → Nat) × pS × Bool
def pl_F : plA → List Value := fun (B, _, b) => [.ref (B 343), .int (wv b)]
def cW (b : Bool) : Int64 := if b = true then m1_ else 0
def in_pl (B : Nat → Nat) (s : pS) (b : Bool) : fL_ → List Value → lW → Prop := fun lg vs w => ∃ (t : Int32) (G : Nat → Int64), f_sub [(2, false, .int t), (0, false, .ref (B 343)), (1, false, .int (wv b))] lg ∧ vs = [] ∧ mX B (s.1, s.2.1 + 1, updW s.2.2 s.2.1 G) s.1.1 s.2.1 w ∧ 0 ≤ t.toInt ∧ t.toInt ≤ 4 ∧ ∀ x, x < t.toInt.toNat → G x = cW b
def pshV (f : Nat → Int64) (s : pS) : pS := (s.1, s.2.1 + 1, updW s.2.2 s.2.1 f)
set_option maxHeartbeats 4000000 in
theorem s_X12_pushAll : ∀ (a : plA) (w w' : lW) (rv : Option Value), fLr r_X12_pushAll (pl_F a) w rv w' → (mS a.1 a.2.1 w ∧ a.2.1.2.1 < 60) → rv = none ∧ mS a.1 (pshV (fun _ => cW a.2.2) a.2.1) w' := by
  refine do_ofW pl_F (fun a w => mS a.1 a.2.1 w ∧ a.2.1.2.1 < 60) (fun a _ rv w' => rv = none ∧ mS a.1 (pshV (fun _ => cW a.2.2) a.2.1) w') [] (fun a _ => [(2, in_pl a.1 a.2.1 a.2.2)]) 40 fo_X12 (fun _ h => absurd h List.not_mem_nil) k_X12_pushAll (fun a w0 hp => ?_) (fun a w0 hp hd0 => ?_)
  · refine List.forall_mem_cons.mpr ⟨?_, fun _ h => absurd h List.not_mem_nil⟩
    obtain ⟨B, s, b⟩ := a
    obtain ⟨-, h60⟩ := hp
    have h60 : s.2.1 < 60 := h60
    rintro lg vs w ⟨t, G, hs, rfl, h, t0, t4, hG⟩
    have h : mX B (s.1, s.2.1 + 1, updW s.2.2 s.2.1 G) s.1.1 s.2.1 w := h
    have e4 : (Int32.ofInt 4).toInt = 4 := by decide
    obtain ⟨x, g1, ex⟩ := h.gv
    refine ⟨_, 60, hs, fun hc => ?_, fun hc => ?_⟩
    · have hc : (Int32.ofInt 4).toInt ≤ t.toInt := hc
      rw [e4] at hc
      intro q e0 hq
      have hq : w.1[q]? = some (B 343, e0) := hq
      refine ⟨rfl, ?_⟩
      have y := h.pv hq (x := x + 1) (show Value.int (iv (eG fl_X12 162 (hof w.1 (B 343))) + 1) = .int (x + 1) by rw [g1]; rfl) (i_p1 ex (by omega))
      refine mX.ext y (fun i hi z hz => ?_)
      show updW s.2.2 s.2.1 G i z = updW s.2.2 s.2.1 (fun _ => cW b) i z
      by_cases e : i = s.2.1
      · rw [e, updW_at, updW_at]
        exact hG z (by omega)
      · rw [updW_ne e, updW_ne e]
    · have hc : ¬ (Int32.ofInt 4).toInt ≤ t.toInt := hc
      rw [e4] at hc
      obtain ⟨i1, i2, i3⟩ := t_inc t0 (show t.toInt < 4 by omega)
      have ei : (Int32.ofInt 4 * iv (eG fl_X12 162 (hof w.1 (B 343))) + t).toNatClampNeg = 4 * s.2.1 + t.toInt.toNat := by
        rw [g1]
        show (Int32.ofInt 4 * x + t).toInt.toNat = _
        rw [four_ix ⟨by omega, by omega⟩ t0 t4, nat_i ex]
      have fin : ∀ {q : Nat} {e0 : va_E} {u : Int64} {L : fL_}, w.1[q]? = some (rv_ (eG fl_X12 17 (hof w.1 (B 343))), e0) → f_sub [(2, false, .int (t + 1)), (0, false, .ref (B 343)), (1, false, .int (wv b))] L → u = cW b → in_pl B s b L [] (w.1.set q (rv_ (eG fl_X12 17 (hof w.1 (B 343))), sJ (Int32.ofInt 4 * iv (eG fl_X12 162 (hof w.1 (B 343))) + t).toNatClampNeg u (hof w.1 (rv_ (eG fl_X12 17 (hof w.1 (B 343)))))), w.2) := by
        intro q e0 u L hq hL hu
        have y := h.wv (j := s.2.1) h.g17 hq (u := u) ei (show t.toInt.toNat < 4 by omega)
        refine ⟨t + 1, fun x => if x = t.toInt.toNat then u else G x, hL, rfl, ?_, i1, i2, fun z hz => ?_⟩
        · refine mX.ext y (fun i hi z hz => ?_)
          show updW (updW s.2.2 s.2.1 G) s.2.1 (fun x => if x = t.toInt.toNat then u else updW s.2.2 s.2.1 G s.2.1 x) i z = updW s.2.2 s.2.1 (fun x => if x = t.toInt.toNat then u else G x) i z
          by_cases e : i = s.2.1
          · rw [e, updW_at, updW_at, updW_at]
          · rw [updW_ne e, updW_ne e, updW_ne e]
        · rw [i3] at hz
          show (if z = t.toInt.toNat then u else G z) = cW b
          by_cases ez : z = t.toInt.toNat
          · rw [if_pos ez, hu]
          · rw [if_neg ez]
            exact hG z (by omega)
      cases b with
      | true =>
        refine ⟨fun hb => absurd (show (1 : Int32).toInt = 0 from hb) (by decide), fun _ => ?_⟩
        intro q e0 hq
        exact fin hq ⟨rfl, rfl, rfl, trivial⟩ rfl
      | false =>
        refine ⟨fun _ => ?_, fun hb => absurd (show (0 : Int32).toInt = 0 by decide) hb⟩
        intro q e0 hq
        exact fin hq ⟨rfl, rfl, rfl, trivial⟩ rfl
  · obtain ⟨B, s, b⟩ := a
    obtain ⟨h, -⟩ := hp
    obtain ⟨G, hG⟩ := mX.up h
    exact ⟨0, G, ⟨rfl, rfl, rfl, trivial⟩, rfl, hG, by decide, by decide, fun x hx => absurd hx (Nat.not_lt_zero x)⟩
