/-! texts: the reference's methods one by one -/
theorem mX.ext {B : Nat → Nat} {s : pS} {km kv : Nat} {w : lW} (h : mX B s km kv w) {v' : Nat → Nat → Int64} (hv : ∀ i, i < s.2.1 → ∀ x, x < 4 → s.2.2 i x = v' i x) : mX B (s.1, s.2.1, v') km kv w := by
  obtain ⟨a1, a2, a3, a4, ⟨V, a6, a7⟩⟩ := h
  exact ⟨a1, a2, a3, a4, ⟨V, a6, fun i hi x hx => by rw [a7 i hi x hx]; exact hv i hi x hx⟩⟩
theorem mX.up {B : Nat → Nat} {s : pS} {km kv : Nat} {w : lW} (h : mX B s km kv w) : ∃ G, mX B (s.1, s.2.1 + 1, updW s.2.2 s.2.1 G) km kv w := by
  obtain ⟨a1, a2, a3, a4, ⟨V, a6, a7⟩⟩ := h
  refine ⟨fun x => V (4 * s.2.1 + x), a1, a2, a3, a4, ⟨V, a6, fun i hi x hx => ?_⟩⟩
  have hi : i < s.2.1 + 1 := hi
  show V (4 * i + x) = updW s.2.2 s.2.1 (fun x => V (4 * s.2.1 + x)) i x
  by_cases e : i = s.2.1
  · rw [e, updW_at]
  · rw [updW_ne e]
    exact a7 i (by omega) x hx
/-- a word of one value written -/
theorem mX.wv {B : Nat → Nat} {s : pS} {km kv : Nat} {w : lW} (h : mX B s km kv w) {q : Nat} {e0 : va_E} {E : Value} (hE : E = .ref (B 346)) (hq : w.1[q]? = some (rv_ E, e0)) {u : Int64} {d j t : Nat} (hd : d = 4 * j + t) (ht : t < 4) : mX B (s.1, s.2.1, updW s.2.2 j (fun x => if x = t then u else s.2.2 j x)) km kv (w.1.set q (rv_ E, sJ d u (hof w.1 (rv_ E))), w.2) := by
  refine h.w346 hE hq (fun g hg i hi x hx => ?_)
  unfold vp_updL
  by_cases e : i = j
  · subst e
    rw [updW_at]
    by_cases ex : x = t
    · rw [if_pos (by omega), if_pos ex]
    · rw [if_neg (by omega), if_neg ex]
      exact hg i hi x hx
  · rw [updW_ne e, if_neg (by omega)]
    exact hg i hi x hx
/-- the top value turned -/
abbrev tmA : Type := (Nat → Nat) × pS × Nat
def tm_F : tmA → List Value := fun (B, _, _) => [.ref (B 343)]
def in_tt (B : Nat → Nat) (s : pS) (km : Nat) : fL_ → List Value → lW → Prop := fun lg vs w => ∃ t : Int32, f_sub [(1, false, .int t), (0, false, .ref (B 343))] lg ∧ vs = [] ∧ mX B (s.1, s.2.1, updW s.2.2 (s.2.1 - 1) (fun x => if x < t.toInt.toNat then o_turn (s.2.2 (s.2.1 - 1) x) else s.2.2 (s.2.1 - 1) x)) km s.2.1 w ∧ 0 ≤ t.toInt ∧ t.toInt ≤ 4
set_option maxHeartbeats 4000000 in
theorem s_X12_turnTop : ∀ (a : tmA) (w w' : lW) (rv : Option Value), fLr r_X12_turnTop (tm_F a) w rv w' → (mX a.1 a.2.1 a.2.2 a.2.1.2.1 w ∧ 0 < a.2.1.2.1 ∧ a.2.1.2.1 ≤ 60) → rv = none ∧ mX a.1 (a.2.1.1, a.2.1.2.1, updW a.2.1.2.2 (a.2.1.2.1 - 1) (fun x => o_turn (a.2.1.2.2 (a.2.1.2.1 - 1) x))) a.2.2 a.2.1.2.1 w' := by
  refine do_ofW tm_F (fun a w => mX a.1 a.2.1 a.2.2 a.2.1.2.1 w ∧ 0 < a.2.1.2.1 ∧ a.2.1.2.1 ≤ 60) (fun a _ rv w' => rv = none ∧ mX a.1 (a.2.1.1, a.2.1.2.1, updW a.2.1.2.2 (a.2.1.2.1 - 1) (fun x => o_turn (a.2.1.2.2 (a.2.1.2.1 - 1) x))) a.2.2 a.2.1.2.1 w') [] (fun a _ => [(2, in_tt a.1 a.2.1 a.2.2)]) 40 fo_X12 (fun _ h => absurd h List.not_mem_nil) k_X12_turnTop (fun a w0 hp => ?_) (fun a w0 hp hd0 => ?_)
  · refine List.forall_mem_cons.mpr ⟨?_, fun _ h => absurd h List.not_mem_nil⟩
    obtain ⟨B, s, km⟩ := a
    obtain ⟨-, h0, h60⟩ := hp
    have h0 : 0 < s.2.1 := h0
    have h60 : s.2.1 ≤ 60 := h60
    obtain ⟨k, ek⟩ : ∃ k, s.2.1 = k + 1 := ⟨s.2.1 - 1, by omega⟩
    rintro lg vs w ⟨t, hs, rfl, h, t0, t4⟩
    have h : mX B (s.1, s.2.1, updW s.2.2 (s.2.1 - 1) (fun x => if x < t.toInt.toNat then o_turn (s.2.2 (s.2.1 - 1) x) else s.2.2 (s.2.1 - 1) x)) km s.2.1 w := h
    have e4 : (Int32.ofInt 4).toInt = 4 := by decide
    obtain ⟨x, g1, ex⟩ := h.gv
    have em : (x - 1).toInt = (k : Int) := i_m1 (by rw [ex, ek])
    refine ⟨_, 60, hs, fun hc => ?_, fun hc => ?_⟩
    · have hc : (Int32.ofInt 4).toInt ≤ t.toInt := hc
      rw [e4] at hc
      refine ⟨rfl, h.ext (fun i hi y hy => ?_)⟩
      show updW s.2.2 (s.2.1 - 1) (fun x => if x < t.toInt.toNat then o_turn (s.2.2 (s.2.1 - 1) x) else s.2.2 (s.2.1 - 1) x) i y = updW s.2.2 (s.2.1 - 1) (fun x => o_turn (s.2.2 (s.2.1 - 1) x)) i y
      by_cases e : i = s.2.1 - 1
      · rw [e, updW_at, updW_at, if_pos (by omega)]
      · rw [updW_ne e, updW_ne e]
    · have hc : ¬ (Int32.ofInt 4).toInt ≤ t.toInt := hc
      rw [e4] at hc
      obtain ⟨i1, i2, i3⟩ := t_inc t0 (show t.toInt < 4 by omega)
      intro q e0 hq
      have ei : (Int32.ofInt 4 * (iv (eG fl_X12 162 (hof w.1 (B 343))) - 1) + t).toNatClampNeg = 4 * (s.2.1 - 1) + t.toInt.toNat := by
        rw [g1]
        show (Int32.ofInt 4 * (x - 1) + t).toInt.toNat = _
        rw [four_ix ⟨by omega, by omega⟩ t0 t4, nat_i em, ek]
        rfl
      have y := h.wv (j := s.2.1 - 1) h.g17 hq (u := eJ (hof w.1 (rv_ (eG fl_X12 17 (hof w.1 (B 343))))) (Int32.ofInt 4 * (iv (eG fl_X12 162 (hof w.1 (B 343))) - 1) + t).toNatClampNeg ^^^ m1_) ei (show t.toInt.toNat < 4 by omega)
      refine ⟨t + 1, ⟨rfl, rfl, trivial⟩, rfl, ?_, i1, i2⟩
      refine mX.ext y (fun i hi z hz => ?_)
      show updW (updW s.2.2 (s.2.1 - 1) (fun x => if x < t.toInt.toNat then o_turn (s.2.2 (s.2.1 - 1) x) else s.2.2 (s.2.1 - 1) x)) (s.2.1 - 1) _ i z = updW s.2.2 (s.2.1 - 1) (fun x => if x < (t + 1).toInt.toNat then o_turn (s.2.2 (s.2.1 - 1) x) else s.2.2 (s.2.1 - 1) x) i z
      by_cases e : i = s.2.1 - 1
      · rw [e, updW_at, updW_at, i3]
        by_cases ez : z = t.toInt.toNat
        · rw [if_pos ez, if_pos (by omega), ei, h.g17]
          show eJ (hof w.1 (B 346)) (4 * (s.2.1 - 1) + t.toInt.toNat) ^^^ m1_ = _
          rw [h.vl (show s.2.1 - 1 < s.2.1 by omega) (by omega)]
          show updW s.2.2 (s.2.1 - 1) (fun x => if x < t.toInt.toNat then o_turn (s.2.2 (s.2.1 - 1) x) else s.2.2 (s.2.1 - 1) x) (s.2.1 - 1) t.toInt.toNat ^^^ m1_ = _
          rw [updW_at, if_neg (Nat.lt_irrefl _), ez]
          rfl
        · rw [if_neg ez]
          show updW s.2.2 (s.2.1 - 1) (fun x => if x < t.toInt.toNat then o_turn (s.2.2 (s.2.1 - 1) x) else s.2.2 (s.2.1 - 1) x) (s.2.1 - 1) z = _
          rw [updW_at]
          by_cases hl : z < t.toInt.toNat
          · rw [if_pos hl, if_pos (by omega)]
          · rw [if_neg hl, if_neg (by omega)]
      · rw [updW_ne e, updW_ne e, updW_ne e]
  · obtain ⟨B, s, km⟩ := a
    obtain ⟨h, h0, h60⟩ := hp
    refine ⟨0, ⟨rfl, rfl, trivial⟩, rfl, mX.ext h (fun i hi y hy => ?_), by decide, by decide⟩
    show s.2.2 i y = updW s.2.2 (s.2.1 - 1) (fun x => if x < 0 then o_turn (s.2.2 (s.2.1 - 1) x) else s.2.2 (s.2.1 - 1) x) i y
    by_cases e : i = s.2.1 - 1
    · rw [e, updW_at, if_neg (Nat.not_lt_zero y)]
    · rw [updW_ne e]
/-- minus signs -/
abbrev tuA : Type := (Nat → Nat) × pS
def tu_F : tuA → List Value := fun (B, _) => [.ref (B 343)]
def in_u0 (B : Nat → Nat) (T : pS) : fL_ → List Value → lW → Prop := fun lg vs w => ∃ s : pS, f_sub [(0, false, .ref (B 343))] lg ∧ vs = [] ∧ mS B s w ∧ tdS s = T ∧ 0 < s.2.1 ∧ s.2.1 ≤ 60
def Sp_tu : fP lW := [(510, 1, fLr r_X12_turnTop)]
theorem Sp_tu_ok : f_sp T_X12_turned Sp_tu wW := List.forall_mem_cons.mpr ⟨sp_w rfl (fun _ _ _ _ _ _ h => h.2.2.1), fun _ h => absurd h List.not_mem_nil⟩
def in_u33 (B : Nat → Nat) (T : pS) : fL_ → List Value → lW → Prop := fun lg vs w => ∃ s : pS, f_sub [(0, false, .ref (B 343))] lg ∧ vs = [] ∧ mX B s (s.1.1 - 1) s.2.1 w ∧ tdS s = T ∧ (0 < s.2.1 ∧ s.2.1 ≤ 60) ∧ 0 < s.1.1 ∧ (s.1.2 (s.1.1 - 1)).toInt = 45
set_option maxHeartbeats 4000000 in
theorem s_X12_turned : ∀ (a : tuA) (w w' : lW) (rv : Option Value), fLr r_X12_turned (tu_F a) w rv w' → (mS a.1 a.2 w ∧ 0 < a.2.2.1 ∧ a.2.2.1 ≤ 60) → rv = none ∧ mS a.1 (tdS a.2) w' := by
  refine do_ofW tu_F (fun a w => mS a.1 a.2 w ∧ 0 < a.2.2.1 ∧ a.2.2.1 ≤ 60) (fun a _ rv w' => rv = none ∧ mS a.1 (tdS a.2) w') Sp_tu (fun a _ => [(0, in_u0 a.1 (tdS a.2)), (33, in_u33 a.1 (tdS a.2))]) 40 fo_X12 Sp_tu_ok k_X12_turned (fun a w0 hp => ?_) (fun a w0 hp hd0 => ?_)
  · obtain ⟨B, s0⟩ := a
    have e45 : (Int32.ofInt 45).toInt = 45 := by decide
    refine List.forall_mem_cons.mpr ⟨?_, List.forall_mem_cons.mpr ⟨?_, fun _ h => absurd h List.not_mem_nil⟩⟩
    · rintro lg vs w ⟨s, hs, rfl, h, eT, hv⟩
      have h : mX B s s.1.1 s.2.1 w := h
      have eT : tdS s = tdS s0 := eT
      obtain ⟨x, g1, ex⟩ := h.gm
      refine ⟨_, 40, hs, fun hc => ?_, fun hc => ⟨fun hd => ?_, fun hd => ?_⟩⟩
      · have hc : (iv (eG fl_X12 167 (hof w.1 (B 343)))).toInt ≤ 0 := hc
        rw [g1] at hc
        have hc : x.toInt ≤ 0 := hc
        refine ⟨rfl, ?_⟩
        show mS B (tdS s0) w
        rw [← eT, tdS_no (Or.inl (by omega))]
        exact h
      all_goals
        have hc : ¬ (iv (eG fl_X12 167 (hof w.1 (B 343)))).toInt ≤ 0 := hc
        rw [g1] at hc
        have hc : ¬ x.toInt ≤ 0 := hc
        obtain ⟨k, ek⟩ : ∃ k, s.1.1 = k + 1 := ⟨s.1.1 - 1, by omega⟩
        have em : (x - 1).toInt = (k : Int) := i_m1 (by rw [ex, ek])
        have er : eI (hof w.1 (rv_ (eG fl_X12 20 (hof w.1 (B 343))))) (iv (eG fl_X12 167 (hof w.1 (B 343))) - 1).toNatClampNeg = s.1.2 (s.1.1 - 1) := by
          rw [g1, h.g20]
          show eI (hof w.1 (B 347)) (x - 1).toInt.toNat = _
          rw [nat_i em, h.mk (by omega), ek]
          rfl
      · have hd : ¬ (eI (hof w.1 (rv_ (eG fl_X12 20 (hof w.1 (B 343))))) (iv (eG fl_X12 167 (hof w.1 (B 343))) - 1).toNatClampNeg).toInt = (Int32.ofInt 45).toInt := hd
        rw [er, e45] at hd
        refine ⟨rfl, ?_⟩
        show mS B (tdS s0) w
        rw [← eT, tdS_no (Or.inr hd)]
        exact h
      · have hd : ¬ ¬ (eI (hof w.1 (rv_ (eG fl_X12 20 (hof w.1 (B 343))))) (iv (eG fl_X12 167 (hof w.1 (B 343))) - 1).toNatClampNeg).toInt = (Int32.ofInt 45).toInt := hd
        rw [er, e45] at hd
        intro q e0 hq
        have hq : w.1[q]? = some (B 343, e0) := hq
        refine ⟨s, ⟨rfl, trivial⟩, rfl, ?_, eT, hv, (show 0 < s.1.1 by omega), Classical.not_not.mp hd⟩
        exact h.pm hq (x := x - 1) (show Value.int (iv (eG fl_X12 167 (hof w.1 (B 343))) - 1) = .int (x - 1) by rw [g1]; rfl) (by rw [em, ek]; rfl)
    · rintro lg vs w ⟨s, hs, rfl, h, eT, hv, h0, ht⟩
      have h : mX B s (s.1.1 - 1) s.2.1 w := h
      have eT : tdS s = tdS s0 := eT
      refine ⟨_, 40, hs, ?_⟩
      intro rv w1 hx
      have hx : fLr r_X12_turnTop [.ref (B 343)] w rv w1 := hx
      obtain ⟨rfl, a1⟩ := s_X12_turnTop (B, s, s.1.1 - 1) w w1 rv hx ⟨h, hv⟩
      have a1 : mX B (s.1, s.2.1, updW s.2.2 (s.2.1 - 1) (fun x => o_turn (s.2.2 (s.2.1 - 1) x))) (s.1.1 - 1) s.2.1 w1 := a1
      refine ⟨((s.1.1 - 1, s.1.2), s.2.1, updW s.2.2 (s.2.1 - 1) (fun x => o_turn (s.2.2 (s.2.1 - 1) x))), ⟨rfl, trivial⟩, rfl, ?_, ?_, hv⟩
      · exact a1.cut (by show s.1.1 - 1 ≤ s.1.1; omega) rfl (Nat.le_refl _) rfl
      · rw [← eT]
        exact (tdS_yes h0 ht).symm
  · obtain ⟨B, s0⟩ := a
    exact ⟨s0, ⟨rfl, trivial⟩, rfl, hp.1, rfl, hp.2⟩
