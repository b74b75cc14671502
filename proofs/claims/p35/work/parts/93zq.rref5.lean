/-! texts: the reference's operators -/
def lvl (c : Int32) : Int := if c.toInt = 41 then 1 else if (rkc c).toInt ≤ 2 then 2 else 3
theorem lvl_1 {c : Int32} : 1 ≤ lvl c := by
  unfold lvl
  split
  · decide
  · split <;> decide
theorem rkc_v {c : Int32} : ((rkc c).toInt = 3 ∧ c.toInt = 38) ∨ ((rkc c).toInt = 2 ∧ c.toInt = 124) ∨ ((rkc c).toInt = 1 ∧ c.toInt = 62) ∨ ((rkc c).toInt = 0 ∧ ¬ (c.toInt = 38 ∨ c.toInt = 124 ∨ c.toInt = 62)) := by
  unfold rkc
  by_cases h1 : c.toInt = 38
  · rw [if_pos h1]
    exact Or.inl ⟨by decide, h1⟩
  · rw [if_neg h1]
    by_cases h2 : c.toInt = 124
    · rw [if_pos h2]
      exact Or.inr (Or.inl ⟨by decide, h2⟩)
    · rw [if_neg h2]
      by_cases h3 : c.toInt = 62
      · rw [if_pos h3]
        exact Or.inr (Or.inr (Or.inl ⟨by decide, h3⟩))
      · rw [if_neg h3]
        exact Or.inr (Or.inr (Or.inr ⟨by decide, by omega⟩))
theorem lvl_ok {c t : Int32} (hc : 0 < (rkc c).toInt ∨ c.toInt = 41) (ht : 0 < (rkc t).toInt) : ((rkc c).toInt < (rkc t).toInt ∨ ((rkc t).toInt = (rkc c).toInt ∧ ¬ c.toInt = 62)) ↔ lvl c ≤ (rkc t).toInt := by
  unfold lvl
  have h1 := rkc_v (c := c)
  have h2 := rkc_v (c := t)
  by_cases e : c.toInt = 41
  · rw [if_pos e]
    omega
  · rw [if_neg e]
    by_cases e2 : (rkc c).toInt ≤ 2
    · rw [if_pos e2]
      omega
    · rw [if_neg e2]
      omega
theorem tp_ok {o i : Nat} {s : pS} (h : okS false o i s) {k : Nat} (hk : 0 < k) (hk2 : k ≤ s.1.1) (hb : ∀ j, k ≤ j → j < s.1.1 → 0 < (rkc (s.1.2 j)).toInt) : (s.1.2 (k - 1)).toInt = 40 ∨ 0 < (rkc (s.1.2 (k - 1))).toInt := by
  obtain ⟨-, -, -, -, h5⟩ := h
  obtain ⟨g1, g2⟩ := h5 (k - 1) (by omega)
  rcases g1 with g1 | g1 | g1
  · exact Or.inl g1
  · obtain ⟨y1, y2⟩ := g2 g1
    by_cases e : k = s.1.1
    · cases y1 (by omega)
    · exact absurd (hb k (Nat.le_refl _) (by omega)) (by
        have y := y2 (by omega)
        rw [show k - 1 + 1 = k by omega] at y
        exact y)
  · exact Or.inr g1
/-- where the loop stands -/
def atS (o i : Nat) (s0 s : pS) : Prop := okS false o i s0 ∧ s.1.2 = s0.1.2 ∧ s.1.1 ≤ s0.1.1 ∧ (∀ j, s.1.1 ≤ j → j < s0.1.1 → 0 < (rkc (s0.1.2 j)).toInt) ∧ s.2.1 ≤ s0.2.1
theorem atS.top {o i : Nat} {s0 s : pS} (h : atS o i s0 s) (h0 : 0 < s.1.1) : (s.1.2 (s.1.1 - 1)).toInt = 40 ∨ 0 < (rkc (s.1.2 (s.1.1 - 1))).toInt := by
  obtain ⟨h1, h2, h3, h4, -⟩ := h
  rw [h2]
  exact tp_ok h1 h0 h3 h4
theorem atS.red {o i : Nat} {s0 s : pS} (h : atS o i s0 s) (h0 : 0 < s.1.1) (hr : 0 < (rkc (s.1.2 (s.1.1 - 1))).toInt) : atS o i s0 (redS s) := by
  obtain ⟨h1, h2, h3, h4, h5⟩ := h
  refine ⟨h1, h2, by show s.1.1 - 1 ≤ s0.1.1; omega, fun j g1 g2 => ?_, by show s.2.1 - 1 ≤ s0.2.1; omega⟩
  have g1 : s.1.1 - 1 ≤ j := g1
  by_cases e : j = s.1.1 - 1
  · rw [e, ← h2]
    exact hr
  · exact h4 j (by omega) g2
abbrev orA : Type := (Nat → Nat) × (Nat × Nat × pS) × Int32
def or_F : orA → List Value := fun (B, _, c) => [.ref (B 343), .int c]
def or_P : orA → lW → Prop := fun (B, (o, i, s), c) w => mS B s w ∧ okS false o i s ∧ i ≤ 60 ∧ (0 < (rkc c).toInt ∨ (c.toInt = 41 ∧ 0 < o))
def or_Q : orA → lW → Option Value → lW → Prop := fun (B, (_, _, s), c) _ rv w' => rv = none ∧ mS B (chA c s) w'
def in_o0 (B : Nat → Nat) (o i : Nat) (s0 : pS) (c : Int32) : fL_ → List Value → lW → Prop := fun lg vs w => ∃ s : pS, f_sub [(0, false, .ref (B 343)), (1, false, .int c)] lg ∧ vs = [] ∧ mS B s w ∧ atS o i s0 s ∧ bdS (lvl c) s = bdS (lvl c) s0 ∧ bdK (lvl c) s.1.1 s.1.2 s.2.1
def in_o44 (B : Nat → Nat) (o i : Nat) (s0 : pS) (c : Int32) : fL_ → List Value → lW → Prop := fun lg vs w => ∃ s : pS, f_sub [(0, false, .ref (B 343)), (1, false, .int c)] lg ∧ vs = [] ∧ mS B s w ∧ atS o i s0 s ∧ bdS (lvl c) s = bdS (lvl c) s0 ∧ bdK (lvl c) s.1.1 s.1.2 s.2.1 ∧ 0 < s.1.1 ∧ 0 < (rkc (s.1.2 (s.1.1 - 1))).toInt ∧ ¬ (rkc c).toInt < (rkc (s.1.2 (s.1.1 - 1))).toInt
def in_o71 (B : Nat → Nat) (o i : Nat) (s0 : pS) (c : Int32) : fL_ → List Value → lW → Prop := fun lg vs w => ∃ s : pS, f_sub [(0, false, .ref (B 343)), (1, false, .int c)] lg ∧ vs = [] ∧ mS B s w ∧ atS o i s0 s ∧ bdS (lvl c) s = bdS (lvl c) s0 ∧ bdK (lvl c) s.1.1 s.1.2 s.2.1 ∧ 0 < s.1.1 ∧ lvl c ≤ (rkc (s.1.2 (s.1.1 - 1))).toInt
def in_o78 (B : Nat → Nat) (s0 : pS) (c : Int32) : fL_ → List Value → lW → Prop := fun lg vs w => f_sub [(0, false, .ref (B 343)), (1, false, .int c)] lg ∧ vs = [] ∧ mS B (bdS (lvl c) s0) w
def in_o94 (B : Nat → Nat) (s0 : pS) (c : Int32) : fL_ → List Value → lW → Prop := fun lg vs w => f_sub [(0, false, .ref (B 343))] lg ∧ vs = [] ∧ mS B (popS (bdS 1 s0)) w ∧ c.toInt = 41
def in_o111 (B : Nat → Nat) (s0 : pS) (c : Int32) : fL_ → List Value → lW → Prop := fun lg vs w => f_sub [(0, false, .ref (B 343))] lg ∧ vs = [] ∧ mX B (psh c (bdS (lvl c) s0)) (bdS (lvl c) s0).1.1 (bdS (lvl c) s0).2.1 w ∧ ¬ c.toInt = 41
def or_hd : orA → lW → fI lW := fun (B, (o, i, s), c) _ => [(0, in_o0 B o i s c), (44, in_o44 B o i s c), (71, in_o71 B o i s c), (78, in_o78 B s c), (94, in_o94 B s c), (111, in_o111 B s c)]
def Sp_or : fP lW := [(543, 1, fLr r_X12_turned), (553, 1, fLr r_X12_tight), (564, 1, fLr r_X12_reduce)]
theorem Sp_or_ok : f_sp T_X12_operator Sp_or wW := List.forall_mem_cons.mpr ⟨sp_w rfl (fun _ _ _ _ _ _ h => h.2.2.1), List.forall_mem_cons.mpr ⟨sp_w rfl (fun _ _ _ _ _ _ h => h.2.2.1), List.forall_mem_cons.mpr ⟨sp_w rfl (fun _ _ _ _ _ _ h => h.2.2.1), fun _ h => absurd h List.not_mem_nil⟩⟩⟩
section
variable {B : Nat → Nat} {o i : Nat} {s0 : pS} {c : Int32} {w0 : lW}
theorem mS.top {s : pS} {w : lW} (h : mS B s w) (h0 : 0 < s.1.1) : eI (hof w.1 (rv_ (eG fl_X12 20 (hof w.1 (B 343))))) (iv (eG fl_X12 167 (hof w.1 (B 343))) - 1).toNatClampNeg = s.1.2 (s.1.1 - 1) := by
  obtain ⟨x, g1, ex⟩ := mX.gm h
  obtain ⟨k, ek⟩ : ∃ k, s.1.1 = k + 1 := ⟨s.1.1 - 1, by omega⟩
  have em : (x - 1).toInt = (k : Int) := i_m1 (by rw [ex, ek])
  rw [g1, mX.g20 h]
  show eI (hof w.1 (B 347)) (x - 1).toInt.toNat = _
  rw [nat_i em, mX.mk h (by omega), ek]
  rfl
set_option maxHeartbeats 4000000 in
theorem or_h0 (hc : 0 < (rkc c).toInt ∨ c.toInt = 41) : ∀ (lg : fL_) (vs : List Value) (w : lW), in_o0 B o i s0 c lg vs w → ∃ (L : fL_) (fu : Nat), f_sub L lg ∧ wh oW T_X12_operator Sp_or (or_Q (B, (o, i, s0), c) w0) K_X12_operator (or_hd (B, (o, i, s0), c) w0) fu 0 L vs w := by
  rintro lg vs w ⟨s, hs, rfl, h, hat, eT, hK⟩
  have e40 : (Int32.ofInt 40).toInt = 40 := by decide
  have e62 : (Int32.ofInt 62).toInt = 62 := by decide
  obtain ⟨x, g1, ex⟩ := mX.gm h
  have stop : ∀ {w1 : lW} {L : fL_}, mS B s w1 → f_sub [(0, false, .ref (B 343)), (1, false, .int c)] L → (s.1.1 = 0 ∨ ¬ lvl c ≤ (rkc (s.1.2 (s.1.1 - 1))).toInt) → in_o78 B s0 c L [] w1 := by
    intro w1 L h1 hL hn
    refine ⟨hL, rfl, ?_⟩
    rw [← eT, bdS_no hn]
    exact h1
  refine ⟨_, 60, hs, fun h1 => ?_, fun h1 => ?_⟩
  · have h1 : (iv (eG fl_X12 167 (hof w.1 (B 343)))).toInt ≤ 0 := h1
    rw [g1] at h1
    have h1 : x.toInt ≤ 0 := h1
    exact stop h ⟨rfl, rfl, trivial⟩ (Or.inl (by omega))
  have h1 : ¬ (iv (eG fl_X12 167 (hof w.1 (B 343)))).toInt ≤ 0 := h1
  rw [g1] at h1
  have h1 : ¬ x.toInt ≤ 0 := h1
  have m0 : 0 < s.1.1 := by omega
  have tp := hat.top m0
  refine ⟨fun h2 => ?_, fun h2 => ?_⟩
  · have h2 : (eI (hof w.1 (rv_ (eG fl_X12 20 (hof w.1 (B 343))))) (iv (eG fl_X12 167 (hof w.1 (B 343))) - 1).toNatClampNeg).toInt = (Int32.ofInt 40).toInt := h2
    rw [mS.top h m0, e40] at h2
    refine stop h ⟨rfl, rfl, trivial⟩ (Or.inr (fun z => ?_))
    have y := rkc_v (c := s.1.2 (s.1.1 - 1))
    have y2 := lvl_1 (c := c)
    omega
  have h2 : ¬ (eI (hof w.1 (rv_ (eG fl_X12 20 (hof w.1 (B 343))))) (iv (eG fl_X12 167 (hof w.1 (B 343))) - 1).toNatClampNeg).toInt = (Int32.ofInt 40).toInt := h2
  rw [mS.top h m0, e40] at h2
  have tr : 0 < (rkc (s.1.2 (s.1.1 - 1))).toInt := tp.resolve_left h2
  have lo := lvl_ok hc tr
  intro rv w1 hx
  have hx : fLr r_X12_tight [.int (eI (hof w.1 (rv_ (eG fl_X12 20 (hof w.1 (B 343))))) (iv (eG fl_X12 167 (hof w.1 (B 343))) - 1).toNatClampNeg)] w rv w1 := hx
  rw [mS.top h m0] at hx
  have a1 : mS B s w1 := mX.keep h hx (by decide) (by decide)
  obtain ⟨-, rfl⟩ := (s_X12_tight _ _ _ _ _ _ hx).2 _ rfl trivial
  intro rv w2 hx2
  have hx2 : fLr r_X12_tight [.int c] w1 rv w2 := hx2
  have a2 : mS B s w2 := mX.keep a1 hx2 (by decide) (by decide)
  obtain ⟨-, rfl⟩ := (s_X12_tight _ _ _ _ _ _ hx2).2 _ rfl trivial
  refine ⟨fun h3 => ?_, fun h3 => ?_⟩
  · have h3 : (rkc c).toInt < (rkc (s.1.2 (s.1.1 - 1))).toInt := h3
    exact ⟨s, ⟨rfl, rfl, trivial⟩, rfl, a2, hat, eT, hK, m0, lo.mp (Or.inl h3)⟩
  have h3 : ¬ (rkc c).toInt < (rkc (s.1.2 (s.1.1 - 1))).toInt := h3
  exact ⟨s, ⟨rfl, rfl, trivial⟩, rfl, a2, hat, eT, hK, m0, tr, h3⟩
set_option maxHeartbeats 4000000 in
theorem or_h44 (hc : 0 < (rkc c).toInt ∨ c.toInt = 41) : ∀ (lg : fL_) (vs : List Value) (w : lW), in_o44 B o i s0 c lg vs w → ∃ (L : fL_) (fu : Nat), f_sub L lg ∧ wh oW T_X12_operator Sp_or (or_Q (B, (o, i, s0), c) w0) K_X12_operator (or_hd (B, (o, i, s0), c) w0) fu 44 L vs w := by
  rintro lg vs w2 ⟨s, hs, rfl, a2, hat, eT, hK, m0, tr, h3⟩
  have m0 : 0 < s.1.1 := m0
  have tr : 0 < (rkc (s.1.2 (s.1.1 - 1))).toInt := tr
  have h3 : ¬ (rkc c).toInt < (rkc (s.1.2 (s.1.1 - 1))).toInt := h3
  have e62 : (Int32.ofInt 62).toInt = 62 := by decide
  have stop : ∀ {w1 : lW} {L : fL_}, mS B s w1 → f_sub [(0, false, .ref (B 343)), (1, false, .int c)] L → (s.1.1 = 0 ∨ ¬ lvl c ≤ (rkc (s.1.2 (s.1.1 - 1))).toInt) → in_o78 B s0 c L [] w1 := by
    intro w1 L h1 hL hn
    refine ⟨hL, rfl, ?_⟩
    rw [← eT, bdS_no hn]
    exact h1
  have lo := lvl_ok hc tr
  refine ⟨_, 60, hs, ?_⟩
  intro rv w3 hx3
  have hx3 : fLr r_X12_tight [.int (eI (hof w2.1 (rv_ (eG fl_X12 20 (hof w2.1 (B 343))))) (iv (eG fl_X12 167 (hof w2.1 (B 343))) - 1).toNatClampNeg)] w2 rv w3 := hx3
  rw [mS.top a2 m0] at hx3
  have a3 : mS B s w3 := mX.keep a2 hx3 (by decide) (by decide)
  obtain ⟨-, rfl⟩ := (s_X12_tight _ _ _ _ _ _ hx3).2 _ rfl trivial
  intro rv w4 hx4
  have hx4 : fLr r_X12_tight [.int c] w3 rv w4 := hx4
  have a4 : mS B s w4 := mX.keep a3 hx4 (by decide) (by decide)
  obtain ⟨-, rfl⟩ := (s_X12_tight _ _ _ _ _ _ hx4).2 _ rfl trivial
  refine ⟨fun h4 => ?_, fun h4 => ⟨fun h5 => ?_, fun h5 => ?_⟩⟩
  · have h4 : ¬ (rkc (s.1.2 (s.1.1 - 1))).toInt = (rkc c).toInt := h4
    exact stop a4 ⟨rfl, rfl, trivial⟩ (Or.inr (fun z => (lo.mpr z).elim h3 (fun z2 => h4 z2.1)))
  · have h5 : c.toInt = (Int32.ofInt 62).toInt := h5
    rw [e62] at h5
    exact stop a4 ⟨rfl, rfl, trivial⟩ (Or.inr (fun z => (lo.mpr z).elim h3 (fun z2 => z2.2 h5)))
  · have h4 : ¬ ¬ (rkc (s.1.2 (s.1.1 - 1))).toInt = (rkc c).toInt := h4
    have h5 : ¬ c.toInt = (Int32.ofInt 62).toInt := h5
    rw [e62] at h5
    exact ⟨s, ⟨rfl, rfl, trivial⟩, rfl, a4, hat, eT, hK, m0, lo.mp (Or.inr ⟨Classical.not_not.mp h4, h5⟩)⟩
set_option maxHeartbeats 4000000 in
theorem or_h71 (hi : i ≤ 60) : ∀ (lg : fL_) (vs : List Value) (w : lW), in_o71 B o i s0 c lg vs w → ∃ (L : fL_) (fu : Nat), f_sub L lg ∧ wh oW T_X12_operator Sp_or (or_Q (B, (o, i, s0), c) w0) K_X12_operator (or_hd (B, (o, i, s0), c) w0) fu 71 L vs w := by
  rintro lg vs w ⟨s, hs, rfl, h, hat, eT, hK, m0, hr⟩
  have hr : lvl c ≤ (rkc (s.1.2 (s.1.1 - 1))).toInt := hr
  have m0 : 0 < s.1.1 := m0
  obtain ⟨k2, hK2⟩ := bdK_yes hK m0 hr
  obtain ⟨v30, -⟩ := okS_vc hat.1 hi
  have hv := hat.2.2.2.2
  have l1 := lvl_1 (c := c)
  refine ⟨_, 40, hs, ?_⟩
  intro rv w1 hx
  have hx : fLr r_X12_reduce [.ref (B 343)] w rv w1 := hx
  obtain ⟨rfl, a1⟩ := s_X12_reduce (B, s) w w1 rv hx ⟨h, m0, k2, (show s.2.1 ≤ 60 by omega)⟩
  refine ⟨redS s, ⟨rfl, rfl, trivial⟩, rfl, a1, hat.red m0 (by omega), ?_, hK2⟩
  rw [← eT]
  exact (bdS_yes m0 hr).symm
set_option maxHeartbeats 4000000 in
theorem or_h78 (hok : okS false o i s0) (hi : i ≤ 60) (hc : 0 < (rkc c).toInt ∨ (c.toInt = 41 ∧ 0 < o)) : ∀ (lg : fL_) (vs : List Value) (w : lW), in_o78 B s0 c lg vs w → ∃ (L : fL_) (fu : Nat), f_sub L lg ∧ wh oW T_X12_operator Sp_or (or_Q (B, (o, i, s0), c) w0) K_X12_operator (or_hd (B, (o, i, s0), c) w0) fu 78 L vs w := by
  rintro lg vs w ⟨hs, rfl, h⟩
  have e41 : (Int32.ofInt 41).toInt = 41 := by decide
  refine ⟨_, 60, hs, fun h1 => ?_, fun h1 => ?_⟩
  · have h1 : ¬ c.toInt = (Int32.ofInt 41).toInt := h1
    rw [e41] at h1
    obtain ⟨x, g1, ex⟩ := mX.gm h
    intro q e0 hq
    refine ⟨⟨rfl, trivial⟩, rfl, mX.w347 h (mX.g20 h) hq ?_, h1⟩
    show (iv (eG fl_X12 167 (hof w.1 (B 343)))).toInt.toNat = (bdS (lvl c) s0).1.1
    rw [g1]
    exact nat_i ex
  · have h1 : ¬ ¬ c.toInt = (Int32.ofInt 41).toInt := h1
    rw [e41] at h1
    have h1 : c.toInt = 41 := Classical.not_not.mp h1
    have el : lvl c = 1 := if_pos h1
    rw [el] at h
    have ho : 0 < o := by
      rcases hc with y | y
      · have y2 := rk_b.mp y
        omega
      · exact y.2
    obtain ⟨hp, -⟩ := bd_close hok ho
    have h : mX B (bdS 1 s0) (bdS 1 s0).1.1 (bdS 1 s0).2.1 w := h
    show ∀ (q : Nat) (e0 : va_E), _ → in_o94 B s0 c _ _ _
    generalize eT : bdS 1 s0 = T at h hp
    obtain ⟨x, g1, ex⟩ := mX.gm h
    obtain ⟨k, ek⟩ : ∃ k, T.1.1 = k + 1 := ⟨T.1.1 - 1, by omega⟩
    have em : (x - 1).toInt = ((T.1.1 - 1 : Nat) : Int) := by
      rw [ek, Nat.add_sub_cancel]
      exact i_m1 (by rw [ex, ek])
    intro q e0 hq
    have hq : w.1[q]? = some (B 343, e0) := hq
    refine ⟨⟨rfl, trivial⟩, rfl, ?_, h1⟩
    rw [eT]
    have y := h.pm hq (x := x - 1) (show Value.int (iv (eG fl_X12 167 (hof w.1 (B 343))) - 1) = .int (x - 1) by rw [g1]; rfl) em
    exact y.cut (by show T.1.1 - 1 ≤ T.1.1; omega) rfl (Nat.le_refl _) rfl
set_option maxHeartbeats 4000000 in
theorem or_h94 (hok : okS false o i s0) (hi : i ≤ 60) : ∀ (lg : fL_) (vs : List Value) (w : lW), in_o94 B s0 c lg vs w → ∃ (L : fL_) (fu : Nat), f_sub L lg ∧ wh oW T_X12_operator Sp_or (or_Q (B, (o, i, s0), c) w0) K_X12_operator (or_hd (B, (o, i, s0), c) w0) fu 94 L vs w := by
  rintro lg vs w ⟨hs, rfl, h, hc⟩
  have hvc : s0.2.1 = cnA isB s0.1.1 s0.1.2 + 1 := hok.1
  obtain ⟨v30, -⟩ := okS_vc hok hi
  obtain ⟨-, b2, b3, -, -⟩ := bdA_ok (Int.le_refl 1) (k := s0.1.1) (m := s0.1.2) (v := s0.2.2) (vc := s0.2.1) hvc
  refine ⟨_, 40, hs, ?_⟩
  intro rv w1 hx
  have hx : fLr r_X12_turned [.ref (B 343)] w rv w1 := hx
  obtain ⟨rfl, a1⟩ := s_X12_turned (B, popS (bdS 1 s0)) w w1 rv hx ⟨h, (show 0 < (bdA 1 s0.1.1 s0.1.2 s0.2.2 s0.2.1).2.1 by omega), (show (bdA 1 s0.1.1 s0.1.2 s0.2.2 s0.2.1).2.1 ≤ 60 by omega)⟩
  refine ⟨rfl, ?_⟩
  show mS B (chA c s0) w1
  rw [chA_cl hc]
  exact a1
set_option maxHeartbeats 4000000 in
theorem or_h111 (hok : okS false o i s0) (hi : i ≤ 60) (hc : 0 < (rkc c).toInt ∨ (c.toInt = 41 ∧ 0 < o)) : ∀ (lg : fL_) (vs : List Value) (w : lW), in_o111 B s0 c lg vs w → ∃ (L : fL_) (fu : Nat), f_sub L lg ∧ wh oW T_X12_operator Sp_or (or_Q (B, (o, i, s0), c) w0) K_X12_operator (or_hd (B, (o, i, s0), c) w0) fu 111 L vs w := by
  rintro lg vs w ⟨hs, rfl, h, h41⟩
  have h41 : ¬ c.toInt = 41 := h41
  have hr : 0 < (rkc c).toInt := hc.resolve_right (fun z => h41 z.1)
  have el : lvl c = if (rkc c).toInt ≤ 2 then (2 : Int) else 3 := if_neg h41
  obtain ⟨-, m60⟩ := okS_vc hok hi
  obtain ⟨b1, -⟩ := bdA_ok (lvl_1 (c := c)) (k := s0.1.1) (m := s0.1.2) (v := s0.2.2) (vc := s0.2.1) hok.1
  have b1 : (bdS (lvl c) s0).1.1 ≤ s0.1.1 := b1
  have h : mX B (psh c (bdS (lvl c) s0)) (bdS (lvl c) s0).1.1 (bdS (lvl c) s0).2.1 w := h
  obtain ⟨x, g1, ex⟩ := h.gm
  refine ⟨_, 40, hs, ?_⟩
  intro q e0 hq
  have hq : w.1[q]? = some (B 343, e0) := hq
  refine ⟨rfl, ?_⟩
  have y := h.pm hq (x := x + 1) (show Value.int (iv (eG fl_X12 167 (hof w.1 (B 343))) + 1) = .int (x + 1) by rw [g1]; rfl) (i_p1 ex (by omega))
  show mS B (chA c s0) _
  rw [chA_op hr, ← el]
  exact y
end
theorem s_X12_operator : ∀ (a : orA) (w w' : lW) (rv : Option Value), fLr r_X12_operator (or_F a) w rv w' → or_P a w → or_Q a w rv w' := by
  refine do_ofW or_F or_P or_Q Sp_or or_hd 40 fo_X12 Sp_or_ok k_X12_operator (fun a w0 hp => ?_) (fun a w0 hp hd0 => ?_)
  · obtain ⟨B, ⟨o, i, s⟩, c⟩ := a
    obtain ⟨h, hok, hi, hc⟩ := hp
    exact List.forall_mem_cons.mpr ⟨or_h0 (hc.imp id (fun z => z.1)), List.forall_mem_cons.mpr ⟨or_h44 (hc.imp id (fun z => z.1)), List.forall_mem_cons.mpr ⟨or_h71 hi, List.forall_mem_cons.mpr ⟨or_h78 hok hi hc, List.forall_mem_cons.mpr ⟨or_h94 hok hi, List.forall_mem_cons.mpr ⟨or_h111 hok hi hc, fun _ h => absurd h List.not_mem_nil⟩⟩⟩⟩⟩⟩
  · obtain ⟨B, ⟨o, i, s⟩, c⟩ := a
    obtain ⟨h, hok, hi, hc⟩ := hp
    refine ⟨s, ⟨rfl, rfl, trivial⟩, rfl, h, ⟨hok, rfl, Nat.le_refl _, fun j g1 g2 => absurd g2 (Nat.not_lt.mpr g1), Nat.le_refl _⟩, rfl, bdK_of lvl_1 hok.1⟩
