/-! read, with the sentences' worlds: the reference's -/
def r7O (B : Nat → Nat) (c : Int32) (g : Nat → Int64) (V : Nat → Int64) (w' : lW) : Prop := ∃ (c' : Int32) (g' : Nat → Int64), oF B 343 12 1 (.int c') w' ∧ aJ B 344 240 g' w' ∧ ((c'.toInt = c.toInt ∧ ∀ u, g' u = g u) ∨ (c'.toInt = c.toInt + 1 ∧ (∀ u, (u < 4 * c.toInt.toNat ∨ 4 * c.toInt.toNat + 4 ≤ u) → g' u = g u) ∧ ∀ u, u < 4 → g' (4 * c.toInt.toNat + u) = V u))
abbrev r7A : Type := rmA × (Nat → Int64)
def r7_F (a : r7A) : List Value := rm_F a.1
def r7_P : r7A → lW → Prop := fun ((B, c, y, z, f, k, lane, i, n), g) w => rm_P (B, c, y, z, f, k, lane, i, n) w ∧ aJ B 344 240 g w
def r7_V (f : Nat → Int32) (k i n : Int32) : Nat → Int64 := txtW (vo_g (60 * k + i) f) n.toInt.toNat
def r7_Q : r7A → lW → Option Value → lW → Prop := fun ((B, c, _, _, f, k, _, i, n), g) _ _ w' => r7O B c g (r7_V f k i n) w'
def w7 (c : Int32) (V : Nat → Int64) (t : Nat) (g g' : Nat → Int64) : Prop := ∀ u, g' u = if 4 * c.toInt.toNat ≤ u ∧ u < 4 * c.toInt.toNat + t then V (u - 4 * c.toInt.toNat) else g u
def in_732 (B : Nat → Nat) (c : Int32) (y z f : Nat → Int32) (k lane i n : Int32) (g : Nat → Int64) : fL_ → List Value → lW → Prop := fun lg vs w => in_m32 B c y z f k lane i n lg vs w ∧ aJ B 344 240 g w
def in_772 (B : Nat → Nat) (c : Int32) (y z f : Nat → Int32) (k lane i n : Int32) (g : Nat → Int64) : fL_ → List Value → lW → Prop := fun lg vs w => in_m72 B c y z f k lane i n lg vs w ∧ aJ B 344 240 g w
def in_7105 (B : Nat → Nat) (c : Int32) (y z f : Nat → Int32) (k lane i n : Int32) (g : Nat → Int64) : fL_ → List Value → lW → Prop := fun lg vs w => in_m105 B c y z f k lane i n lg vs w ∧ aJ B 344 240 g w
def in_7153 (B : Nat → Nat) (c : Int32) (y z f : Nat → Int32) (g : Nat → Int64) (V : Nat → Int64) : fL_ → List Value → lW → Prop := fun lg vs w => ∃ (t : Int32) (g' gv : Nat → Int64), f_sub [(6, false, .int t), (0, false, .ref (B 343))] lg ∧ vs = [] ∧ mI B c y z f w ∧ aJ B 344 240 g' w ∧ (aJ B 346 256 gv w ∧ ∀ x, x < 4 → gv x = V x) ∧ (0 ≤ t.toInt ∧ t.toInt ≤ 4) ∧ w7 c V t.toInt.toNat g g' ∧ 0 ≤ c.toInt ∧ c.toInt < 60
def in_7196 (B : Nat → Nat) (c : Int32) (y z f : Nat → Int32) (g : Nat → Int64) (V : Nat → Int64) : fL_ → List Value → lW → Prop := fun lg vs w => f_sub [(0, false, .ref (B 343))] lg ∧ vs = [] ∧ mI B (c + 1) y z f w ∧ (∃ g', aJ B 344 240 g' w ∧ w7 c V 4 g g') ∧ 0 ≤ c.toInt ∧ c.toInt < 60
def r7_hd : r7A → lW → fI lW := fun ((B, c, y, z, f, k, lane, i, n), g) _ => [(32, in_732 B c y z f k lane i n g), (72, in_772 B c y z f k lane i n g), (105, in_7105 B c y z f k lane i n g), (153, in_7153 B c y z f g (r7_V f k i n)), (196, in_7196 B c y z f g (r7_V f k i n))]
section
variable {B : Nat → Nat} {c : Int32} {y z f : Nat → Int32} {k lane i n : Int32} {g : Nat → Int64} {w0 : lW}
theorem r7_no {w : lW} {V : Nat → Int64} (h1 : oF B 343 12 1 (.int c) w) (h2 : aJ B 344 240 g w) : r7O B c g V w := ⟨c, g, h1, h2, Or.inl ⟨rfl, fun _ => rfl⟩⟩
theorem r7_ref {x : Int32} {w w3 : lW} {rv : Option Value} {V : Nat → Int64} (hI : mI B c y z f w) (hg : aJ B 344 240 g w) (hx : fLr r_X12_refused [.ref (B 343), .int x] w rv w3) : ∃ u : Int32, rv = some (.int u) ∧ r7O B c g V w3 := by
  obtain ⟨rfl, a1, -⟩ := cl_ref hI hx
  exact ⟨_, rfl, r7_no a1 (hg.keep hI.1 hx bl_344 bt_344 (by decide) (by decide))⟩
theorem r7_fld {x : Int32} {w w3 : lW} {rv : Option Value} {V : Nat → Int64} (hI : mI B c y z f w) (hg : aJ B 344 240 g w) (hx : fLr r_X12_failed [.ref (B 343), .int x] w rv w3) : ∃ u : Int32, rv = some (.int u) ∧ r7O B c g V w3 := by
  obtain ⟨rfl, a1, -⟩ := cl_fld hI hx
  exact ⟨_, rfl, r7_no a1 (hg.keep hI.1 hx bl_344 bt_344 (by decide) (by decide))⟩
set_option maxHeartbeats 4000000 in
theorem r7_en {w : lW} (hI : mI B c y z f w) (hg : aJ B 344 240 g w) : wl oW T_X12_read Sp_rm (r7_Q ((B, c, y, z, f, k, lane, i, n), g) w0) K_X12_read (r7_hd ((B, c, y, z, f, k, lane, i, n), g) w0) 40 K_X12_read 0 (la 0 (r7_F ((B, c, y, z, f, k, lane, i, n), g))) [] w := by
  have e2 : (Int64.ofInt 2).toInt = 2 := by decide
  have e0 : (Int64.ofNat 0).toInt = 0 := by decide
  intro rv w1 hx
  have hx : fLr r_X12_noSheet [.int k] w rv w1 := hx
  have hI1 := hI.keep hx (by decide) (by decide)
  have hg1 := hg.keep hI.1 hx bl_344 bt_344 (by decide) (by decide)
  obtain ⟨-, rfl⟩ := (s_X12_noSheet _ _ _ _ _ _ hx).2 k rfl trivial
  refine ⟨fun hk => ?_, fun hk => ?_⟩
  rotate_left
  · intro rv w3 hx3
    obtain ⟨u, rfl, h⟩ := r7_ref (x := -1) hI1 hg1 hx3
    exact h
  have hk : (if 0 ≤ k.toInt ∧ k.toInt < 4 then (0 : Int32) else 1).toInt = 0 := hk
  have hk : 0 ≤ k.toInt ∧ k.toInt < 4 := by
    by_cases h : 0 ≤ k.toInt ∧ k.toInt < 4
    · exact h
    · rw [if_neg h] at hk
      exact absurd hk (by decide)
  intro rv w2 hx2
  have hx2 : fLr r_X12_in [.long lane.toInt64, .long (Int64.ofNat 0), .long (Int64.ofInt 2)] w1 rv w2 := hx2
  have hI2 := hI1.keep hx2 (by decide) (by decide)
  have hg2 := hg1.keep hI1.1 hx2 bl_344 bt_344 (by decide) (by decide)
  obtain ⟨-, er⟩ := (s_X12_in _ _ _ _ _ _ hx2).2 (lane.toInt64, Int64.ofNat 0, Int64.ofInt 2) rfl trivial
  have er : rv = some (.int (if (Int64.ofNat 0).toInt ≤ lane.toInt64.toInt ∧ lane.toInt64.toInt ≤ (Int64.ofInt 2).toInt then 1 else 0)) := er
  rw [Int32.toInt_toInt64, e0, e2] at er
  subst er
  refine ⟨fun hl => ?_, fun hl => ?_⟩
  rotate_left
  · intro rv w3 hx3
    obtain ⟨u, rfl, h⟩ := r7_ref (x := -2) hI2 hg2 hx3
    exact h
  have hl : ¬ (if 0 ≤ lane.toInt ∧ lane.toInt ≤ 2 then (1 : Int32) else 0).toInt = 0 := hl
  have hl : 0 ≤ lane.toInt ∧ lane.toInt ≤ 2 := by
    by_cases h : 0 ≤ lane.toInt ∧ lane.toInt ≤ 2
    · exact h
    · rw [if_neg h] at hl
      exact absurd rfl hl
  exact ⟨⟨⟨⟨rfl, rfl, rfl, rfl, rfl, trivial⟩, rfl, hI2⟩, hk, ⟨hl.1, by omega⟩⟩, hg2⟩
set_option maxHeartbeats 4000000 in
theorem r7_h32 : ∀ (lg : fL_) (vs : List Value) (w : lW), in_732 B c y z f k lane i n g lg vs w → ∃ (L : fL_) (fu : Nat), f_sub L lg ∧ wh oW T_X12_read Sp_rm (r7_Q ((B, c, y, z, f, k, lane, i, n), g) w0) K_X12_read (r7_hd ((B, c, y, z, f, k, lane, i, n), g) w0) fu 32 L vs w := by
  rintro lg vs w ⟨⟨⟨hs, rfl, hI⟩, hk, hl⟩, hg⟩
  refine ⟨_, 60, hs, fun ha => ⟨fun hb => ?_, fun hb => ?_⟩, fun ha => ⟨fun hb => ⟨fun hd => ?_, fun hd => ?_⟩, fun hb => ?_⟩⟩
  · have ha : (eI (hof w.1 (rv_ (eG fl_X12 124 (hof w.1 (B 343))))) k.toNatClampNeg).toInt < 0 := ha
    have hb : 0 ≤ (eI (hof w.1 (rv_ (eG fl_X12 124 (hof w.1 (B 343))))) k.toNatClampNeg).toInt := hb
    omega
  · intro rv w3 hx3
    obtain ⟨u, rfl, h⟩ := r7_fld (x := 1) hI hg hx3
    exact h
  · have hb : (eI (hof w.1 (rv_ (eG fl_X12 127 (hof w.1 (B 343))))) k.toNatClampNeg).toInt = lane.toInt := hb
    rw [g_my hI] at hb
    have hd : 0 ≤ (eI (hof w.1 (rv_ (eG fl_X12 124 (hof w.1 (B 343))))) k.toNatClampNeg).toInt := hd
    rw [g_mz hI] at hd
    exact ⟨⟨⟨⟨⟨rfl, rfl, rfl, rfl, rfl, trivial⟩, rfl, hI⟩, hk, hl⟩, hd, hb⟩, hg⟩
  · have ha : ¬ (eI (hof w.1 (rv_ (eG fl_X12 124 (hof w.1 (B 343))))) k.toNatClampNeg).toInt < 0 := ha
    have hd : ¬ 0 ≤ (eI (hof w.1 (rv_ (eG fl_X12 124 (hof w.1 (B 343))))) k.toNatClampNeg).toInt := hd
    omega
  · intro rv w3 hx3
    obtain ⟨u, rfl, h⟩ := r7_fld (x := 2) hI hg hx3
    exact h
set_option maxHeartbeats 4000000 in
theorem r7_h72 : ∀ (lg : fL_) (vs : List Value) (w : lW), in_772 B c y z f k lane i n g lg vs w → ∃ (L : fL_) (fu : Nat), f_sub L lg ∧ wh oW T_X12_read Sp_rm (r7_Q ((B, c, y, z, f, k, lane, i, n), g) w0) K_X12_read (r7_hd ((B, c, y, z, f, k, lane, i, n), g) w0) fu 72 L vs w := by
  rintro lg vs w ⟨⟨⟨⟨hs, rfl, hI⟩, hk, hl⟩, ha, hb⟩, hg⟩
  refine ⟨_, 60, hs, fun hn => ?_, fun hn => ?_⟩
  rotate_left
  · intro rv w3 hx3
    obtain ⟨u, rfl, h⟩ := r7_fld (x := 4) hI hg hx3
    exact h
  have hn : 0 ≤ n.toInt := hn
  intro rv w1 hx
  have hx : fLr r_X12_isBeyond [.int i, .long n.toInt64, .int (eI (hof w.1 (rv_ (eG fl_X12 124 (hof w.1 (B 343))))) k.toNatClampNeg)] w rv w1 := hx
  rw [g_mz hI] at hx
  have hI1 := hI.keep hx (by decide) (by decide)
  have hg1 := hg.keep hI.1 hx bl_344 bt_344 (by decide) (by decide)
  obtain ⟨-, rfl⟩ := (s_X12_isBeyond _ _ _ _ _ _ hx).2 (i, n, z k.toInt.toNat) rfl trivial
  refine ⟨fun hs => ?_, fun hs => ?_⟩
  · have hs : (if (0 ≤ i.toInt ∧ 0 ≤ n.toInt) ∧ i.toInt + n.toInt ≤ (z k.toInt.toNat).toInt then (0 : Int32) else 1).toInt = 0 := hs
    have hs : (0 ≤ i.toInt ∧ 0 ≤ n.toInt) ∧ i.toInt + n.toInt ≤ (z k.toInt.toNat).toInt := by
      by_cases hx : (0 ≤ i.toInt ∧ 0 ≤ n.toInt) ∧ i.toInt + n.toInt ≤ (z k.toInt.toNat).toInt
      · exact hx
      · rw [if_neg hx] at hs
        exact absurd hs (by decide)
    exact ⟨⟨⟨⟨⟨⟨rfl, rfl, rfl, rfl, rfl, trivial⟩, rfl, hI1⟩, hk, hl⟩, ha, hb⟩, hn, hs.1.1, hs.2⟩, hg1⟩
  · intro rv w3 hx3
    obtain ⟨u, rfl, h⟩ := r7_fld (x := 3) hI1 hg1 hx3
    exact h
set_option maxHeartbeats 4000000 in
theorem r7_h105 (hc60 : 0 ≤ c.toInt ∧ c.toInt ≤ 60) (hz : ∀ k, k < 4 → (z k).toInt ≤ 60) : ∀ (lg : fL_) (vs : List Value) (w : lW), in_7105 B c y z f k lane i n g lg vs w → ∃ (L : fL_) (fu : Nat), f_sub L lg ∧ wh oW T_X12_read Sp_rm (r7_Q ((B, c, y, z, f, k, lane, i, n), g) w0) K_X12_read (r7_hd ((B, c, y, z, f, k, lane, i, n), g) w0) fu 105 L vs w := by
  rintro lg vs w ⟨⟨⟨⟨⟨hs, rfl, hI⟩, hk, hl⟩, ha, hb⟩, hn, hi, hj⟩, hg⟩
  have z60 := hz k.toInt.toNat (by omega)
  have e60 : (Int32.ofInt 60).toInt = 60 := by decide
  refine ⟨_, 60, hs, fun hf => ?_, fun hf => ?_⟩
  rotate_left
  · intro rv w3 hx3
    obtain ⟨u, rfl, h⟩ := r7_ref (x := -4) hI hg hx3
    exact h
  have hf : ¬ (iv (eG fl_X12 149 (hof w.1 (B 343)))).toInt = (Int32.ofInt 60).toInt := hf
  rw [g_mc hI, e60] at hf
  have hf : ¬ c.toInt = 60 := hf
  intro rv w1 hx
  have hx : fLr r_X12_parse [.ref (B 343), .int (60 * k + i), .int n] w rv w1 := hx
  have hI1 := hI.keep hx (by decide) (by decide)
  have hg1 := hg.keep hI.1 hx bl_344 bt_344 (by decide) (by decide)
  have e6 : (60 : Int32).toInt = 60 := by decide
  have m1 : (60 * k).toInt = 60 * k.toInt := by
    rw [i_mul (by rw [e6]; omega) (by rw [e6]; omega), e6]
  have m2 : (60 * k + i).toInt = 60 * k.toInt + i.toInt := by
    rw [i_add (by rw [m1]; omega) (by rw [m1]; omega), m1]
  obtain ⟨cC, hC⟩ := id hI.2.2.2.2
  obtain ⟨fs, hp, -⟩ := id hI.2.1
  obtain ⟨tys, hwo, -⟩ := hx.2.2.2.2.1
  obtain ⟨-, x, rfl, ex⟩ := s_X12_parse (B, 60 * k + i, n, cC, f) w w1 rv hx ⟨⟨hI.1.1, hI.1.2, ⟨fs, hp⟩, hC⟩, (show 0 ≤ (60 * k + i).toInt by omega), hn, (show (60 * k + i).toInt + n.toInt ≤ 240 by omega)⟩
  have ex : x.toInt = acA (vo_g (60 * k + i) f) n.toInt.toNat 0 (true, 0) := ex
  have ge := acA_ge (g := vo_g (60 * k + i) f) (m := n.toInt.toNat) (i := 0) (s := (true, 0))
  refine ⟨fun hw => ?_, fun hw => ?_⟩
  · have hw : x.toInt < 0 := hw
    obtain ⟨-, gv, hgv, hgv2⟩ := s7_X12_parse (B, 60 * k + i, n, f) w w1 _ hx ⟨mX.of hI.1 hwo _, hI.2.2.2.2, ⟨by omega, hn, by omega, by omega⟩, by omega⟩
    refine ⟨0, g, gv, ⟨rfl, rfl, trivial⟩, rfl, hI1, hg1, ⟨hgv, hgv2⟩, by decide, fun u => ?_, hc60.1, (show c.toInt < 60 by omega)⟩
    rw [if_neg (by show ¬ (4 * c.toInt.toNat ≤ u ∧ u < 4 * c.toInt.toNat + 0); omega)]
  · intro rv w3 hx3
    obtain ⟨u, rfl, h⟩ := r7_ref (x := Int32.ofInt (-100) - x) hI1 hg1 hx3
    exact h
set_option maxHeartbeats 4000000 in
theorem r7_h153 : ∀ (lg : fL_) (vs : List Value) (w : lW), in_7153 B c y z f g (r7_V f k i n) lg vs w → ∃ (L : fL_) (fu : Nat), f_sub L lg ∧ wh oW T_X12_read Sp_rm (r7_Q ((B, c, y, z, f, k, lane, i, n), g) w0) K_X12_read (r7_hd ((B, c, y, z, f, k, lane, i, n), g) w0) fu 153 L vs w := by
  rintro lg vs w ⟨t, g', gv, hs, rfl, hI, hg, ⟨hgv, hV⟩, ⟨t0, t4⟩, hw7, c0, c60⟩
  have e4 : (Int32.ofInt 4).toInt = 4 := by decide
  refine ⟨_, 60, hs, fun hc => ?_, fun hc => ?_⟩
  · have hc : (Int32.ofInt 4).toInt ≤ t.toInt := hc
    rw [e4] at hc
    rw [t_end t4 hc] at hw7
    intro q e0 hq
    have hq : w.1[q]? = some (B 343, e0) := hq
    have ev : Value.int (iv (eG fl_X12 149 (hof w.1 (B 343))) + 1) = .int (c + 1) := by
      rw [g_mc hI]
      rfl
    obtain ⟨-, b2, -, -⟩ := oF.put (v' := .int (iv (eG fl_X12 149 (hof w.1 (B 343))) + 1)) (i := 149) (pl := pl_X12) hI.1 hI.2.1 bl_343 hq rfl (fun r h => by have h : some ((1, 0, 0) : mk_V) = some (2, 0, r) := h; cases h)
    exact ⟨⟨rfl, trivial⟩, rfl, mI.cnt (c' := c + 1) hI ev hq, ⟨g', hg.upd hI.1 bl_344 bl_343 (by decide) b2, hw7⟩, c0, c60⟩
  · have hc : ¬ (Int32.ofInt 4).toInt ≤ t.toInt := hc
    rw [e4] at hc
    obtain ⟨i1, i2, i3⟩ := t_inc t0 (show t.toInt < 4 by omega)
    intro q e0 hq
    have h17 : eG fl_X12 17 (hof w.1 (B 343)) = .ref (B 346) := bR hI.2.1 hI.1 bl_343 rfl rfl
    have ei : (Int32.ofInt 4 * iv (eG fl_X12 149 (hof w.1 (B 343))) + t).toNatClampNeg = 4 * c.toInt.toNat + t.toInt.toNat := by
      rw [g_mc hI]
      show (Int32.ofInt 4 * c + t).toInt.toNat = _
      rw [four_ix ⟨c0, c60⟩ t0 (by omega)]
    have eu : eJ (hof w.1 (rv_ (eG fl_X12 17 (hof w.1 (B 343))))) t.toNatClampNeg = r7_V f k i n t.toInt.toNat := by
      rw [h17]
      obtain ⟨cV, hv⟩ := hgv
      show eJ (hof w.1 (B 346)) t.toInt.toNat = _
      rw [hv]
      exact hV _ (by omega)
    obtain ⟨b1, b2⟩ := hI.1.wJ bl_344 (by decide) (fun k r h => by cases h) (g_mt hI) hq (i := (Int32.ofInt 4 * iv (eG fl_X12 149 (hof w.1 (B 343))) + t).toNatClampNeg) (v := eJ (hof w.1 (rv_ (eG fl_X12 17 (hof w.1 (B 343))))) t.toNatClampNeg)
    obtain ⟨cT, hT⟩ := hg
    refine ⟨t + 1, vp_updL g' (4 * c.toInt.toNat + t.toInt.toNat) (r7_V f k i n t.toInt.toNat), gv, ⟨rfl, rfl, trivial⟩, rfl, mI.lng hI (g_mt hI) hq, ⟨cT, ?_⟩, ⟨hgv.upd hI.1 bl_346 bl_344 (by decide) b2, hV⟩, ⟨i1, i2⟩, fun u => ?_, c0, c60⟩
    · show hof (w.1.set q (rv_ (eG fl_X12 7 (hof w.1 (B 343))), sJ (Int32.ofInt 4 * iv (eG fl_X12 149 (hof w.1 (B 343))) + t).toNatClampNeg (eJ (hof w.1 (rv_ (eG fl_X12 17 (hof w.1 (B 343))))) t.toNatClampNeg) (hof w.1 (rv_ (eG fl_X12 7 (hof w.1 (B 343))))))) (B 344) = _
      rw [b2, hset_at, g_mt hI]
      show some (sJ _ _ (hof w.1 (B 344))) = _
      rw [hT, ei, eu]
      rfl
    · rw [i3]
      unfold vp_updL
      by_cases e : u = 4 * c.toInt.toNat + t.toInt.toNat
      · rw [if_pos e, if_pos ⟨by omega, by omega⟩, show u - 4 * c.toInt.toNat = t.toInt.toNat by omega]
      · rw [if_neg e, hw7 u]
        by_cases hl : 4 * c.toInt.toNat ≤ u ∧ u < 4 * c.toInt.toNat + t.toInt.toNat
        · rw [if_pos hl, if_pos ⟨hl.1, by omega⟩]
        · rw [if_neg hl, if_neg (by omega)]
set_option maxHeartbeats 4000000 in
theorem r7_h196 : ∀ (lg : fL_) (vs : List Value) (w : lW), in_7196 B c y z f g (r7_V f k i n) lg vs w → ∃ (L : fL_) (fu : Nat), f_sub L lg ∧ wh oW T_X12_read Sp_rm (r7_Q ((B, c, y, z, f, k, lane, i, n), g) w0) K_X12_read (r7_hd ((B, c, y, z, f, k, lane, i, n), g) w0) fu 196 L vs w := by
  rintro lg vs w ⟨hs, rfl, hI, ⟨g', hg, hw7⟩, c0, c60⟩
  refine ⟨_, 60, hs, ?_⟩
  intro rv w3 hx3
  obtain ⟨rfl, a1, -⟩ := cl_ref (x := iv (eG fl_X12 149 (hof w.1 (B 343))) - 1) hI hx3
  refine ⟨c + 1, g', a1, hg.keep hI.1 hx3 bl_344 bt_344 (by decide) (by decide), Or.inr ⟨i_inc c0 (by omega), fun u hu => ?_, fun u hu => ?_⟩⟩
  · rw [hw7 u, if_neg (by omega)]
  · rw [hw7 (4 * c.toInt.toNat + u), if_pos ⟨by omega, by omega⟩, Nat.add_sub_cancel_left]
end
theorem s7_X12_read : ∀ (a : r7A) (w w' : lW) (rv : Option Value), fLr r_X12_read (r7_F a) w rv w' → r7_P a w → r7_Q a w rv w' := by
  refine do_ofW r7_F r7_P r7_Q Sp_rm r7_hd 40 fo_X12 Sp_rm_ok k_X12_read (fun a w0 hp => ?_) (fun a w0 hp hd0 => ?_)
  · obtain ⟨⟨B, c, y, z, f, k, lane, i, n⟩, g⟩ := a
    obtain ⟨⟨-, hc60, hz⟩, -⟩ := hp
    exact List.forall_mem_cons.mpr ⟨r7_h32, List.forall_mem_cons.mpr ⟨r7_h72, List.forall_mem_cons.mpr ⟨r7_h105 hc60 hz, List.forall_mem_cons.mpr ⟨r7_h153, List.forall_mem_cons.mpr ⟨r7_h196, fun _ h => absurd h List.not_mem_nil⟩⟩⟩⟩⟩
  · obtain ⟨⟨B, c, y, z, f, k, lane, i, n⟩, g⟩ := a
    exact r7_en hp.1.1 hp.2
/-! the two's sentences hold the same worlds -/
theorem runA_eq {g g' : Nat → Int32} : ∀ {n : Nat}, (∀ x, x < n → g x = g' x) → runA g n = runA g' n
  | 0, _ => rfl
  | n + 1, h => by
    show chA (g n) (runA g n) = chA (g' n) (runA g' n)
    rw [h n (by omega), runA_eq (fun x hx => h x (by omega))]
def j6 (B : Nat → Nat) (w : lW) : Prop := ∃ (c : Int32) (W : Nat → Nat → Int64) (g : Nat → Int64), oF B 0 11 1 (.int c) w ∧ wS B W w ∧ aJ B 344 240 g w ∧ ∀ i : Nat, (i : Int) < c.toInt → ∀ x, x < 4 → W i x = g (4 * i + x)
def J6 (B : Nat → Nat) : lW → Prop := fun w => J4 B w ∧ j6 B w
theorem oF.uni {B : Nat → Nat} {q ci k : Nat} {x y : Int32} {w : lW} (h1 : oF B q ci k (.int x) w) (h2 : oF B q ci k (.int y) w) : x = y := by
  obtain ⟨fs, a1, -, a3⟩ := h1
  obtain ⟨fs2, b1, -, b3⟩ := h2
  have e : fs = fs2 := congrArg Prod.snd (Sum.inr.inj (Option.some.inj (a1.symm.trans b1)))
  subst e
  rw [a3] at b3
  injection b3
section
variable {B : Nat → Nat} {rt : Nat} {Wr : List (Nat × Nat)} {T : fT} {cc : ByteArray} {As : List Value} {w w' : lW} {rv : Option Value}
theorem kp6 (h : fLr (fq cw_TT cw_SG rt Wr T cc) As w rv w') (hb : bI B w) (hJ : j6 B w) (hw : (11, 1) ∉ Wr ∧ (87, 0) ∉ Wr ∧ (45, 0) ∉ Wr) : j6 B w' := by
  obtain ⟨c, W, g, h1, h2, h3, h4⟩ := hJ
  exact ⟨c, W, g, h1.keep hb h bl_0 bt_0 hw.1, h2.keep hb h hw.2.1, h3.keep hb h bl_344 bt_344 (by decide) hw.2.2, h4⟩
theorem fr6 (h : fLr (fq cw_TT cw_SG rt Wr T cc) As w rv w') (hJ : J6 B w) (hk : bs_K.all (fun x => !(Wr.contains x)) = true) (hw : (20, 0) ∉ Wr ∧ (22, 0) ∉ Wr ∧ (23, 0) ∉ Wr ∧ (82, 0) ∉ Wr ∧ (83, 0) ∉ Wr ∧ (84, 0) ∉ Wr) (hw2 : (11, 1) ∉ Wr ∧ (17, 1) ∉ Wr) (hw4 : ((15, 0) ∉ Wr ∧ (17, 40) ∉ Wr) ∧ (14, 1) ∉ Wr ∧ (17, 27) ∉ Wr) (hw6 : (11, 1) ∉ Wr ∧ (87, 0) ∉ Wr ∧ (45, 0) ∉ Wr) : J6 B w' :=
  ⟨fr4 h hJ.1 hk hw hw2 hw4, kp6 h hJ.1.b hJ.2 hw6⟩
end
/-- a sentence more on both sides, or none -/
theorem j6_step {B : Nat → Nat} {w2 : lW} {c c1 c2 : Int32} {W W1 : Nat → Nat → Int64} {g g2 : Nat → Int64} {V V2 : Nat → Int64} (c0 : 0 ≤ c.toInt) (h : ∀ i : Nat, (i : Int) < c.toInt → ∀ x, x < 4 → W i x = g (4 * i + x)) (e : c1.toInt = c2.toInt) (o1 : oF B 0 11 1 (.int c1) w2) (hW : wS B W1 w2) (hg : aJ B 344 240 g2 w2) (h1 : (c1.toInt = c.toInt ∧ ∀ i x, W1 i x = W i x) ∨ (c1.toInt = c.toInt + 1 ∧ (∀ i, i ≠ c.toInt.toNat → W1 i = W i) ∧ ∀ x, x < 4 → W1 c.toInt.toNat x = V x)) (h2 : (c2.toInt = c.toInt ∧ ∀ u, g2 u = g u) ∨ (c2.toInt = c.toInt + 1 ∧ (∀ u, (u < 4 * c.toInt.toNat ∨ 4 * c.toInt.toNat + 4 ≤ u) → g2 u = g u) ∧ ∀ u, u < 4 → g2 (4 * c.toInt.toNat + u) = V2 u)) (hV : c1.toInt = c.toInt + 1 → ∀ x, x < 4 → V x = V2 x) : j6 B w2 := by
  refine ⟨c1, W1, g2, o1, hW, hg, fun i hi x hx => ?_⟩
  rcases h1 with ⟨a1, a2⟩ | ⟨a1, a2, a3⟩
  · rcases h2 with ⟨b1, b2⟩ | ⟨b1, -, -⟩
    · rw [a2, b2]
      exact h i (by omega) x hx
    · omega
  · rcases h2 with ⟨b1, -⟩ | ⟨b1, b2, b3⟩
    · omega
    · by_cases ei : i = c.toInt.toNat
      · rw [ei, a3 x hx, b3 x hx]
        exact hV a1 x hx
      · rw [a2 i ei, b2 _ (by omega)]
        exact h i (by omega) x hx
