/-! read, with the sentences' worlds -/
theorem aJ.of {B : Nat → Nat} {w : lW} (hb : bI B w) {tys : List (ClassId × FieldType)} (hw : ck_wo tys cw_TT cw_SG w.1 w.2) {q n t k0 : Nat} {l : List ck_T} {c : mk_C} (hc : lp_L2[q]? = some c) (ht : lp_sh[q]? = some t) (hT : cw_TT[t]? = some (2, n, k0, l)) : ∃ g, aJ B q n g w := by
  obtain ⟨e, h1, h2, -⟩ := hb.2.h hb.1 hc
  obtain ⟨td, d1, d2⟩ := hw.2.1 q _ e t h1 (hb.2.1 q t ht)
  have e1 : td = _ := Option.some.inj (d1.symm.trans hT)
  subst e1
  obtain ⟨cA, f, -, rfl⟩ := d2
  exact ⟨f, cA, h2⟩
theorem oF.of {B : Nat → Nat} {w : lW} (hb : bI B w) {tys : List (ClassId × FieldType)} (hw : ck_wo tys cw_TT cw_SG w.1 w.2) {q ci k t k0 : Nat} {lo hi : Int} {l : List ck_T} {c : mk_C} (hc : lp_L2[q]? = some c) (ht : lp_sh[q]? = some t) (hT : cw_TT[t]? = some (0, ci, k0, l)) (hk : l[k]? = some (0, lo, hi, [])) : ∃ x : Int32, oF B q ci k (.int x) w ∧ lo ≤ x.toInt ∧ x.toInt ≤ hi := by
  obtain ⟨e, h1, h2, -⟩ := hb.2.h hb.1 hc
  obtain ⟨td, d1, d2⟩ := hw.2.1 q _ e t h1 (hb.2.1 q t ht)
  have e1 : td = _ := Option.some.inj (d1.symm.trans hT)
  subst e1
  obtain ⟨vs, rfl, hl, hf⟩ := d2
  obtain ⟨v, g1, g2⟩ := hf k (0, lo, hi, []) hk
  obtain ⟨y, rfl, y0, y1⟩ := (show ∃ y : Int32, v = .int y ∧ lo ≤ y.toInt ∧ y.toInt ≤ hi from g2)
  refine ⟨y, ⟨vs, h2, (List.getElem?_eq_some_iff.mp g1).1, ?_⟩, y0, y1⟩
  rw [List.getD_eq_getElem?_getD, g1]
  rfl
theorem wS.of {B : Nat → Nat} {w : lW} (hb : bI B w) {tys : List (ClassId × FieldType)} (hw : ck_wo tys cw_TT cw_SG w.1 w.2) : ∃ W, wS B W w := by
  refine ⟨fun i => eJ (hof w.1 (B (3 + 2 * i))), fun i hi => ?_⟩
  obtain ⟨g, cA, h⟩ := aJ.of hb hw (bl_W i hi) (bt_W i hi) (show cw_TT[87]? = some (2, 4, _, _) from rfl)
  refine ⟨cA, ?_⟩
  show hof w.1 (B (3 + 2 * i)) = some (.inl (cA, 4, .inr (.inl (eJ (hof w.1 (B (3 + 2 * i)))))))
  rw [h]
  rfl
theorem rX.of {B : Nat → Nat} {w : lW} (hb : bI B w) {tys : List (ClassId × FieldType)} (hw : ck_wo tys cw_TT cw_SG w.1 w.2) (g : Nat → Int32) : ∃ km kv, rX B (runA g 0) km kv w := by
  obtain ⟨x, x1, x2, -⟩ := oF.of hb hw bl_126 bt_126 (show cw_TT[12]? = some (0, 7, _, _) from rfl) (k := 2) (show _ = some (0, 0, 60, []) from rfl)
  obtain ⟨y, y1, y2, -⟩ := oF.of hb hw bl_126 bt_126 (show cw_TT[12]? = some (0, 7, _, _) from rfl) (k := 3) (show _ = some (0, 0, 32, []) from rfl)
  obtain ⟨f, hf⟩ := aI.of hb hw bl_127 bt_127 (show cw_TT[25]? = some (1, 60, _, _) from rfl)
  refine ⟨x.toInt.toNat, y.toInt.toNat, hb, ⟨x, x1, by omega⟩, ⟨y, y1, by omega⟩, ⟨f, hf, fun j hj => absurd hj (Nat.not_lt_zero j)⟩, ⟨fun i => eJ (hof w.1 (B (130 + 2 * i))), fun i hi => ?_, fun i hi => absurd hi (Nat.not_lt_zero i)⟩, vR.of hb hw⟩
  obtain ⟨g, cA, h⟩ := aJ.of hb hw (bl_VW i hi) (bt_VW i hi) (show cw_TT[93]? = some (2, 4, _, _) from rfl)
  refine ⟨cA, ?_⟩
  show hof w.1 (B (130 + 2 * i)) = some (.inl (cA, 4, .inr (.inl (eJ (hof w.1 (B (130 + 2 * i)))))))
  rw [h]
  rfl
theorem mX.of {B : Nat → Nat} {w : lW} (hb : bI B w) {tys : List (ClassId × FieldType)} (hw : ck_wo tys cw_TT cw_SG w.1 w.2) (g : Nat → Int32) : ∃ km kv, mX B (runA g 0) km kv w := by
  obtain ⟨x, x1, x2, -⟩ := oF.of hb hw bl_343 bt_343 (show cw_TT[17]? = some (0, 12, _, _) from rfl) (k := 7) (show _ = some (0, 0, 64, []) from rfl)
  obtain ⟨y, y1, y2, -⟩ := oF.of hb hw bl_343 bt_343 (show cw_TT[17]? = some (0, 12, _, _) from rfl) (k := 5) (show _ = some (0, 0, 64, []) from rfl)
  obtain ⟨f, hf⟩ := aI.of hb hw bl_347 bt_347 (show cw_TT[48]? = some (1, 64, _, _) from rfl)
  obtain ⟨v, hv⟩ := aJ.of hb hw bl_346 bt_346 (show cw_TT[47]? = some (2, 256, _, _) from rfl)
  exact ⟨x.toInt.toNat, y.toInt.toNat, hb, ⟨x, x1, by omega⟩, ⟨y, y1, by omega⟩, ⟨f, hf, fun j hj => absurd hj (Nat.not_lt_zero j)⟩, ⟨v, hv, fun i hi => absurd hi (Nat.not_lt_zero i)⟩⟩
theorem acA_ge {g : Nat → Int32} : ∀ {m i : Nat} {s : Bool × Nat}, -1 ≤ acA g m i s
  | 0, i, s => by
    unfold acA
    split <;> omega
  | m + 1, i, s => by
    unfold acA
    split
    · exact acA_ge
    · omega
def r6O (B : Nat → Nat) (c : Int32) (W : Nat → Nat → Int64) (V : Nat → Int64) (w' : lW) : Prop := ∃ (c' : Int32) (W' : Nat → Nat → Int64), oF B 0 11 1 (.int c') w' ∧ wS B W' w' ∧ ((c'.toInt = c.toInt ∧ ∀ i x, W' i x = W i x) ∨ (c'.toInt = c.toInt + 1 ∧ (∀ i, i ≠ c.toInt.toNat → W' i = W i) ∧ ∀ x, x < 4 → W' c.toInt.toNat x = V x))
abbrev r6A : Type := rdA × (Nat → Nat → Int64)
def r6_F (a : r6A) : List Value := rd_F a.1
def r6_P : r6A → lW → Prop := fun ((B, c, l, z, r, k, lane, i, n), W) w => rd_P (B, c, l, z, r, k, lane, i, n) w ∧ wS B W w
def r6_V (r : Nat → Nat → Int32) (k i n : Int32) : Nat → Int64 := txtW (vo_g i (r k.toInt.toNat)) n.toInt.toNat
def r6_Q : r6A → lW → Option Value → lW → Prop := fun ((B, c, _, _, r, k, _, i, n), W) _ _ w' => r6O B c W (r6_V r k i n) w'
def in_65 (B : Nat → Nat) (c : Int32) (l z : Nat → Int32) (r : Nat → Nat → Int32) (k lane i n : Int32) (W : Nat → Nat → Int64) : fL_ → List Value → lW → Prop := fun lg vs w => in_r5 B c l z r k lane i n lg vs w ∧ wS B W w
def in_666 (B : Nat → Nat) (c : Int32) (l z : Nat → Int32) (r : Nat → Nat → Int32) (k lane i n : Int32) (W : Nat → Nat → Int64) : fL_ → List Value → lW → Prop := fun lg vs w => in_r66 B c l z r k lane i n lg vs w ∧ wS B W w
def in_6100 (B : Nat → Nat) (c : Int32) (l z : Nat → Int32) (r : Nat → Nat → Int32) (k lane i n : Int32) (W : Nat → Nat → Int64) : fL_ → List Value → lW → Prop := fun lg vs w => in_r100 B c l z r k lane i n lg vs w ∧ wS B W w
def r6_hd : r6A → lW → fI lW := fun ((B, c, l, z, r, k, lane, i, n), W) _ => [(5, in_65 B c l z r k lane i n W), (66, in_666 B c l z r k lane i n W), (100, in_6100 B c l z r k lane i n W)]
section
variable {B : Nat → Nat} {c : Int32} {l z : Nat → Int32} {r : Nat → Nat → Int32} {k lane i n : Int32} {W : Nat → Nat → Int64} {w0 : lW}
theorem r6_no {w : lW} {V : Nat → Int64} (h1 : oF B 0 11 1 (.int c) w) (h2 : wS B W w) : r6O B c W V w := ⟨c, W, h1, h2, Or.inl ⟨rfl, fun _ _ => rfl⟩⟩
theorem r6_flt {x : Int32} {w w3 : lW} {rv : Option Value} {V : Nat → Int64} (hI : dI B c l z r w) (hW : wS B W w) (hx : fLr r_X11_faulted [.ref (B 0), .int x] w rv w3) : ∃ y : Int32, rv = some (.int y) ∧ r6O B c W V w3 := by
  obtain ⟨rfl, a1, -⟩ := cl_flt hI.1 hI.2.2.2.1 hx
  exact ⟨_, rfl, r6_no a1 (hW.keep hI.1 hx (by decide))⟩
set_option maxHeartbeats 4000000 in
theorem r6_h5 : ∀ (lg : fL_) (vs : List Value) (w : lW), in_65 B c l z r k lane i n W lg vs w → ∃ (L : fL_) (f : Nat), f_sub L lg ∧ wh oW T_X11_read Sp_rd (r6_Q ((B, c, l, z, r, k, lane, i, n), W) w0) K_X11_read (r6_hd ((B, c, l, z, r, k, lane, i, n), W) w0) f 5 L vs w := by
  rintro lg vs w ⟨⟨hs, rfl, hI, hF⟩, hW⟩
  refine ⟨_, 60, hs, ?_⟩
  intro rv w1 hx
  have hx : fLr r_X11_isSheet [.int k] w rv w1 := hx
  have hI1 := hI.keep hx (by decide) (by decide)
  have hF1 := hF.keep hI.1 hx bl_0 bt_0 (by decide)
  have hW1 := hW.keep hI.1 hx (by decide)
  obtain ⟨-, rfl⟩ := (s_X11_isSheet _ _ _ _ _ _ hx).2 k rfl trivial
  refine ⟨fun hk => ?_, fun hk => ?_⟩
  rotate_left
  · exact r6_no hI1.2.2.2.1 hW1
  have hk : ¬ (if 0 ≤ k.toInt ∧ k.toInt < 4 then (1 : Int32) else 0).toInt = 0 := hk
  have hk : 0 ≤ k.toInt ∧ k.toInt < 4 := by
    by_cases h : 0 ≤ k.toInt ∧ k.toInt < 4
    · exact h
    · rw [if_neg h] at hk
      exact absurd rfl hk
  intro rv w2 hx2
  have hx2 : fLr r_X11_isLane [.int lane] w1 rv w2 := hx2
  have hI2 := hI1.keep hx2 (by decide) (by decide)
  have hF2 := hF1.keep hI1.1 hx2 bl_0 bt_0 (by decide)
  have hW2 := hW1.keep hI1.1 hx2 (by decide)
  obtain ⟨-, rfl⟩ := (s_X11_isLane _ _ _ _ _ _ hx2).2 lane rfl trivial
  refine ⟨fun hl => ?_, fun hl => ?_⟩
  rotate_left
  · exact r6_no hI2.2.2.2.1 hW2
  have hl : ¬ (if 0 ≤ lane.toInt ∧ lane.toInt < 3 then (1 : Int32) else 0).toInt = 0 := hl
  have hl : 0 ≤ lane.toInt ∧ lane.toInt < 3 := by
    by_cases h : 0 ≤ lane.toInt ∧ lane.toInt < 3
    · exact h
    · rw [if_neg h] at hl
      exact absurd rfl hl
  have em : (Int32.ofInt (-1)).toInt = -1 := by decide
  refine ⟨fun ha => ⟨fun hb => ?_, fun hb => ?_⟩, fun ha => ⟨fun hb => ⟨fun hd => ?_, fun hd => ?_⟩, fun hb => ?_⟩⟩
  · have ha : (eI (hof w2.1 (rv_ (eG fl_X11 77 (hof w2.1 (B 0))))) k.toNatClampNeg).toInt = (Int32.ofInt (-1)).toInt := ha
    have hb : ¬ (eI (hof w2.1 (rv_ (eG fl_X11 77 (hof w2.1 (B 0))))) k.toNatClampNeg).toInt = (Int32.ofInt (-1)).toInt := hb
    exact absurd ha hb
  · intro rv w3 hx3
    obtain ⟨x, rfl, h⟩ := r6_flt (x := 1) hI2 hW2 hx3
    exact h
  · have ha : ¬ (eI (hof w2.1 (rv_ (eG fl_X11 77 (hof w2.1 (B 0))))) k.toNatClampNeg).toInt = (Int32.ofInt (-1)).toInt := ha
    rw [g_lan hI2, em] at ha
    have hb : (eI (hof w2.1 (rv_ (eG fl_X11 77 (hof w2.1 (B 0))))) k.toNatClampNeg).toInt = lane.toInt := hb
    rw [g_lan hI2] at hb
    exact ⟨⟨⟨⟨rfl, rfl, rfl, rfl, rfl, trivial⟩, rfl, hI2, hF2⟩, hk, hl, ha, hb⟩, hW2⟩
  · have ha : ¬ (eI (hof w2.1 (rv_ (eG fl_X11 77 (hof w2.1 (B 0))))) k.toNatClampNeg).toInt = (Int32.ofInt (-1)).toInt := ha
    have hd : ¬ ¬ (eI (hof w2.1 (rv_ (eG fl_X11 77 (hof w2.1 (B 0))))) k.toNatClampNeg).toInt = (Int32.ofInt (-1)).toInt := hd
    exact absurd ha hd
  · intro rv w3 hx3
    obtain ⟨x, rfl, h⟩ := r6_flt (x := 2) hI2 hW2 hx3
    exact h
set_option maxHeartbeats 4000000 in
theorem r6_h66 (hz : ∀ k, k < 4 → (l k).toInt = -1 ∨ (0 ≤ (z k).toInt ∧ (z k).toInt ≤ 60)) : ∀ (lg : fL_) (vs : List Value) (w : lW), in_666 B c l z r k lane i n W lg vs w → ∃ (L : fL_) (f : Nat), f_sub L lg ∧ wh oW T_X11_read Sp_rd (r6_Q ((B, c, l, z, r, k, lane, i, n), W) w0) K_X11_read (r6_hd ((B, c, l, z, r, k, lane, i, n), W) w0) f 66 L vs w := by
  rintro lg vs w ⟨⟨⟨hs, rfl, hI, hF⟩, hk, hl, ha, hb⟩, hW⟩
  obtain ⟨z0, z60⟩ := (hz k.toInt.toNat (by omega)).resolve_left ha
  have hN := Int32.toInt_lt n
  refine ⟨_, 60, hs, fun hn => ?_, fun hn => ?_⟩
  rotate_left
  · intro rv w3 hx3
    obtain ⟨x, rfl, h⟩ := r6_flt (x := 4) hI hW hx3
    exact h
  have hn : 0 ≤ n.toInt := hn
  refine ⟨fun hi => ?_, fun hi => ⟨fun hj => ?_, fun hj => ?_⟩⟩
  · intro rv w3 hx3
    obtain ⟨x, rfl, h⟩ := r6_flt (x := 3) hI hW hx3
    exact h
  · have hi : ¬ i.toInt < 0 := hi
    have hj : i.toInt ≤ (eI (hof w.1 (rv_ (eG fl_X11 87 (hof w.1 (B 0))))) k.toNatClampNeg - n).toInt := hj
    rw [g_siz hI, i_sub (by omega) (by omega)] at hj
    exact ⟨⟨⟨⟨⟨rfl, rfl, rfl, rfl, rfl, trivial⟩, rfl, hI, hF⟩, hk, hl, ha, hb⟩, hn, (show 0 ≤ i.toInt by omega), (show i.toInt + n.toInt ≤ (z k.toInt.toNat).toInt by omega)⟩, hW⟩
  · intro rv w3 hx3
    obtain ⟨x, rfl, h⟩ := r6_flt (x := 3) hI hW hx3
    exact h
set_option maxHeartbeats 4000000 in
theorem r6_h100 (hc60 : 0 ≤ c.toInt ∧ c.toInt ≤ 60) (hz : ∀ k, k < 4 → (l k).toInt = -1 ∨ (0 ≤ (z k).toInt ∧ (z k).toInt ≤ 60)) : ∀ (lg : fL_) (vs : List Value) (w : lW), in_6100 B c l z r k lane i n W lg vs w → ∃ (L : fL_) (f : Nat), f_sub L lg ∧ wh oW T_X11_read Sp_rd (r6_Q ((B, c, l, z, r, k, lane, i, n), W) w0) K_X11_read (r6_hd ((B, c, l, z, r, k, lane, i, n), W) w0) f 100 L vs w := by
  rintro lg vs w ⟨⟨⟨⟨hs, rfl, hI, hF⟩, hk, hl, ha, hb⟩, hn, hi, hj⟩, hW⟩
  obtain ⟨z0, z60⟩ := (hz k.toInt.toNat (by omega)).resolve_left ha
  have e60 : (Int32.ofNat 60).toInt = 60 := by decide
  refine ⟨_, 60, hs, fun hf => ?_, fun hf => ?_⟩
  rotate_left
  · exact r6_no hI.2.2.2.1 hW
  have hf : (iv (eG fl_X11 108 (hof w.1 (B 0)))).toInt < (Int32.ofNat (eL (hof w.1 (rv_ (eG fl_X11 15 (hof w.1 (B 0))))))).toInt := hf
  rw [g_cnt hI.2.2.2.1, g_len hI.1 hI.2.2.2.1 hI.2.1, e60] at hf
  have hf : c.toInt < 60 := hf
  have er : eG fl_X11 34 (hof w.1 (B 0)) = .ref (B 126) := (hI.2.2.2.1.ref hI.1 bl_0 (show _ = some (2, 0, 126) from rfl)).get rfl
  intro rv w1 hx
  have hx : fLr r_X7_firstFault [eG fl_X11 34 (hof w.1 (B 0)), eR (hof w.1 (rv_ (eG fl_X11 74 (hof w.1 (B 0))))) k.toNatClampNeg, .int i, .int n] w rv w1 := hx
  rw [er, g_row hI hk] at hx
  have hI1 := hI.keep hx (by decide) (by decide)
  have hW1 := hW.keep hI.1 hx (by decide)
  obtain ⟨cA, hr⟩ := hI.2.2.2.2.2.2 k.toInt.toNat (by omega)
  obtain ⟨-, x, rfl, ex⟩ := (s_X7_firstFault _ _ _ _ _ _ hx).2 (B 126, B (336 + k.toInt.toNat), i, n, cA, r k.toInt.toNat) rfl ⟨hr, hi, hn, (show i.toInt + n.toInt ≤ 60 by omega)⟩
  have ex : x.toInt = acA (vo_g i (r k.toInt.toNat)) n.toInt.toNat 0 (true, 0) := ex
  have ge := acA_ge (g := vo_g i (r k.toInt.toNat)) (m := n.toInt.toNat) (i := 0) (s := (true, 0))
  refine ⟨fun hw => ?_, fun hw => ?_⟩
  rotate_left
  · exact r6_no hI1.2.2.2.1 hW1
  have hw : x.toInt < 0 := hw
  have hacc : acA (vo_g i (r k.toInt.toNat)) n.toInt.toNat 0 (true, 0) = -1 := by omega
  have er1 : eG fl_X11 34 (hof w1.1 (B 0)) = .ref (B 126) := (hI1.2.2.2.1.ref hI1.1 bl_0 (show _ = some (2, 0, 126) from rfl)).get rfl
  intro rv w2 hx2
  have hx2 : fLr r_X7_valueOf [eG fl_X11 34 (hof w1.1 (B 0)), eR (hof w1.1 (rv_ (eG fl_X11 74 (hof w1.1 (B 0))))) k.toNatClampNeg, .int i, .int n] w1 rv w2 := hx2
  rw [er1, g_row hI1 hk] at hx2
  have hI2 := hI1.keep hx2 (by decide) (by decide)
  have hW2 := hW1.keep hI1.1 hx2 (by decide)
  obtain ⟨tys, hwo1, -⟩ := hx2.2.2.2.2.1
  obtain ⟨rfl, V, hV, hV2⟩ := s_X7_valueOf (B, k.toInt.toNat, i, n, r k.toInt.toNat) w1 w2 rv hx2 ⟨by omega, rX.of hI1.1 hwo1 _, hI1.2.2.2.2.2.2 k.toInt.toNat (by omega), ⟨hi, hn, by omega⟩, hacc⟩
  have gs : eR (hof w1.1 (rv_ (eG fl_X11 15 (hof w1.1 (B 0))))) (iv (eG fl_X11 108 (hof w1.1 (B 0)))).toNatClampNeg = .ref (B (2 + 2 * c.toInt.toNat)) := g_sent ⟨hI1.1, hI1.2.1, hI1.2.2.2.1⟩ hc60.1 hf
  intro rv w3 hx3
  have hx3 : fLr r_X1_become [eR (hof w1.1 (rv_ (eG fl_X11 15 (hof w1.1 (B 0))))) (iv (eG fl_X11 108 (hof w1.1 (B 0)))).toNatClampNeg, .ref (B 129)] w2 rv w3 := hx3
  rw [gs] at hx3
  have hI3 := hI2.keep hx3 (by decide) (by decide)
  obtain ⟨tys2, hwo2, -⟩ := hx3.2.2.2.2.1
  obtain ⟨fs1, c1, b1⟩ := hW2.bx hI2.1 hwo2 (i := c.toInt.toNat) (by omega)
  obtain ⟨fs2, c2, b2⟩ := hV.bx hI2.1 hwo2 (i := 0) (by decide)
  obtain ⟨rfl, g, e, hg⟩ := (s_X1_become _ _ _ _ _ _ hx3).2 (_, _) rfl ⟨b1, b2⟩
  have hW3 := hW2.upd (w' := w3) hI2.1 (C := c.toInt.toNat) (by omega) e
  intro rv w4 hx4
  have hx4 : fLr r_X11_newSentence [.ref (B 0)] w3 rv w4 := hx4
  obtain ⟨rfl, a1⟩ := cl_new hI3.1 hI3.2.2.2.1 hx4
  refine ⟨c + 1, _, a1, hW3.keep hI3.1 hx4 (by decide), Or.inr ⟨i_inc hc60.1 (by omega), fun j hj => ?_, fun y hy => ?_⟩⟩
  · show (if j = c.toInt.toNat then g else W j) = W j
    rw [if_neg hj]
  · show (if c.toInt.toNat = c.toInt.toNat then g else W c.toInt.toNat) y = r6_V r k i n y
    rw [if_pos rfl, hg y hy]
    exact hV2 y hy
end
theorem s6_X11_read : ∀ (a : r6A) (w w' : lW) (rv : Option Value), fLr r_X11_read (r6_F a) w rv w' → r6_P a w → r6_Q a w rv w' := by
  refine do_ofW r6_F r6_P r6_Q Sp_rd r6_hd 40 fo_X11 Sp_rd_ok k_X11_read (fun a w0 hp => ?_) (fun a w0 hp hd0 => ?_)
  · obtain ⟨⟨B, c, l, z, r, k, lane, i, n⟩, W⟩ := a
    obtain ⟨⟨-, -, hc60, hz⟩, -⟩ := hp
    exact List.forall_mem_cons.mpr ⟨r6_h5, List.forall_mem_cons.mpr ⟨r6_h66 hz, List.forall_mem_cons.mpr ⟨r6_h100 hc60 hz, fun _ h => absurd h List.not_mem_nil⟩⟩⟩
  · obtain ⟨⟨B, c, l, z, r, k, lane, i, n⟩, W⟩ := a
    obtain ⟨⟨hI, ⟨u, hu⟩, -, -⟩, hW⟩ := hp
    have hI : dI B c l z r w0 := hI
    have hu : oF B 0 11 14 u w0 := hu
    have hW : wS B W w0 := hW
    intro q e0 hq
    have hq : w0.1[q]? = some (B 0, e0) := hq
    obtain ⟨a1, a2⟩ := hI.put (x := 0) hu hq
    obtain ⟨-, b2, -, -⟩ := oF.put (v' := .int 0) (i := 93) (pl := pl_X11) hI.1 hu bl_0 hq rfl (fun r h => by have h : some ((1, 0, 0) : mk_V) = some (2, 0, r) := h; cases h)
    exact ⟨⟨⟨rfl, rfl, rfl, rfl, rfl, trivial⟩, rfl, a1, a2⟩, fun j hj => (hW j hj).upd hI.1 (bl_W j hj) bl_0 (by omega) b2⟩
