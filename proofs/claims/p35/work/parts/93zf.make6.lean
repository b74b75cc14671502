/-! make, with the sentences' worlds -/
theorem bl_S (i : Nat) (hi : i < 60) : lp_L2[2 + 2 * i]? = some (0, 1, 1, [(2, 0, 3 + 2 * i)]) := lp_at_ok (List.all_eq_true.mp (show (List.range 60).all (fun i => lp_at lp_L2 (2 + 2 * i) (0, 1, 1, [(2, 0, 3 + 2 * i)])) = true by decide +kernel) i (List.mem_range.mpr hi))
theorem bt_S : ∀ i, i < 60 → lp_sh[2 + 2 * i]? = some 86 := by decide +kernel
theorem bl_W (i : Nat) (hi : i < 60) : lp_L2[3 + 2 * i]? = some (2, 1, 4, []) := lp_at_ok (List.all_eq_true.mp (show (List.range 60).all (fun i => lp_at lp_L2 (3 + 2 * i) (2, 1, 4, [])) = true by decide +kernel) i (List.mem_range.mpr hi))
theorem bt_W : ∀ i, i < 60 → lp_sh[3 + 2 * i]? = some 87 := by decide +kernel
def wS (B : Nat → Nat) (W : Nat → Nat → Int64) (w : lW) : Prop := ∀ i, i < 60 → aJ B (3 + 2 * i) 4 (W i) w
theorem wS.keep {B : Nat → Nat} {W : Nat → Nat → Int64} {rt : Nat} {Wr : List (Nat × Nat)} {T : fT} {cc : ByteArray} {As : List Value} {w w' : lW} {rv : Option Value} (hW : wS B W w) (hI : bI B w) (h : fLr (fq cw_TT cw_SG rt Wr T cc) As w rv w') (hw : (87, 0) ∉ Wr) : wS B W w' :=
  fun i hi => (hW i hi).keep hI h (bl_W i hi) (bt_W i hi) (show (2 : Nat) ≠ 0 by decide) hw
/-- a sentence as a set -/
theorem wS.bx {B : Nat → Nat} {W : Nat → Nat → Int64} {w : lW} (hW : wS B W w) (hI : bI B w) {tys : List (ClassId × FieldType)} (hw : ck_wo tys cw_TT cw_SG w.1 w.2) {i : Nat} (hi : i < 60) : ∃ (fs : List Value) (cA : ClassId), bx (B (2 + 2 * i), fs, B (3 + 2 * i), cA, W i) (hof w.1) := by
  obtain ⟨vs, h1, -, h3⟩ := hI.2.ov hI.1 hw (bl_S i hi) (bt_S i hi) (show cw_TT[86]? = some (0, 1, _, _) from rfl)
  obtain ⟨cA, h4⟩ := hW i hi
  exact ⟨vs, cA, h1, h3 0 (3 + 2 * i) rfl, h4⟩
theorem wS.upd {B : Nat → Nat} {W : Nat → Nat → Int64} {w w' : lW} (hW : wS B W w) (hI : bI B w) {C : Nat} (hC : C < 60) {cA : ClassId} {g : Nat → Int64} (hh : hof w'.1 = hset (hof w.1) (B (3 + 2 * C)) (.inl (cA, 4, .inr (.inl g)))) : wS B (fun i => if i = C then g else W i) w' := by
  intro i hi
  by_cases e : i = C
  · subst e
    refine ⟨cA, ?_⟩
    show hof w'.1 (B (3 + 2 * i)) = some (.inl (cA, 4, .inr (.inl (if i = i then g else W i))))
    rw [if_pos rfl, hh, hset_at]
  · obtain ⟨c2, h2⟩ := hW i hi
    refine ⟨c2, ?_⟩
    show hof w'.1 (B (3 + 2 * i)) = some (.inl (c2, 4, .inr (.inl (if i = C then g else W i))))
    rw [if_neg e, hh, hset_ne (hI.2.ne hI.1 (bl_W i hi) (bl_W C hC) (by omega))]
    exact h2
def mk6Q (c how a b c' : Int32) (W W' : Nat → Nat → Int64) : Prop := (c'.toInt = c.toInt ∧ ∀ i x, W' i x = W i x) ∨ (c'.toInt = c.toInt + 1 ∧ (∀ i, i ≠ c.toInt.toNat → W' i = W i) ∧ ∀ x, x < 4 → W' c.toInt.toNat x = opV how (W a.toInt.toNat x) (W b.toInt.toNat x))
abbrev k6A : Type := ((Nat → Nat) × Int32 × (Nat → Nat → Int64)) × Int32 × Int32 × Int32
def k6_F : k6A → List Value := fun ((B, _, _), how, a, b) => [.ref (B 0), .int how, .int a, .int b]
def k6_P : k6A → lW → Prop := fun ((B, c, W), _, _, _) w => nS B c w ∧ wS B W w ∧ 0 ≤ c.toInt ∧ c.toInt ≤ 60
def k6O (B : Nat → Nat) (c : Int32) (W : Nat → Nat → Int64) (how a b : Int32) (rv : Option Value) (w' : lW) : Prop := ∃ (v c' : Int32) (W' : Nat → Nat → Int64), rv = some (.int v) ∧ oF B 0 11 1 (.int c') w' ∧ wS B W' w' ∧ mkQ how a b c v c' ∧ mk6Q c how a b c' W W'
def k6_Q : k6A → lW → Option Value → lW → Prop := fun ((B, c, W), how, a, b) _ rv w' => k6O B c W how a b rv w'
def in_6k33 (B : Nat → Nat) (c : Int32) (W : Nat → Nat → Int64) (how a b : Int32) : fL_ → List Value → lW → Prop := fun lg vs w => in_k33 B c how a b lg vs w ∧ wS B W w
def in_6k157 (B : Nat → Nat) (c : Int32) (W : Nat → Nat → Int64) (how a b : Int32) : fL_ → List Value → lW → Prop := fun lg vs w => in_k157 B c how a b lg vs w ∧ ∃ W', wS B W' w ∧ (∀ i, i ≠ c.toInt.toNat → W' i = W i) ∧ ∀ x, x < 4 → W' c.toInt.toNat x = opV how (W a.toInt.toNat x) (W b.toInt.toNat x)
def k6_hd : k6A → lW → fI lW := fun ((B, c, W), how, a, b) _ => [(33, in_6k33 B c W how a b), (157, in_6k157 B c W how a b)]
section
variable {B : Nat → Nat} {c how a b : Int32} {W : Nat → Nat → Int64} {w0 : lW}
theorem g_sent {w : lW} (hI : nS B c w) (h0 : 0 ≤ c.toInt) (h60 : c.toInt < 60) : eR (hof w.1 (rv_ (eG fl_X11 15 (hof w.1 (B 0))))) (iv (eG fl_X11 108 (hof w.1 (B 0)))).toNatClampNeg = .ref (B (2 + 2 * c.toInt.toNat)) := by
  rw [g_cnt hI.2.2, bR (fl := fl_X11) (i := 15) (k2 := 0) (r := 1) hI.2.2 hI.1 bl_0 rfl rfl]
  obtain ⟨cA, g, h, hg⟩ := hI.2.1
  show eR (hof w.1 (B 1)) c.toInt.toNat = _
  rw [h]
  show va_rf (g c.toInt.toNat) = _
  rw [hg _ (by omega)]
  rfl
/-- an operation on the new sentence -/
theorem k6_op {o : Int64 → Int64 → Int64} {C D : Nat} {W1 : Nat → Nat → Int64} {w1 w2 : lW} {rv : Option Value} {rt : Nat} {Wr : List (Nat × Nat)} {T : fT} {cc : ByteArray} (hx : fLr (fq cw_TT cw_SG rt Wr T cc) [.ref (B (2 + 2 * C)), .ref (B (2 + 2 * D))] w1 rv w2) (hs : f_do (fq cw_TT cw_SG rt Wr T cc) (P_op2 o)) (hI : bI B w1) (hW : wS B W1 w1) (hC : C < 60) (hD : D < 60) (hn : C ≠ D) : rv = none ∧ ∃ g : Nat → Int64, wS B (fun i => if i = C then g else W1 i) w2 ∧ ∀ x, x < 4 → g x = o (W1 C x) (W1 D x) := by
  obtain ⟨tys, hw, -⟩ := hx.2.2.2.2.1
  obtain ⟨fs1, c1, b1⟩ := hW.bx hI hw hC
  obtain ⟨fs2, c2, b2⟩ := hW.bx hI hw hD
  obtain ⟨rfl, g, e, hg⟩ := (hs _ _ _ _ _ _ hx).2 (_, _) rfl ⟨b1, b2, hI.2.ne hI.1 (bl_W C hC) (bl_W D hD) (by omega)⟩
  exact ⟨rfl, g, hW.upd hI hC e, hg⟩
theorem k6_bc {C D : Nat} {W1 : Nat → Nat → Int64} {w1 w2 : lW} {rv : Option Value} (hx : fLr r_X1_become [.ref (B (2 + 2 * C)), .ref (B (2 + 2 * D))] w1 rv w2) (hI : bI B w1) (hW : wS B W1 w1) (hC : C < 60) (hD : D < 60) : rv = none ∧ ∃ g : Nat → Int64, wS B (fun i => if i = C then g else W1 i) w2 ∧ ∀ x, x < 4 → g x = W1 D x := by
  obtain ⟨tys, hw, -⟩ := hx.2.2.2.2.1
  obtain ⟨fs1, c1, b1⟩ := hW.bx hI hw hC
  obtain ⟨fs2, c2, b2⟩ := hW.bx hI hw hD
  obtain ⟨rfl, g, e, hg⟩ := (s_X1_become _ _ _ _ _ _ hx).2 (_, _) rfl ⟨b1, b2⟩
  exact ⟨rfl, g, hW.upd hI hC e, hg⟩
theorem k6_tn {C : Nat} {W1 : Nat → Nat → Int64} {w1 w2 : lW} {rv : Option Value} (hx : fLr r_X1_turn [.ref (B (2 + 2 * C))] w1 rv w2) (hI : bI B w1) (hW : wS B W1 w1) (hC : C < 60) : rv = none ∧ ∃ g : Nat → Int64, wS B (fun i => if i = C then g else W1 i) w2 ∧ ∀ x, x < 4 → g x = o_turn (W1 C x) := by
  obtain ⟨tys, hw, -⟩ := hx.2.2.2.2.1
  obtain ⟨fs1, c1, b1⟩ := hW.bx hI hw hC
  obtain ⟨rfl, g, e, hg⟩ := (s_X1_turn _ _ _ _ _ _ hx).2 _ rfl b1
  exact ⟨rfl, g, hW.upd hI hC e, hg⟩
/-- the words of the new sentence after become and an operation -/
theorem k6_two {C : Nat} {W : Nat → Nat → Int64} {g g2 : Nat → Int64} {w : lW} (h : wS B (fun i => if i = C then g2 else (fun i => if i = C then g else W i) i) w) {V : Nat → Int64} (hV : ∀ x, x < 4 → g2 x = V x) : ∃ W', wS B W' w ∧ (∀ i, i ≠ C → W' i = W i) ∧ ∀ x, x < 4 → W' C x = V x := by
  refine ⟨_, h, fun i hi => ?_, fun x hx => ?_⟩
  · show (if i = C then g2 else if i = C then g else W i) = W i
    rw [if_neg hi, if_neg hi]
  · show (if C = C then g2 else if C = C then g else W C) x = V x
    rw [if_pos rfl]
    exact hV x hx
set_option maxHeartbeats 4000000 in
theorem k6_h33 (hc60 : 0 ≤ c.toInt ∧ c.toInt ≤ 60) : ∀ (lg : fL_) (vs : List Value) (w : lW), in_6k33 B c W how a b lg vs w → ∃ (L : fL_) (f : Nat), f_sub L lg ∧ wh oW T_X11_make Sp_mk (k6_Q ((B, c, W), how, a, b) w0) K_X11_make (k6_hd ((B, c, W), how, a, b) w0) f 33 L vs w := by
  rintro lg vs w ⟨⟨hs, rfl, hI, hh⟩, hW⟩
  have e60 : (Int32.ofNat 60).toInt = 60 := by decide
  have unk : ¬ ((0 ≤ a.toInt ∧ a.toInt < c.toInt) ∧ (how.toInt = 0 ∨ (0 ≤ b.toInt ∧ b.toInt < c.toInt))) → k6O B c W how a b (some (.int (-1))) w := by
    intro hx
    refine ⟨-1, c, W, rfl, hI.2.2, hW, ?_, Or.inl ⟨rfl, fun _ _ => rfl⟩⟩
    unfold mkQ
    rw [if_pos hh, if_neg hx]
    exact ⟨rfl, rfl⟩
  refine ⟨_, 80, hs, fun h1 => ?_, fun h1 => ⟨fun h2 => ?_, fun h2 => ?_⟩⟩
  · have h1 : at_ B c a = .null := h1
    exact unk (fun z => at_nul.mp h1 z.1)
  rotate_left
  · have h2 : (if how.toInt = 0 then at_ B c a else at_ B c b) = .null := h2
    refine unk (fun z => ?_)
    split at h2
    · exact at_nul.mp h2 z.1
    · rename_i hn
      exact at_nul.mp h2 (z.2.resolve_left hn)
  have h1 : ¬ at_ B c a = .null := h1
  have h2 : ¬ (if how.toInt = 0 then at_ B c a else at_ B c b) = .null := h2
  have ha : 0 ≤ a.toInt ∧ a.toInt < c.toInt := Classical.byContradiction fun z => h1 (at_nul.mpr z)
  have hb : how.toInt = 0 ∨ (0 ≤ b.toInt ∧ b.toInt < c.toInt) := by
    by_cases hz : how.toInt = 0
    · exact Or.inl hz
    · rw [if_neg hz] at h2
      exact Or.inr (Classical.byContradiction fun z => h2 (at_nul.mpr z))
  refine ⟨fun hf => ?_, fun hf => ?_⟩
  rotate_left
  · have hf : ¬ (iv (eG fl_X11 108 (hof w.1 (B 0)))).toInt < (Int32.ofNat (eL (hof w.1 (rv_ (eG fl_X11 15 (hof w.1 (B 0))))))).toInt := hf
    rw [g_cnt hI.2.2, g_len hI.1 hI.2.2 hI.2.1, e60] at hf
    have hf : ¬ c.toInt < 60 := hf
    refine ⟨-4, c, W, rfl, hI.2.2, hW, ?_, Or.inl ⟨rfl, fun _ _ => rfl⟩⟩
    unfold mkQ
    rw [if_pos hh, if_pos ⟨ha, hb⟩, if_pos (by omega)]
    exact ⟨rfl, rfl⟩
  have hf : (iv (eG fl_X11 108 (hof w.1 (B 0)))).toInt < (Int32.ofNat (eL (hof w.1 (rv_ (eG fl_X11 15 (hof w.1 (B 0))))))).toInt := hf
  rw [g_cnt hI.2.2, g_len hI.1 hI.2.2 hI.2.1, e60] at hf
  have hf : c.toInt < 60 := hf
  have cN : c.toInt.toNat < 60 := by omega
  have aN : a.toInt.toNat < 60 := by omega
  have ac : c.toInt.toNat ≠ a.toInt.toNat := by omega
  have gs := g_sent hI hc60.1 hf
  intro rv w1 hx
  have hx : fLr r_X1_become [eR (hof w.1 (rv_ (eG fl_X11 15 (hof w.1 (B 0))))) (iv (eG fl_X11 108 (hof w.1 (B 0)))).toNatClampNeg, at_ B c a] w rv w1 := hx
  rw [gs, at_ref ha] at hx
  have hI1 := hI.keep hx (by decide) (by decide)
  obtain ⟨rfl, g, hW1, hg⟩ := k6_bc hx hI.1 hW cN aN
  have fin : ∀ {w2 : lW} {g2 : Nat → Int64}, nS B c w2 → wS B (fun i => if i = c.toInt.toNat then g2 else (fun i => if i = c.toInt.toNat then g else W i) i) w2 → (∀ x, x < 4 → g2 x = opV how (W a.toInt.toNat x) (W b.toInt.toNat x)) → in_6k157 B c W how a b [(0, false, .ref (B 0))] [] w2 := fun h1 h2 h3 => ⟨⟨⟨rfl, trivial⟩, rfl, h1, hh, ⟨ha, hb⟩, hf⟩, k6_two h2 h3⟩
  have gC : ∀ x, (if c.toInt.toNat = c.toInt.toNat then g else W c.toInt.toNat) x = g x := fun x => by rw [if_pos rfl]
  have two : ¬ how.toInt = 0 → ∀ {o : Int64 → Int64 → Int64} {rt : Nat} {Wr : List (Nat × Nat)} {T : fT} {cc : ByteArray} {w2 : lW} {rv : Option Value}, fLr (fq cw_TT cw_SG rt Wr T cc) [eR (hof w.1 (rv_ (eG fl_X11 15 (hof w.1 (B 0))))) (iv (eG fl_X11 108 (hof w.1 (B 0)))).toNatClampNeg, if how.toInt = 0 then at_ B c a else at_ B c b] w1 rv w2 → f_do (fq cw_TT cw_SG rt Wr T cc) (P_op2 o) → bs_K.all (fun x => !(Wr.contains x)) = true → (11, 1) ∉ Wr → (∀ u v, o u v = opV how u v) → rv = none ∧ in_6k157 B c W how a b [(0, false, .ref (B 0))] [] w2 := by
    intro h0 o rt Wr T cc w2 rv hx2 hs2 k1 k2 ho
    have hbb := hb.resolve_left h0
    have bc : c.toInt.toNat ≠ b.toInt.toNat := by omega
    rw [gs, if_neg h0, at_ref hbb] at hx2
    obtain ⟨rfl, g2, hW2, hg2⟩ := k6_op hx2 hs2 hI1.1 hW1 cN (by omega) bc
    refine ⟨rfl, fin (hI1.keep hx2 k1 k2) hW2 (fun x hx4 => ?_)⟩
    rw [hg2 x hx4]
    show o ((if c.toInt.toNat = c.toInt.toNat then g else W c.toInt.toNat) x) ((if b.toInt.toNat = c.toInt.toNat then g else W b.toInt.toNat) x) = _
    rw [gC, if_neg (Ne.symm bc), hg x hx4, ho]
  refine ⟨fun h3 => ?_, fun h3 h4 => ⟨fun h5 => ?_, fun h5 => ?_, fun h5 => ?_, fun h5 => ?_, trivial⟩⟩
  · have h3 : how.toInt < 0 ∨ 3 < how.toInt := h3
    have e : how.toInt = 4 := by omega
    intro rv w2 hx2
    obtain ⟨rfl, h⟩ := two (by omega) (show fLr r_X1_match _ w1 rv w2 from hx2) s_X1_match (by decide) (by decide) (fun u v => by unfold opV; rw [if_neg (by omega), if_neg (by omega), if_neg (by omega), if_neg (by omega)])
    exact ⟨⟨⟨rfl, trivial⟩, h.1.2⟩, h.2⟩
  · have h5 : how.toInt = 0 := h5
    intro rv w2 hx2
    have hx2 : fLr r_X1_turn [eR (hof w.1 (rv_ (eG fl_X11 15 (hof w.1 (B 0))))) (iv (eG fl_X11 108 (hof w.1 (B 0)))).toNatClampNeg] w1 rv w2 := hx2
    rw [gs] at hx2
    obtain ⟨rfl, g2, hW2, hg2⟩ := k6_tn hx2 hI1.1 hW1 cN
    have h := fin (hI1.keep hx2 (by decide) (by decide)) hW2 (fun x hx4 => by
      rw [hg2 x hx4]
      show o_turn ((if c.toInt.toNat = c.toInt.toNat then g else W c.toInt.toNat) x) = _
      rw [gC, hg x hx4]
      unfold opV
      rw [if_pos h5])
    exact ⟨⟨⟨rfl, trivial⟩, h.1.2⟩, h.2⟩
  · have h5 : how.toInt = 0 + 1 := h5
    intro rv w2 hx2
    obtain ⟨rfl, h⟩ := two (by omega) (show fLr r_X1_meet _ w1 rv w2 from hx2) s_X1_meet (by decide) (by decide) (fun u v => by unfold opV; rw [if_neg (by omega), if_pos (by omega)])
    exact ⟨⟨⟨rfl, trivial⟩, h.1.2⟩, h.2⟩
  · have h5 : how.toInt = 0 + 1 + 1 := h5
    intro rv w2 hx2
    obtain ⟨rfl, h⟩ := two (by omega) (show fLr r_X1_join _ w1 rv w2 from hx2) s_X1_join (by decide) (by decide) (fun u v => by unfold opV; rw [if_neg (by omega), if_neg (by omega), if_pos (by omega)])
    exact ⟨⟨⟨rfl, trivial⟩, h.1.2⟩, h.2⟩
  · have h5 : how.toInt = 0 + 1 + 1 + 1 := h5
    intro rv w2 hx2
    obtain ⟨rfl, h⟩ := two (by omega) (show fLr r_X1_imply _ w1 rv w2 from hx2) s_X1_imply (by decide) (by decide) (fun u v => by unfold opV; rw [if_neg (by omega), if_neg (by omega), if_neg (by omega), if_pos (by omega)])
    exact ⟨⟨⟨rfl, trivial⟩, h.1.2⟩, h.2⟩
set_option maxHeartbeats 4000000 in
theorem k6_h157 : ∀ (lg : fL_) (vs : List Value) (w : lW), in_6k157 B c W how a b lg vs w → ∃ (L : fL_) (f : Nat), f_sub L lg ∧ wh oW T_X11_make Sp_mk (k6_Q ((B, c, W), how, a, b) w0) K_X11_make (k6_hd ((B, c, W), how, a, b) w0) f 157 L vs w := by
  rintro lg vs w ⟨⟨hs, rfl, hI, hh, hab, hf⟩, W', hW, h1, h2⟩
  have hf : c.toInt < 60 := hf
  refine ⟨_, 40, hs, ?_⟩
  intro rv w1 hx
  have hx : fLr r_X11_newSentence [.ref (B 0)] w rv w1 := hx
  obtain ⟨rfl, a1⟩ := cl_new hI.1 hI.2.2 hx
  refine ⟨c, c + 1, W', rfl, a1, hW.keep hI.1 hx (by decide), ?_, Or.inr ⟨?_, h1, h2⟩⟩
  · unfold mkQ
    rw [if_pos hh, if_pos hab, if_neg (by omega)]
    exact ⟨rfl, rfl⟩
  · have h3 := hab.1
    exact i_inc (by omega) (by omega)
set_option maxHeartbeats 4000000 in
theorem k6_en {w : lW} (hI : nS B c w) (hW : wS B W w) (hc60 : 0 ≤ c.toInt ∧ c.toInt ≤ 60) : wl oW T_X11_make Sp_mk (k6_Q ((B, c, W), how, a, b) w0) K_X11_make (k6_hd ((B, c, W), how, a, b) w0) 40 K_X11_make 0 (la 0 (k6_F ((B, c, W), how, a, b))) [] w := by
  have e4 : (Int32.ofInt 4).toInt = 4 := by decide
  have bad : ¬ (0 ≤ how.toInt ∧ how.toInt ≤ 4) → k6O B c W how a b (some (.int (-2))) w := by
    intro hx
    refine ⟨-2, c, W, rfl, hI.2.2, hW, ?_, Or.inl ⟨rfl, fun _ _ => rfl⟩⟩
    unfold mkQ
    rw [if_neg hx]
    exact ⟨rfl, rfl⟩
  refine ⟨fun h1 => ?_, fun h1 => ⟨fun h2 => ?_, fun h2 => ?_⟩⟩
  · have h1 : how.toInt < 0 := h1
    exact bad (by omega)
  rotate_left
  · have h2 : ¬ how.toInt ≤ (Int32.ofInt 4).toInt := h2
    exact bad (by omega)
  have h1 : ¬ how.toInt < 0 := h1
  have h2 : how.toInt ≤ (Int32.ofInt 4).toInt := h2
  intro rv w1 hx
  have hx : fLr r_X11_sentenceAt [.ref (B 0), .int a] w rv w1 := hx
  obtain ⟨rfl, hI1⟩ := cl_at hI hc60.2 hx
  have hW1 := hW.keep hI.1 hx (by decide)
  refine ⟨fun h3 => ?_, fun h3 => ?_⟩
  · have h3 : ¬ how.toInt = 0 := h3
    intro rv w2 hx2
    have hx2 : fLr r_X11_sentenceAt [.ref (B 0), .int b] w1 rv w2 := hx2
    obtain ⟨rfl, hI2⟩ := cl_at hI1 hc60.2 hx2
    refine ⟨⟨⟨rfl, rfl, rfl, trivial⟩, ?_, hI2, (show 0 ≤ how.toInt by omega), (show how.toInt ≤ 4 by omega)⟩, hW1.keep hI1.1 hx2 (by decide)⟩
    rw [if_neg h3]
    rfl
  · have h3 : ¬ ¬ how.toInt = 0 := h3
    refine ⟨⟨⟨rfl, rfl, rfl, trivial⟩, ?_, hI1, (show 0 ≤ how.toInt by omega), (show how.toInt ≤ 4 by omega)⟩, hW1⟩
    rw [if_pos (Classical.not_not.mp h3)]
    rfl
end
theorem s6_X11_make : ∀ (a : k6A) (w w' : lW) (rv : Option Value), fLr r_X11_make (k6_F a) w rv w' → k6_P a w → k6_Q a w rv w' := by
  refine do_ofW k6_F k6_P k6_Q Sp_mk k6_hd 40 fo_X11 Sp_mk_ok k_X11_make (fun a w0 hp => ?_) (fun a w0 hp hd0 => ?_)
  · obtain ⟨⟨B, c, W⟩, how, a, b⟩ := a
    obtain ⟨-, -, hc60⟩ := hp
    exact List.forall_mem_cons.mpr ⟨k6_h33 hc60, List.forall_mem_cons.mpr ⟨k6_h157, fun _ h => absurd h List.not_mem_nil⟩⟩
  · obtain ⟨⟨B, c, W⟩, how, a, b⟩ := a
    exact k6_en hp.1 hp.2.1 hp.2.2
