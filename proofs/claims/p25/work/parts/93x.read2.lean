/-! read: the reference's -/
def mI (B : Nat → Nat) (c : Int32) (y z f : Nat → Int32) (w : lW) : Prop := bI B w ∧ oF B 343 12 1 (.int c) w ∧ aI B 381 4 z w ∧ aI B 382 4 y w ∧ aI B 383 240 f w
theorem mI.keep {B : Nat → Nat} {c : Int32} {y z f : Nat → Int32} {rt : Nat} {Wr : List (Nat × Nat)} {T : fT} {cc : ByteArray} {As : List Value} {w w' : lW} {rv : Option Value} (hI : mI B c y z f w) (h : fLr (fq cw_TT cw_SG rt Wr T cc) As w rv w') (hk : bs_K.all (fun x => !(Wr.contains x)) = true) (hw : (17, 1) ∉ Wr ∧ (82, 0) ∉ Wr ∧ (83, 0) ∉ Wr ∧ (84, 0) ∉ Wr) : mI B c y z f w' := by
  obtain ⟨hb, hc, hz, hy, hf⟩ := hI
  exact ⟨hb.keep h hk, hc.keep hb h bl_343 bt_343 hw.1, hz.keep hb h bl_381 bt_381 (by decide) hw.2.1, hy.keep hb h bl_382 bt_382 (by decide) hw.2.2.1, hf.keep hb h bl_383 bt_383 (by decide) hw.2.2.2⟩
theorem mI.upd {B : Nat → Nat} {c : Int32} {y z f : Nat → Int32} {w : lW} (hI : mI B c y z f w) {p : Nat} {d : mk_C} {ws' : va_W} {sh' : List Nat} {e : va_E} (hb : bI B (ws', sh')) (hd : lp_L2[p]? = some d) (hn : 343 ≠ p ∧ 381 ≠ p ∧ 382 ≠ p ∧ 383 ≠ p) (hh : hof ws' = hset (hof w.1) (B p) e) : mI B c y z f (ws', sh') :=
  ⟨hb, hI.2.1.upd hI.1 bl_343 hd hn.1 hh, hI.2.2.1.upd hI.1 bl_381 hd hn.2.1 hh, hI.2.2.2.1.upd hI.1 bl_382 hd hn.2.2.1 hh, hI.2.2.2.2.upd hI.1 bl_383 hd hn.2.2.2 hh⟩
theorem cR_sJ {B : Nat → Nat} {c : mk_C} {e : va_E} (h : cR B c e) (h0 : c.1 ≠ 0) (hr : ∀ k r : Nat, c.2.2.2[k]? ≠ some (2, 0, r)) {i : Nat} {v : Int64} : cR B c (sJ i v (some e)) := by
  cases e with
  | inr o => exact absurd h.1 h0
  | inl x =>
    obtain ⟨cA, n, a⟩ := x
    unfold sJ
    split
    · exact ⟨h0, fun k r hk => absurd hk (hr k r)⟩
    · rename_i e' _ he'
      have he' : (Sum.inl (cA, n, a) : va_E) = e' := Option.some.inj he'
      subst he'
      exact ⟨h0, fun k r hk => absurd hk (hr k r)⟩
    · rename_i he'
      cases he'
theorem mI.lng {B : Nat → Nat} {c : Int32} {y z f : Nat → Int32} {w : lW} (hI : mI B c y z f w) {E : Value} (hE : E = .ref (B 344)) {q : Nat} {e0 : va_E} (hq : w.1[q]? = some (rv_ E, e0)) {i : Nat} {v : Int64} : mI B c y z f (w.1.set q (rv_ E, sJ i v (hof w.1 (rv_ E))), w.2) := by
  subst hE
  have hq : w.1[q]? = some (B 344, e0) := hq
  obtain ⟨e, h1, h2, h3⟩ := hI.1.2.h hI.1.1 bl_344
  have he : cR B (2, 1, 240, []) (sJ i v (hof w.1 (B 344))) := by
    rw [h2]
    exact cR_sJ h3 (by decide) (fun k r hk => by cases hk)
  obtain ⟨b1, b2⟩ := hI.1.set bl_344 hq he
  exact hI.upd b1 bl_344 (by decide) b2
theorem mI.cnt {B : Nat → Nat} {c c' : Int32} {y z f : Nat → Int32} {w : lW} (hI : mI B c y z f w) {E : Value} (hE : E = .int c') {q : Nat} {e0 : va_E} (hq : w.1[q]? = some (B 343, e0)) : mI B c' y z f (w.1.set q (B 343, sG pl_X12 149 E (hof w.1 (B 343))), w.2) := by
  subst hE
  obtain ⟨hb, hc, hz, hy, hf⟩ := hI
  obtain ⟨b1, b2, b3, -⟩ := oF.put (v' := .int c') (i := 149) (pl := pl_X12) hb hc bl_343 hq rfl (fun r h => by have h : some ((1, 0, 0) : mk_V) = some (2, 0, r) := h; cases h)
  exact ⟨b1, b3, hz.upd hb bl_381 bl_343 (by decide) b2, hy.upd hb bl_382 bl_343 (by decide) b2, hf.upd hb bl_383 bl_343 (by decide) b2⟩
theorem cl_ref {B : Nat → Nat} {c x : Int32} {y z f : Nat → Int32} {w w' : lW} {rv : Option Value} (hI : mI B c y z f w) (hx : fLr r_X12_refused [.ref (B 343), .int x] w rv w') : rv = some (.int x) ∧ oF B 343 12 1 (.int c) w' ∧ oF B 343 12 0 (.int 0) w' := by
  obtain ⟨tys, hw, -⟩ := hx.2.2.2.2.1
  obtain ⟨fs, hp, hlen⟩ := ln_343 hI.1 hw
  obtain ⟨e, er⟩ := (s_X12_refused _ _ _ _ _ _ hx).2 (B 343, x, fs) rfl hp
  have e : hof w'.1 = hset (hof w.1) (B 343) (.inr (12, fs.set 0 (.int 0))) := e
  refine ⟨er, hI.2.1.keep hI.1 hx bl_343 bt_343 (by decide), ⟨fs.set 0 (.int 0), by rw [e, hset_at], by rw [List.length_set]; omega, ?_⟩⟩
  rw [List.getD_eq_getElem?_getD, List.getElem?_set_self (by omega)]
  rfl
theorem cl_fld {B : Nat → Nat} {c x : Int32} {y z f : Nat → Int32} {w w' : lW} {rv : Option Value} (hI : mI B c y z f w) (hx : fLr r_X12_failed [.ref (B 343), .int x] w rv w') : rv = some (.int (Int32.ofInt (-10) - x)) ∧ oF B 343 12 1 (.int c) w' ∧ oF B 343 12 0 (.int x) w' := by
  obtain ⟨tys, hw, -⟩ := hx.2.2.2.2.1
  obtain ⟨fs, hp, hlen⟩ := ln_343 hI.1 hw
  obtain ⟨e, er⟩ := (s_X12_failed _ _ _ _ _ _ hx).2 (B 343, x, fs) rfl hp
  have e : hof w'.1 = hset (hof w.1) (B 343) (.inr (12, fs.set 0 (.int x))) := e
  refine ⟨er, hI.2.1.keep hI.1 hx bl_343 bt_343 (by decide), ⟨fs.set 0 (.int x), by rw [e, hset_at], by rw [List.length_set]; omega, ?_⟩⟩
  rw [List.getD_eq_getElem?_getD, List.getElem?_set_self (by omega)]
  rfl
abbrev rmA : Type := (Nat → Nat) × Int32 × (Nat → Int32) × (Nat → Int32) × (Nat → Int32) × Int32 × Int32 × Int32 × Int32
def rm_F : rmA → List Value := fun (B, _, _, _, _, k, lane, i, n) => [.ref (B 343), .int k, .int lane, .int i, .int n]
def rm_P : rmA → lW → Prop := fun (B, c, y, z, f, _, _, _, _) w => mI B c y z f w ∧ (0 ≤ c.toInt ∧ c.toInt ≤ 60) ∧ ∀ k, k < 4 → (z k).toInt ≤ 60
def rm_t (f : Nat → Int32) (k i n : Int32) : Int := acA (fun x => f (60 * k.toInt.toNat + i.toInt.toNat + x)) n.toInt.toNat 0 (true, 0)
def rmO (B : Nat → Nat) (c : Int32) (y z f : Nat → Int32) (k lane i n : Int32) (rv : Option Value) (w' : lW) : Prop := ∃ v c' ft : Int32, rv = some (.int v) ∧ oF B 343 12 1 (.int c') w' ∧ oF B 343 12 0 (.int ft) w' ∧ rdQ k lane i n c (decide ((z k.toInt.toNat).toInt < 0)) (decide (¬ (y k.toInt.toNat).toInt = lane.toInt)) (z k.toInt.toNat).toInt (rm_t f k i n) v c' ft
def rm_Q : rmA → lW → Option Value → lW → Prop := fun (B, c, y, z, f, k, lane, i, n) _ rv w' => rmO B c y z f k lane i n rv w'
def in_m0 (B : Nat → Nat) (c : Int32) (y z f : Nat → Int32) (k lane i n : Int32) : fL_ → List Value → lW → Prop := fun lg vs w => f_sub [(0, false, .ref (B 343)), (1, false, .int k), (2, false, .int lane), (3, false, .int i), (4, false, .int n)] lg ∧ vs = [] ∧ mI B c y z f w
def in_m32 (B : Nat → Nat) (c : Int32) (y z f : Nat → Int32) (k lane i n : Int32) : fL_ → List Value → lW → Prop := fun lg vs w => in_m0 B c y z f k lane i n lg vs w ∧ (0 ≤ k.toInt ∧ k.toInt < 4) ∧ (0 ≤ lane.toInt ∧ lane.toInt < 3)
def in_m72 (B : Nat → Nat) (c : Int32) (y z f : Nat → Int32) (k lane i n : Int32) : fL_ → List Value → lW → Prop := fun lg vs w => in_m32 B c y z f k lane i n lg vs w ∧ 0 ≤ (z k.toInt.toNat).toInt ∧ (y k.toInt.toNat).toInt = lane.toInt
def in_m105 (B : Nat → Nat) (c : Int32) (y z f : Nat → Int32) (k lane i n : Int32) : fL_ → List Value → lW → Prop := fun lg vs w => in_m72 B c y z f k lane i n lg vs w ∧ 0 ≤ n.toInt ∧ 0 ≤ i.toInt ∧ i.toInt + n.toInt ≤ (z k.toInt.toNat).toInt
def rm_gd (c : Int32) (y z f : Nat → Int32) (k lane i n : Int32) : Prop := ((0 ≤ k.toInt ∧ k.toInt < 4) ∧ (0 ≤ lane.toInt ∧ lane.toInt < 3)) ∧ (0 ≤ (z k.toInt.toNat).toInt ∧ (y k.toInt.toNat).toInt = lane.toInt) ∧ (0 ≤ n.toInt ∧ 0 ≤ i.toInt ∧ i.toInt + n.toInt ≤ (z k.toInt.toNat).toInt) ∧ c.toInt < 60 ∧ rm_t f k i n < 0
def in_m153 (B : Nat → Nat) (c : Int32) (y z f : Nat → Int32) (k lane i n : Int32) : fL_ → List Value → lW → Prop := fun lg vs w => ∃ t : Int32, f_sub [(6, false, .int t), (0, false, .ref (B 343))] lg ∧ vs = [] ∧ mI B c y z f w ∧ rm_gd c y z f k lane i n
def in_m196 (B : Nat → Nat) (c : Int32) (y z f : Nat → Int32) (k lane i n : Int32) : fL_ → List Value → lW → Prop := fun lg vs w => f_sub [(0, false, .ref (B 343))] lg ∧ vs = [] ∧ mI B (c + 1) y z f w ∧ rm_gd c y z f k lane i n
def rm_hd : rmA → lW → fI lW := fun (B, c, y, z, f, k, lane, i, n) _ => [(32, in_m32 B c y z f k lane i n), (72, in_m72 B c y z f k lane i n), (105, in_m105 B c y z f k lane i n), (153, in_m153 B c y z f k lane i n), (196, in_m196 B c y z f k lane i n)]
def Sp_rm : fP lW := [(604, 1, fLr r_X12_noSheet), (457, 3, fLr r_X12_in), (615, 2, fLr r_X12_refused), (630, 2, fLr r_X12_failed), (640, 3, fLr r_X12_isBeyond), (651, 3, fLr r_X12_parse)]
theorem Sp_rm_ok : f_sp T_X12_read Sp_rm wW := List.forall_mem_cons.mpr ⟨sp_w rfl (fun _ _ _ _ _ _ h => h.2.2.1), List.forall_mem_cons.mpr ⟨sp_w rfl (fun _ _ _ _ _ _ h => h.2.2.1), List.forall_mem_cons.mpr ⟨sp_w rfl (fun _ _ _ _ _ _ h => h.2.2.1), List.forall_mem_cons.mpr ⟨sp_w rfl (fun _ _ _ _ _ _ h => h.2.2.1), List.forall_mem_cons.mpr ⟨sp_w rfl (fun _ _ _ _ _ _ h => h.2.2.1), List.forall_mem_cons.mpr ⟨sp_w rfl (fun _ _ _ _ _ _ h => h.2.2.1), fun _ h => absurd h List.not_mem_nil⟩⟩⟩⟩⟩⟩
section
variable {B : Nat → Nat} {c : Int32} {y z f : Nat → Int32} {k lane i n : Int32} {w0 : lW}
theorem g_mz {w : lW} (hI : mI B c y z f w) (k : Int32) : eI (hof w.1 (rv_ (eG fl_X12 124 (hof w.1 (B 343))))) k.toNatClampNeg = z k.toInt.toNat := by
  rw [(hI.2.1.ref hI.1 bl_343 (show _ = some (2, 0, 381) from rfl)).get (show kfd fl_X12 124 12 = 64 from rfl)]
  obtain ⟨cA, h⟩ := hI.2.2.1
  show eI (hof w.1 (B 381)) _ = _
  rw [h]
  rfl
theorem g_my {w : lW} (hI : mI B c y z f w) (k : Int32) : eI (hof w.1 (rv_ (eG fl_X12 127 (hof w.1 (B 343))))) k.toNatClampNeg = y k.toInt.toNat := by
  rw [(hI.2.1.ref hI.1 bl_343 (show _ = some (2, 0, 382) from rfl)).get (show kfd fl_X12 127 12 = 65 from rfl)]
  obtain ⟨cA, h⟩ := hI.2.2.2.1
  show eI (hof w.1 (B 382)) _ = _
  rw [h]
  rfl
theorem g_mt {w : lW} (hI : mI B c y z f w) : eG fl_X12 7 (hof w.1 (B 343)) = .ref (B 344) := (hI.2.1.ref hI.1 bl_343 (show _ = some (2, 0, 344) from rfl)).get rfl
theorem g_mc {w : lW} (hI : mI B c y z f w) : eG fl_X12 149 (hof w.1 (B 343)) = .int c := hI.2.1.get rfl
theorem rm_cut {w : lW} {rv : Option Value} (v ft : Int32) (a1 : rv = some (.int v)) (a2 : oF B 343 12 1 (.int c) w) (a3 : oF B 343 12 0 (.int ft) w) (a4 : rdQ k lane i n c (decide ((z k.toInt.toNat).toInt < 0)) (decide (¬ (y k.toInt.toNat).toInt = lane.toInt)) (z k.toInt.toNat).toInt (rm_t f k i n) v c ft) : rmO B c y z f k lane i n rv w := ⟨v, c, ft, a1, a2, a3, a4⟩
set_option maxHeartbeats 4000000 in
theorem rm_en {w : lW} (hI : mI B c y z f w) : wl oW T_X12_read Sp_rm (rm_Q (B, c, y, z, f, k, lane, i, n) w0) K_X12_read (rm_hd (B, c, y, z, f, k, lane, i, n) w0) 40 K_X12_read 0 (la 0 (rm_F (B, c, y, z, f, k, lane, i, n))) [] w := by
  have e2 : (Int64.ofInt 2).toInt = 2 := by decide
  have e0 : (Int64.ofNat 0).toInt = 0 := by decide
  intro rv w1 hx
  have hx : fLr r_X12_noSheet [.int k] w rv w1 := hx
  have hI1 := hI.keep hx (by decide) (by decide)
  obtain ⟨-, rfl⟩ := (s_X12_noSheet _ _ _ _ _ _ hx).2 k rfl trivial
  refine ⟨fun hk => ?_, fun hk => ?_⟩
  rotate_left
  · have hk : ¬ (if 0 ≤ k.toInt ∧ k.toInt < 4 then (0 : Int32) else 1).toInt = 0 := hk
    have hk : ¬ (0 ≤ k.toInt ∧ k.toInt < 4) := fun h => hk (by rw [if_pos h]; decide)
    intro rv w3 hx3
    have hx3 : fLr r_X12_refused [.ref (B 343), .int (-1)] w1 rv w3 := hx3
    obtain ⟨rfl, a1, a2⟩ := cl_ref hI1 hx3
    refine rm_cut (-1) 0 rfl a1 a2 ?_
    unfold rdQ
    rw [if_neg hk]
    exact ⟨rfl, rfl, rfl⟩
  have hk : (if 0 ≤ k.toInt ∧ k.toInt < 4 then (0 : Int32) else 1).toInt = 0 := hk
  have hk : 0 ≤ k.toInt ∧ k.toInt < 4 := by
    by_cases h : 0 ≤ k.toInt ∧ k.toInt < 4
    · exact h
    · rw [if_neg h] at hk
      exact absurd hk (by decide)
  intro rv w2 hx2
  have hx2 : fLr r_X12_in [.long lane.toInt64, .long (Int64.ofNat 0), .long (Int64.ofInt 2)] w1 rv w2 := hx2
  have hI2 := hI1.keep hx2 (by decide) (by decide)
  obtain ⟨-, er⟩ := (s_X12_in _ _ _ _ _ _ hx2).2 (lane.toInt64, Int64.ofNat 0, Int64.ofInt 2) rfl trivial
  have er : rv = some (.int (if (Int64.ofNat 0).toInt ≤ lane.toInt64.toInt ∧ lane.toInt64.toInt ≤ (Int64.ofInt 2).toInt then 1 else 0)) := er
  rw [Int32.toInt_toInt64, e0, e2] at er
  subst er
  refine ⟨fun hl => ?_, fun hl => ?_⟩
  rotate_left
  · have hl : ¬ ¬ (if 0 ≤ lane.toInt ∧ lane.toInt ≤ 2 then (1 : Int32) else 0).toInt = 0 := hl
    have hl : ¬ (0 ≤ lane.toInt ∧ lane.toInt ≤ 2) := fun h => hl (by rw [if_pos h]; decide)
    intro rv w3 hx3
    have hx3 : fLr r_X12_refused [.ref (B 343), .int (-2)] w2 rv w3 := hx3
    obtain ⟨rfl, a1, a2⟩ := cl_ref hI2 hx3
    refine rm_cut (-2) 0 rfl a1 a2 ?_
    unfold rdQ
    rw [if_pos hk, if_neg (by omega)]
    exact ⟨rfl, rfl, rfl⟩
  have hl : ¬ (if 0 ≤ lane.toInt ∧ lane.toInt ≤ 2 then (1 : Int32) else 0).toInt = 0 := hl
  have hl : 0 ≤ lane.toInt ∧ lane.toInt ≤ 2 := by
    by_cases h : 0 ≤ lane.toInt ∧ lane.toInt ≤ 2
    · exact h
    · rw [if_neg h] at hl
      exact absurd rfl hl
  exact ⟨⟨⟨rfl, rfl, rfl, rfl, rfl, trivial⟩, rfl, hI2⟩, hk, ⟨hl.1, by omega⟩⟩
set_option maxHeartbeats 4000000 in
theorem rm_h32 : ∀ (lg : fL_) (vs : List Value) (w : lW), in_m32 B c y z f k lane i n lg vs w → ∃ (L : fL_) (fu : Nat), f_sub L lg ∧ wh oW T_X12_read Sp_rm (rm_Q (B, c, y, z, f, k, lane, i, n) w0) K_X12_read (rm_hd (B, c, y, z, f, k, lane, i, n) w0) fu 32 L vs w := by
  rintro lg vs w ⟨⟨hs, rfl, hI⟩, hk, hl⟩
  have nul : (z k.toInt.toNat).toInt < 0 → ∀ (rv : Option Value) (w3 : lW), fLr r_X12_failed [.ref (B 343), .int 1] w rv w3 → ∃ x : Int32, rv = some (.int x) ∧ rmO B c y z f k lane i n (some (.int x)) w3 := by
    intro ha rv w3 hx3
    obtain ⟨rfl, a1, a2⟩ := cl_fld hI hx3
    refine ⟨_, rfl, rm_cut (-11) 1 f10_1 a1 a2 ?_⟩
    unfold rdQ
    rw [if_pos hk, if_pos hl, decide_eq_true ha]
    exact ⟨rfl, rfl, rfl⟩
  refine ⟨_, 60, hs, fun ha => ⟨fun hb => ?_, fun hb => ?_⟩, fun ha => ⟨fun hb => ⟨fun hd => ?_, fun hd => ?_⟩, fun hb => ?_⟩⟩
  · have ha : (eI (hof w.1 (rv_ (eG fl_X12 124 (hof w.1 (B 343))))) k.toNatClampNeg).toInt < 0 := ha
    have hb : 0 ≤ (eI (hof w.1 (rv_ (eG fl_X12 124 (hof w.1 (B 343))))) k.toNatClampNeg).toInt := hb
    omega
  · have ha : (eI (hof w.1 (rv_ (eG fl_X12 124 (hof w.1 (B 343))))) k.toNatClampNeg).toInt < 0 := ha
    rw [g_mz hI] at ha
    intro rv w3 hx3
    obtain ⟨x, rfl, h⟩ := nul ha rv w3 hx3
    exact h
  · have hb : (eI (hof w.1 (rv_ (eG fl_X12 127 (hof w.1 (B 343))))) k.toNatClampNeg).toInt = lane.toInt := hb
    rw [g_my hI] at hb
    have hd : 0 ≤ (eI (hof w.1 (rv_ (eG fl_X12 124 (hof w.1 (B 343))))) k.toNatClampNeg).toInt := hd
    rw [g_mz hI] at hd
    exact ⟨⟨⟨⟨rfl, rfl, rfl, rfl, rfl, trivial⟩, rfl, hI⟩, hk, hl⟩, hd, hb⟩
  · have ha : ¬ (eI (hof w.1 (rv_ (eG fl_X12 124 (hof w.1 (B 343))))) k.toNatClampNeg).toInt < 0 := ha
    have hd : ¬ 0 ≤ (eI (hof w.1 (rv_ (eG fl_X12 124 (hof w.1 (B 343))))) k.toNatClampNeg).toInt := hd
    omega
  · have ha : ¬ (eI (hof w.1 (rv_ (eG fl_X12 124 (hof w.1 (B 343))))) k.toNatClampNeg).toInt < 0 := ha
    rw [g_mz hI] at ha
    have hb : ¬ (eI (hof w.1 (rv_ (eG fl_X12 127 (hof w.1 (B 343))))) k.toNatClampNeg).toInt = lane.toInt := hb
    rw [g_my hI] at hb
    intro rv w3 hx3
    have hx3 : fLr r_X12_failed [.ref (B 343), .int 2] w rv w3 := hx3
    obtain ⟨rfl, a1, a2⟩ := cl_fld hI hx3
    refine rm_cut (-12) 2 f10_2 a1 a2 ?_
    unfold rdQ
    rw [if_pos hk, if_pos hl, decide_eq_false ha, decide_eq_true hb]
    exact ⟨rfl, rfl, rfl⟩
set_option maxHeartbeats 4000000 in
theorem rm_h72 : ∀ (lg : fL_) (vs : List Value) (w : lW), in_m72 B c y z f k lane i n lg vs w → ∃ (L : fL_) (fu : Nat), f_sub L lg ∧ wh oW T_X12_read Sp_rm (rm_Q (B, c, y, z, f, k, lane, i, n) w0) K_X12_read (rm_hd (B, c, y, z, f, k, lane, i, n) w0) fu 72 L vs w := by
  rintro lg vs w ⟨⟨⟨hs, rfl, hI⟩, hk, hl⟩, ha, hb⟩
  have ha' : ¬ (z k.toInt.toNat).toInt < 0 := by omega
  refine ⟨_, 60, hs, fun hn => ?_, fun hn => ?_⟩
  rotate_left
  · have hn : ¬ 0 ≤ n.toInt := hn
    intro rv w3 hx3
    have hx3 : fLr r_X12_failed [.ref (B 343), .int 4] w rv w3 := hx3
    obtain ⟨rfl, a1, a2⟩ := cl_fld hI hx3
    refine rm_cut (-14) 4 f10_4 a1 a2 ?_
    unfold rdQ
    rw [if_pos hk, if_pos hl, decide_eq_false ha', decide_eq_false (not_not_intro hb)]
    dsimp only
    rw [if_pos (by omega)]
    exact ⟨rfl, rfl, rfl⟩
  have hn : 0 ≤ n.toInt := hn
  intro rv w1 hx
  have hx : fLr r_X12_isBeyond [.int i, .long n.toInt64, .int (eI (hof w.1 (rv_ (eG fl_X12 124 (hof w.1 (B 343))))) k.toNatClampNeg)] w rv w1 := hx
  rw [g_mz hI] at hx
  have hI1 := hI.keep hx (by decide) (by decide)
  obtain ⟨-, rfl⟩ := (s_X12_isBeyond _ _ _ _ _ _ hx).2 (i, n, z k.toInt.toNat) rfl trivial
  refine ⟨fun hs => ?_, fun hs => ?_⟩
  · have hs : (if (0 ≤ i.toInt ∧ 0 ≤ n.toInt) ∧ i.toInt + n.toInt ≤ (z k.toInt.toNat).toInt then (0 : Int32) else 1).toInt = 0 := hs
    have hs : (0 ≤ i.toInt ∧ 0 ≤ n.toInt) ∧ i.toInt + n.toInt ≤ (z k.toInt.toNat).toInt := by
      by_cases hx : (0 ≤ i.toInt ∧ 0 ≤ n.toInt) ∧ i.toInt + n.toInt ≤ (z k.toInt.toNat).toInt
      · exact hx
      · rw [if_neg hx] at hs
        exact absurd hs (by decide)
    exact ⟨⟨⟨⟨⟨rfl, rfl, rfl, rfl, rfl, trivial⟩, rfl, hI1⟩, hk, hl⟩, ha, hb⟩, hn, hs.1.1, hs.2⟩
  · have hs : ¬ (if (0 ≤ i.toInt ∧ 0 ≤ n.toInt) ∧ i.toInt + n.toInt ≤ (z k.toInt.toNat).toInt then (0 : Int32) else 1).toInt = 0 := hs
    have hs : ¬ ((0 ≤ i.toInt ∧ 0 ≤ n.toInt) ∧ i.toInt + n.toInt ≤ (z k.toInt.toNat).toInt) := by
      intro hx
      rw [if_pos hx] at hs
      exact hs (by decide)
    intro rv w3 hx3
    have hx3 : fLr r_X12_failed [.ref (B 343), .int 3] w1 rv w3 := hx3
    obtain ⟨rfl, a1, a2⟩ := cl_fld hI1 hx3
    refine rm_cut (-13) 3 f10_3 a1 a2 ?_
    unfold rdQ
    rw [if_pos hk, if_pos hl, decide_eq_false ha', decide_eq_false (not_not_intro hb)]
    dsimp only
    rw [if_neg (by omega), if_neg (fun h => hs ⟨⟨h.1, hn⟩, h.2⟩)]
    exact ⟨rfl, rfl, rfl⟩
set_option maxHeartbeats 4000000 in
theorem rm_h105 (hc60 : 0 ≤ c.toInt ∧ c.toInt ≤ 60) (hz : ∀ k, k < 4 → (z k).toInt ≤ 60) : ∀ (lg : fL_) (vs : List Value) (w : lW), in_m105 B c y z f k lane i n lg vs w → ∃ (L : fL_) (fu : Nat), f_sub L lg ∧ wh oW T_X12_read Sp_rm (rm_Q (B, c, y, z, f, k, lane, i, n) w0) K_X12_read (rm_hd (B, c, y, z, f, k, lane, i, n) w0) fu 105 L vs w := by
  rintro lg vs w ⟨⟨⟨⟨hs, rfl, hI⟩, hk, hl⟩, ha, hb⟩, hn, hi, hj⟩
  have ha' : ¬ (z k.toInt.toNat).toInt < 0 := by omega
  have z60 := hz k.toInt.toNat (by omega)
  have e60 : (Int32.ofInt 60).toInt = 60 := by decide
  have out : ∀ {w : lW} {rv : Option Value} (v : Int32), rv = some (.int v) → oF B 343 12 1 (.int c) w → oF B 343 12 0 (.int 0) w → (if c.toInt = 60 then v = -4 ∧ c = c ∧ (0 : Int32) = 0 else if 0 ≤ rm_t f k i n then v.toInt = -100 - rm_t f k i n ∧ c = c ∧ (0 : Int32) = 0 else v = c ∧ c = c + 1 ∧ (0 : Int32) = 0) → rmO B c y z f k lane i n rv w := by
    intro w rv v a1 a2 a3 a4
    refine rm_cut v 0 a1 a2 a3 ?_
    unfold rdQ
    rw [if_pos hk, if_pos hl, decide_eq_false ha', decide_eq_false (not_not_intro hb)]
    dsimp only
    rw [if_neg (by omega), if_pos ⟨hi, hj⟩]
    exact a4
  refine ⟨_, 60, hs, fun hf => ?_, fun hf => ?_⟩
  rotate_left
  · have hf : ¬ ¬ (iv (eG fl_X12 149 (hof w.1 (B 343)))).toInt = (Int32.ofInt 60).toInt := hf
    rw [g_mc hI, e60] at hf
    have hf : ¬ ¬ c.toInt = 60 := hf
    intro rv w3 hx3
    have hx3 : fLr r_X12_refused [.ref (B 343), .int (-4)] w rv w3 := hx3
    obtain ⟨rfl, a1, a2⟩ := cl_ref hI hx3
    refine out (-4) rfl a1 a2 ?_
    rw [if_pos (by omega)]
    exact ⟨rfl, rfl, rfl⟩
  have hf : ¬ (iv (eG fl_X12 149 (hof w.1 (B 343)))).toInt = (Int32.ofInt 60).toInt := hf
  rw [g_mc hI, e60] at hf
  have hf : ¬ c.toInt = 60 := hf
  intro rv w1 hx
  have hx : fLr r_X12_parse [.ref (B 343), .int (60 * k + i), .int n] w rv w1 := hx
  have hI1 := hI.keep hx (by decide) (by decide)
  have e6 : (60 : Int32).toInt = 60 := by decide
  have m1 : (60 * k).toInt = 60 * k.toInt := by
    rw [i_mul (by rw [e6]; omega) (by rw [e6]; omega), e6]
  have m2 : (60 * k + i).toInt = 60 * k.toInt + i.toInt := by
    rw [i_add (by rw [m1]; omega) (by rw [m1]; omega), m1]
  obtain ⟨cC, hC⟩ := hI.2.2.2.2
  obtain ⟨fs, hp, -⟩ := hI.2.1
  obtain ⟨-, x, rfl, ex⟩ := s_X12_parse (B, 60 * k + i, n, cC, f) w w1 rv hx ⟨⟨hI.1.1, hI.1.2, ⟨fs, hp⟩, hC⟩, (show 0 ≤ (60 * k + i).toInt by omega), hn, (show (60 * k + i).toInt + n.toInt ≤ 240 by omega)⟩
  have ex : x.toInt = rm_t f k i n := by
    rw [ex]
    refine acA_eq (fun u _ _ => ?_)
    show f ((60 * k + i).toInt.toNat + u) = f (60 * k.toInt.toNat + i.toInt.toNat + u)
    congr 1
    omega
  have xle : rm_t f k i n ≤ ((0 : Nat) : Int) + (n.toInt.toNat : Nat) := acA_le
  refine ⟨fun hw => ?_, fun hw => ?_⟩
  · have hw : x.toInt < 0 := hw
    exact ⟨0, ⟨rfl, rfl, trivial⟩, rfl, hI1, ⟨hk, hl⟩, ⟨ha, hb⟩, ⟨hn, hi, hj⟩, (show c.toInt < 60 by omega), (show rm_t f k i n < 0 by omega)⟩
  · have hw : ¬ x.toInt < 0 := hw
    have e100 : (Int32.ofInt (-100)).toInt = -100 := by decide
    intro rv w3 hx3
    have hx3 : fLr r_X12_refused [.ref (B 343), .int (Int32.ofInt (-100) - x)] w1 rv w3 := hx3
    obtain ⟨rfl, a1, a2⟩ := cl_ref hI1 hx3
    refine out (Int32.ofInt (-100) - x) rfl a1 a2 ?_
    rw [if_neg hf, if_pos (by omega)]
    refine ⟨?_, rfl, rfl⟩
    rw [i_sub (by rw [e100]; omega) (by rw [e100]; omega), e100, ex]
set_option maxHeartbeats 4000000 in
theorem rm_h153 : ∀ (lg : fL_) (vs : List Value) (w : lW), in_m153 B c y z f k lane i n lg vs w → ∃ (L : fL_) (fu : Nat), f_sub L lg ∧ wh oW T_X12_read Sp_rm (rm_Q (B, c, y, z, f, k, lane, i, n) w0) K_X12_read (rm_hd (B, c, y, z, f, k, lane, i, n) w0) fu 153 L vs w := by
  rintro lg vs w ⟨t, hs, rfl, hI, hg⟩
  refine ⟨_, 60, hs, fun hc => ?_, fun hc => ?_⟩
  · intro q e0 hq
    have hq : w.1[q]? = some (B 343, e0) := hq
    refine ⟨⟨rfl, trivial⟩, rfl, mI.cnt (c' := c + 1) hI ?_ hq, hg⟩
    show Value.int (iv (eG fl_X12 149 (hof w.1 (B 343))) + 1) = .int (c + 1)
    rw [g_mc hI]
    rfl
  · intro q e0 hq
    exact ⟨t + 1, ⟨rfl, rfl, trivial⟩, rfl, mI.lng hI (g_mt hI) hq, hg⟩
set_option maxHeartbeats 4000000 in
theorem rm_h196 : ∀ (lg : fL_) (vs : List Value) (w : lW), in_m196 B c y z f k lane i n lg vs w → ∃ (L : fL_) (fu : Nat), f_sub L lg ∧ wh oW T_X12_read Sp_rm (rm_Q (B, c, y, z, f, k, lane, i, n) w0) K_X12_read (rm_hd (B, c, y, z, f, k, lane, i, n) w0) fu 196 L vs w := by
  rintro lg vs w ⟨hs, rfl, hI, ⟨⟨hk, hl⟩, ⟨ha, hb⟩, ⟨hn, hi, hj⟩, hc, ht⟩⟩
  have ha' : ¬ (z k.toInt.toNat).toInt < 0 := by omega
  have ev : (c + 1 - 1 : Int32) = c := by
    rw [Int32.add_sub_cancel]
  refine ⟨_, 60, hs, ?_⟩
  intro rv w3 hx3
  have hx3 : fLr r_X12_refused [.ref (B 343), .int (iv (eG fl_X12 149 (hof w.1 (B 343))) - 1)] w rv w3 := hx3
  rw [g_mc hI] at hx3
  have hx3 : fLr r_X12_refused [.ref (B 343), .int (c + 1 - 1)] w rv w3 := hx3
  rw [ev] at hx3
  obtain ⟨rfl, a1, a2⟩ := cl_ref hI hx3
  refine ⟨c, c + 1, 0, rfl, a1, a2, ?_⟩
  unfold rdQ
  rw [if_pos hk, if_pos hl, decide_eq_false ha', decide_eq_false (not_not_intro hb)]
  dsimp only
  rw [if_neg (by omega), if_pos ⟨hi, hj⟩, if_neg (by omega), if_neg (by omega)]
  exact ⟨rfl, rfl, rfl⟩
end
theorem s_X12_read : ∀ (a : rmA) (w w' : lW) (rv : Option Value), fLr r_X12_read (rm_F a) w rv w' → rm_P a w → rm_Q a w rv w' := by
  refine do_ofW rm_F rm_P rm_Q Sp_rm rm_hd 40 fo_X12 Sp_rm_ok k_X12_read (fun a w0 hp => ?_) (fun a w0 hp hd0 => ?_)
  · obtain ⟨B, c, y, z, f, k, lane, i, n⟩ := a
    obtain ⟨-, hc60, hz⟩ := hp
    exact List.forall_mem_cons.mpr ⟨rm_h32, List.forall_mem_cons.mpr ⟨rm_h72, List.forall_mem_cons.mpr ⟨rm_h105 hc60 hz, List.forall_mem_cons.mpr ⟨rm_h153, List.forall_mem_cons.mpr ⟨rm_h196, fun _ h => absurd h List.not_mem_nil⟩⟩⟩⟩⟩
  · obtain ⟨B, c, y, z, f, k, lane, i, n⟩ := a
    exact rm_en hp.1
