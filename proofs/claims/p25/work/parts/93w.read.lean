/-! read: the class's -/
theorem i_sub {a b : Int32} (h1 : -2147483648 ≤ a.toInt - b.toInt) (h2 : a.toInt - b.toInt ≤ 2147483647) : (a - b).toInt = a.toInt - b.toInt := by
  rw [Int32.toInt_sub]
  exact Int.bmod_eq_of_le (by omega) (by omega)
theorem acA_le {g : Nat → Int32} : ∀ {m i : Nat} {s : Bool × Nat}, acA g m i s ≤ (i : Int) + m
  | 0, i, s => by
    unfold acA
    split <;> omega
  | m + 1, i, s => by
    unfold acA
    split
    · refine Int.le_trans acA_le ?_
      omega
    · omega
/-- the answer of read, what becomes of the count and the fault -/
def rdQ (k lane i n c : Int32) (lost dif : Bool) (Z t : Int) (v c' ft : Int32) : Prop :=
  if 0 ≤ k.toInt ∧ k.toInt < 4 then
    if 0 ≤ lane.toInt ∧ lane.toInt < 3 then
      match lost, dif with
      | true, _ => v = -11 ∧ c' = c ∧ ft = 1
      | false, true => v = -12 ∧ c' = c ∧ ft = 2
      | false, false =>
        if n.toInt < 0 then v = -14 ∧ c' = c ∧ ft = 4
        else if 0 ≤ i.toInt ∧ i.toInt + n.toInt ≤ Z then
          if c.toInt = 60 then v = -4 ∧ c' = c ∧ ft = 0
          else if 0 ≤ t then v.toInt = -100 - t ∧ c' = c ∧ ft = 0
          else v = c ∧ c' = c + 1 ∧ ft = 0
        else v = -13 ∧ c' = c ∧ ft = 3
    else v = -2 ∧ c' = c ∧ ft = 0
  else v = -1 ∧ c' = c ∧ ft = 0
/-- the rows of the class's sheets -/
def rI (B : Nat → Nat) (w : lW) : Prop := ∃ (cA : ClassId) (g : Nat → Option Nat), hof w.1 (B 335) = some (.inl (cA, 4, .inr (.inr (.inr (.inr g))))) ∧ ∀ i, i < 4 → g i = some (B (336 + i))
theorem rI.of {B : Nat → Nat} {w : lW} (hI : bI B w) {tys : List (ClassId × FieldType)} (hw : ck_wo tys cw_TT cw_SG w.1 w.2) : rI B w := by
  obtain ⟨cC, g, h3, h4⟩ := hI.2.rv hI.1 hw bl_335 bt_335 (show cw_TT[21]? = some (5, 4, _, _) from rfl)
  refine ⟨cC, g, h3, fun i hi => ?_⟩
  rcases (show i = 0 ∨ i = 1 ∨ i = 2 ∨ i = 3 by omega) with rfl | rfl | rfl | rfl
  · exact h4 0 336 rfl
  · exact h4 1 337 rfl
  · exact h4 2 338 rfl
  · exact h4 3 339 rfl
theorem rI.upd {B : Nat → Nat} {w : lW} (hs : rI B w) (hI : bI B w) {p : Nat} {d : mk_C} {ws' : va_W} {sh' : List Nat} {e : va_E} (hd : lp_L2[p]? = some d) (hn : 335 ≠ p) (hh : hof ws' = hset (hof w.1) (B p) e) : rI B (ws', sh') := by
  obtain ⟨cA, g, h1, h2⟩ := hs
  refine ⟨cA, g, ?_, h2⟩
  show hof ws' (B 335) = _
  rw [hh, hset_ne (hI.2.ne hI.1 bl_335 hd hn)]
  exact h1
def dI (B : Nat → Nat) (c : Int32) (l z : Nat → Int32) (r : Nat → Nat → Int32) (w : lW) : Prop := bI B w ∧ sN B w ∧ rI B w ∧ oF B 0 11 1 (.int c) w ∧ aI B 340 4 l w ∧ aI B 341 4 z w ∧ ∀ i, i < 4 → aI B (336 + i) 60 (r i) w
theorem dI.keep {B : Nat → Nat} {c : Int32} {l z : Nat → Int32} {r : Nat → Nat → Int32} {rt : Nat} {Wr : List (Nat × Nat)} {T : fT} {cc : ByteArray} {As : List Value} {w w' : lW} {rv : Option Value} (hI : dI B c l z r w) (h : fLr (fq cw_TT cw_SG rt Wr T cc) As w rv w') (hk : bs_K.all (fun x => !(Wr.contains x)) = true) (hw : (11, 1) ∉ Wr ∧ (20, 0) ∉ Wr ∧ (22, 0) ∉ Wr ∧ (23, 0) ∉ Wr) : dI B c l z r w' := by
  obtain ⟨tys, -, hw2⟩ := h.2.2.2.2.1
  obtain ⟨hb, -, -, hc, hl, hz, hr⟩ := hI
  have hb' := hb.keep h hk
  exact ⟨hb', sN.of hb' hw2, rI.of hb' hw2, hc.keep hb h bl_0 bt_0 hw.1, hl.keep hb h bl_340 bt_340 (by decide) hw.2.2.1, hz.keep hb h bl_341 bt_341 (by decide) hw.2.2.2, fun i hi => (hr i hi).keep hb h (bl_R hi) (bt_R hi) (by decide) hw.2.1⟩
theorem ln_0 {B : Nat → Nat} {w : lW} (hI : bI B w) {tys : List (ClassId × FieldType)} (hw : ck_wo tys cw_TT cw_SG w.1 w.2) : ∃ fs, hof w.1 (B 0) = some (.inr (11, fs)) ∧ fs.length = 15 := by
  obtain ⟨fs', h0, hlen, -⟩ := hI.2.ov hI.1 hw bl_0 bt_0 (show cw_TT[11]? = some (0, 11, _, _) from rfl)
  exact ⟨fs', h0, hlen⟩
theorem ln_343 {B : Nat → Nat} {w : lW} (hI : bI B w) {tys : List (ClassId × FieldType)} (hw : ck_wo tys cw_TT cw_SG w.1 w.2) : ∃ fs, hof w.1 (B 343) = some (.inr (12, fs)) ∧ fs.length = 68 := by
  obtain ⟨fs', h0, hlen, -⟩ := hI.2.ov hI.1 hw bl_343 bt_343 (show cw_TT[17]? = some (0, 12, _, _) from rfl)
  exact ⟨fs', h0, hlen⟩
/-- a number written into the desk that is not the count -/
theorem dI.put {B : Nat → Nat} {c : Int32} {l z : Nat → Int32} {r : Nat → Nat → Int32} {w : lW} (hI : dI B c l z r w) {u : Value} (hu : oF B 0 11 14 u w) {q : Nat} {e0 : va_E} (hq : w.1[q]? = some (B 0, e0)) {x : Int32} : dI B c l z r (w.1.set q (B 0, sG pl_X11 93 (.int x) (hof w.1 (B 0))), w.2) ∧ oF B 0 11 14 (.int x) (w.1.set q (B 0, sG pl_X11 93 (.int x) (hof w.1 (B 0))), w.2) := by
  obtain ⟨hb, hs, hrr, hc, hl, hz, hr⟩ := hI
  obtain ⟨b1, b2, b3, b4⟩ := oF.put (v' := .int x) (i := 93) (pl := pl_X11) hb hu bl_0 hq rfl (fun r h => by have h : some ((1, 0, 0) : mk_V) = some (2, 0, r) := h; cases h)
  exact ⟨⟨b1, hs.upd hb bl_0 (by decide) b2, hrr.upd hb bl_0 (by decide) b2, b4 1 _ (by decide) hc, hl.upd hb bl_340 bl_0 (by decide) b2, hz.upd hb bl_341 bl_0 (by decide) b2, fun i hi => (hr i hi).upd hb (bl_R hi) bl_0 (by omega) b2⟩, b3⟩
theorem cl_flt {B : Nat → Nat} {c x : Int32} {w w' : lW} {rv : Option Value} (hb : bI B w) (hc : oF B 0 11 1 (.int c) w) (hx : fLr r_X11_faulted [.ref (B 0), .int x] w rv w') : rv = some (.int (Int32.ofInt (-10) - x)) ∧ oF B 0 11 1 (.int c) w' ∧ oF B 0 11 14 (.int x) w' := by
  obtain ⟨tys, hw, -⟩ := hx.2.2.2.2.1
  obtain ⟨fs, hp, hlen⟩ := ln_0 hb hw
  obtain ⟨e, er⟩ := (s_X11_faulted _ _ _ _ _ _ hx).2 (B 0, x, fs) rfl hp
  have e : hof w'.1 = hset (hof w.1) (B 0) (.inr (11, fs.set 14 (.int x))) := e
  refine ⟨er, hc.keep hb hx bl_0 bt_0 (by decide), ⟨fs.set 14 (.int x), by rw [e, hset_at], by rw [List.length_set]; omega, ?_⟩⟩
  rw [List.getD_eq_getElem?_getD, List.getElem?_set_self (by omega)]
  rfl
theorem cl_new {B : Nat → Nat} {c : Int32} {w w' : lW} {rv : Option Value} (hb : bI B w) (hc : oF B 0 11 1 (.int c) w) (hx : fLr r_X11_newSentence [.ref (B 0)] w rv w') : rv = some (.int c) ∧ oF B 0 11 1 (.int (c + 1)) w' := by
  obtain ⟨fs, hp, hlen, hv⟩ := hc
  obtain ⟨e, er⟩ := (s_X11_newSentence _ _ _ _ _ _ hx).2 (B 0, fs, c) rfl ⟨hp, hv⟩
  have e : hof w'.1 = hset (hof w.1) (B 0) (.inr (11, fs.set 1 (.int (c + 1)))) := e
  refine ⟨er, ⟨fs.set 1 (.int (c + 1)), by rw [e, hset_at], by rw [List.length_set]; omega, ?_⟩⟩
  rw [List.getD_eq_getElem?_getD, List.getElem?_set_self hlen]
  rfl
abbrev rdA : Type := (Nat → Nat) × Int32 × (Nat → Int32) × (Nat → Int32) × (Nat → Nat → Int32) × Int32 × Int32 × Int32 × Int32
def rd_F : rdA → List Value := fun (B, _, _, _, _, k, lane, i, n) => [.ref (B 0), .int k, .int lane, .int i, .int n]
def rd_P : rdA → lW → Prop := fun (B, c, l, z, r, _, _, _, _) w => dI B c l z r w ∧ (∃ u, oF B 0 11 14 u w) ∧ (0 ≤ c.toInt ∧ c.toInt ≤ 60) ∧ ∀ k, k < 4 → (l k).toInt = -1 ∨ (0 ≤ (z k).toInt ∧ (z k).toInt ≤ 60)
def rd_t (r : Nat → Nat → Int32) (k i n : Int32) : Int := acA (fun x => r k.toInt.toNat (i.toInt.toNat + x)) n.toInt.toNat 0 (true, 0)
def rdO (B : Nat → Nat) (c : Int32) (l z : Nat → Int32) (r : Nat → Nat → Int32) (k lane i n : Int32) (rv : Option Value) (w' : lW) : Prop := ∃ v c' ft : Int32, rv = some (.int v) ∧ oF B 0 11 1 (.int c') w' ∧ oF B 0 11 14 (.int ft) w' ∧ rdQ k lane i n c (decide ((l k.toInt.toNat).toInt = -1)) (decide (¬ (l k.toInt.toNat).toInt = lane.toInt)) (z k.toInt.toNat).toInt (rd_t r k i n) v c' ft
def rd_Q : rdA → lW → Option Value → lW → Prop := fun (B, c, l, z, r, k, lane, i, n) _ rv w' => rdO B c l z r k lane i n rv w'
def in_r5 (B : Nat → Nat) (c : Int32) (l z : Nat → Int32) (r : Nat → Nat → Int32) (k lane i n : Int32) : fL_ → List Value → lW → Prop := fun lg vs w => f_sub [(0, false, .ref (B 0)), (1, false, .int k), (2, false, .int lane), (3, false, .int i), (4, false, .int n)] lg ∧ vs = [] ∧ dI B c l z r w ∧ oF B 0 11 14 (.int 0) w
def in_r66 (B : Nat → Nat) (c : Int32) (l z : Nat → Int32) (r : Nat → Nat → Int32) (k lane i n : Int32) : fL_ → List Value → lW → Prop := fun lg vs w => in_r5 B c l z r k lane i n lg vs w ∧ (0 ≤ k.toInt ∧ k.toInt < 4) ∧ (0 ≤ lane.toInt ∧ lane.toInt < 3) ∧ ¬ (l k.toInt.toNat).toInt = -1 ∧ (l k.toInt.toNat).toInt = lane.toInt
def in_r100 (B : Nat → Nat) (c : Int32) (l z : Nat → Int32) (r : Nat → Nat → Int32) (k lane i n : Int32) : fL_ → List Value → lW → Prop := fun lg vs w => in_r66 B c l z r k lane i n lg vs w ∧ 0 ≤ n.toInt ∧ 0 ≤ i.toInt ∧ i.toInt + n.toInt ≤ (z k.toInt.toNat).toInt
def rd_hd : rdA → lW → fI lW := fun (B, c, l, z, r, k, lane, i, n) _ => [(5, in_r5 B c l z r k lane i n), (66, in_r66 B c l z r k lane i n), (100, in_r100 B c l z r k lane i n)]
def Sp_rd : fP lW := [(292, 1, fLr r_X11_isSheet), (304, 1, fLr r_X11_isLane), (312, 2, fLr r_X11_faulted), (333, 4, fLr r_X7_firstFault), (345, 4, fLr r_X7_valueOf), (357, 2, fLr r_X1_become), (369, 1, fLr r_X11_newSentence)]
theorem Sp_rd_ok : f_sp T_X11_read Sp_rd wW := List.forall_mem_cons.mpr ⟨sp_w rfl (fun _ _ _ _ _ _ h => h.2.2.1), List.forall_mem_cons.mpr ⟨sp_w rfl (fun _ _ _ _ _ _ h => h.2.2.1), List.forall_mem_cons.mpr ⟨sp_w rfl (fun _ _ _ _ _ _ h => h.2.2.1), List.forall_mem_cons.mpr ⟨sp_w rfl (fun _ _ _ _ _ _ h => h.2.2.1), List.forall_mem_cons.mpr ⟨sp_w rfl (fun _ _ _ _ _ _ h => h.2.2.1), List.forall_mem_cons.mpr ⟨sp_w rfl (fun _ _ _ _ _ _ h => h.2.2.1), List.forall_mem_cons.mpr ⟨sp_w rfl (fun _ _ _ _ _ _ h => h.2.2.1), fun _ h => absurd h List.not_mem_nil⟩⟩⟩⟩⟩⟩⟩
section
variable {B : Nat → Nat} {c : Int32} {l z : Nat → Int32} {r : Nat → Nat → Int32} {k lane i n : Int32} {w0 : lW}
/-- which sheets are there -/
theorem g_lan {w : lW} (hI : dI B c l z r w) (k : Int32) : eI (hof w.1 (rv_ (eG fl_X11 77 (hof w.1 (B 0))))) k.toNatClampNeg = l k.toInt.toNat := by
  rw [(hI.2.2.2.1.ref hI.1 bl_0 (show _ = some (2, 0, 340) from rfl)).get (show kfd fl_X11 77 11 = 11 from rfl)]
  obtain ⟨cA, h⟩ := hI.2.2.2.2.1
  show eI (hof w.1 (B 340)) _ = _
  rw [h]
  rfl
theorem g_siz {w : lW} (hI : dI B c l z r w) (k : Int32) : eI (hof w.1 (rv_ (eG fl_X11 87 (hof w.1 (B 0))))) k.toNatClampNeg = z k.toInt.toNat := by
  rw [(hI.2.2.2.1.ref hI.1 bl_0 (show _ = some (2, 0, 341) from rfl)).get (show kfd fl_X11 87 11 = 12 from rfl)]
  obtain ⟨cA, h⟩ := hI.2.2.2.2.2.1
  show eI (hof w.1 (B 341)) _ = _
  rw [h]
  rfl
theorem g_row {w : lW} (hI : dI B c l z r w) {k : Int32} (hk : 0 ≤ k.toInt ∧ k.toInt < 4) : eR (hof w.1 (rv_ (eG fl_X11 74 (hof w.1 (B 0))))) k.toNatClampNeg = .ref (B (336 + k.toInt.toNat)) := by
  rw [(hI.2.2.2.1.ref hI.1 bl_0 (show _ = some (2, 0, 335) from rfl)).get (show kfd fl_X11 74 11 = 10 from rfl)]
  obtain ⟨cA, g, h, hg⟩ := hI.2.2.1
  show eR (hof w.1 (B 335)) _ = _
  rw [h]
  show va_rf (g k.toInt.toNat) = _
  rw [hg _ (by omega)]
  rfl
theorem g_cnt {w : lW} (hc : oF B 0 11 1 (.int c) w) : eG fl_X11 108 (hof w.1 (B 0)) = .int c := hc.get rfl
theorem g_len {w : lW} (hb : bI B w) (hc : oF B 0 11 1 (.int c) w) (hs : sN B w) : eL (hof w.1 (rv_ (eG fl_X11 15 (hof w.1 (B 0))))) = 60 := by
  rw [(hc.ref hb bl_0 (show _ = some (2, 0, 1) from rfl)).get (show kfd fl_X11 15 11 = 0 from rfl)]
  obtain ⟨cA, g, h, -⟩ := hs
  show eL (hof w.1 (B 1)) = _
  rw [h]
  rfl
set_option maxHeartbeats 4000000 in
theorem rd_h5 : ∀ (lg : fL_) (vs : List Value) (w : lW), in_r5 B c l z r k lane i n lg vs w → ∃ (L : fL_) (f : Nat), f_sub L lg ∧ wh oW T_X11_read Sp_rd (rd_Q (B, c, l, z, r, k, lane, i, n) w0) K_X11_read (rd_hd (B, c, l, z, r, k, lane, i, n) w0) f 5 L vs w := by
  rintro lg vs w ⟨hs, rfl, hI, hF⟩
  refine ⟨_, 60, hs, ?_⟩
  intro rv w1 hx
  have hx : fLr r_X11_isSheet [.int k] w rv w1 := hx
  have hI1 := hI.keep hx (by decide) (by decide)
  have hF1 := hF.keep hI.1 hx bl_0 bt_0 (by decide)
  obtain ⟨-, rfl⟩ := (s_X11_isSheet _ _ _ _ _ _ hx).2 k rfl trivial
  have out : ∀ {w : lW} {rv : Option Value} (v ft : Int32), rv = some (.int v) → oF B 0 11 1 (.int c) w → oF B 0 11 14 (.int ft) w → rdQ k lane i n c (decide ((l k.toInt.toNat).toInt = -1)) (decide (¬ (l k.toInt.toNat).toInt = lane.toInt)) (z k.toInt.toNat).toInt (rd_t r k i n) v c ft → rdO B c l z r k lane i n rv w := fun v ft a1 a2 a3 a4 => ⟨v, c, ft, a1, a2, a3, a4⟩
  refine ⟨fun hk => ?_, fun hk => ?_⟩
  rotate_left
  · have hk : ¬ ¬ (if 0 ≤ k.toInt ∧ k.toInt < 4 then (1 : Int32) else 0).toInt = 0 := hk
    have hk : ¬ (0 ≤ k.toInt ∧ k.toInt < 4) := fun h => hk (by rw [if_pos h]; decide)
    refine out (-1) 0 rfl hI1.2.2.2.1 hF1 ?_
    unfold rdQ
    rw [if_neg hk]
    exact ⟨rfl, rfl, rfl⟩
  have hk : ¬ (if 0 ≤ k.toInt ∧ k.toInt < 4 then (1 : Int32) else 0).toInt = 0 := hk
  have hk : 0 ≤ k.toInt ∧ k.toInt < 4 := by
    by_cases h : 0 ≤ k.toInt ∧ k.toInt < 4
    · exact h
    · rw [if_neg h] at hk
      exact absurd rfl hk
  intro rv w2 hx2
  have hx2 : fLr r_X11_isLane [.int lane] w1 rv w2 := hx2
  have hI2 := hI1.keep hx2 (by decide) (by decide)
  have hF2 := hF1.keep hI1.1 hx2 bl_0 bt_0 (by decide)
  obtain ⟨-, rfl⟩ := (s_X11_isLane _ _ _ _ _ _ hx2).2 lane rfl trivial
  refine ⟨fun hl => ?_, fun hl => ?_⟩
  rotate_left
  · have hl : ¬ ¬ (if 0 ≤ lane.toInt ∧ lane.toInt < 3 then (1 : Int32) else 0).toInt = 0 := hl
    have hl : ¬ (0 ≤ lane.toInt ∧ lane.toInt < 3) := fun h => hl (by rw [if_pos h]; decide)
    refine out (-2) 0 rfl hI2.2.2.2.1 hF2 ?_
    unfold rdQ
    rw [if_pos hk, if_neg hl]
    exact ⟨rfl, rfl, rfl⟩
  have hl : ¬ (if 0 ≤ lane.toInt ∧ lane.toInt < 3 then (1 : Int32) else 0).toInt = 0 := hl
  have hl : 0 ≤ lane.toInt ∧ lane.toInt < 3 := by
    by_cases h : 0 ≤ lane.toInt ∧ lane.toInt < 3
    · exact h
    · rw [if_neg h] at hl
      exact absurd rfl hl
  have em : (Int32.ofInt (-1)).toInt = -1 := by decide
  have nul : (l k.toInt.toNat).toInt = -1 → ∀ (rv : Option Value) (w3 : lW), fLr r_X11_faulted [.ref (B 0), .int 1] w2 rv w3 → ∃ x : Int32, rv = some (.int x) ∧ rdO B c l z r k lane i n (some (.int x)) w3 := by
    intro ha rv w3 hx3
    obtain ⟨rfl, a1, a2⟩ := cl_flt hI2.1 hI2.2.2.2.1 hx3
    refine ⟨_, rfl, out (-11) 1 f10_1 a1 a2 ?_⟩
    unfold rdQ
    rw [if_pos hk, if_pos hl, decide_eq_true ha]
    exact ⟨rfl, rfl, rfl⟩
  refine ⟨fun ha => ?_, fun ha => ⟨fun hb => ?_, fun hb => ?_⟩⟩
  · have ha : (eI (hof w2.1 (rv_ (eG fl_X11 77 (hof w2.1 (B 0))))) k.toNatClampNeg).toInt = (Int32.ofInt (-1)).toInt := ha
    rw [g_lan hI2, em] at ha
    refine ⟨fun hb => ?_, fun hb => ?_⟩
    · have hb : ¬ (eI (hof w2.1 (rv_ (eG fl_X11 77 (hof w2.1 (B 0))))) k.toNatClampNeg).toInt = (Int32.ofInt (-1)).toInt := hb
      rw [g_lan hI2, em] at hb
      exact absurd ha hb
    · intro rv w3 hx3
      obtain ⟨x, rfl, h⟩ := nul ha rv w3 hx3
      exact h
  · have ha : ¬ (eI (hof w2.1 (rv_ (eG fl_X11 77 (hof w2.1 (B 0))))) k.toNatClampNeg).toInt = (Int32.ofInt (-1)).toInt := ha
    rw [g_lan hI2, em] at ha
    have hb : (eI (hof w2.1 (rv_ (eG fl_X11 77 (hof w2.1 (B 0))))) k.toNatClampNeg).toInt = lane.toInt := hb
    rw [g_lan hI2] at hb
    refine ⟨fun _ => ?_, fun hd => ?_⟩
    · exact ⟨⟨⟨rfl, rfl, rfl, rfl, rfl, trivial⟩, rfl, hI2, hF2⟩, hk, hl, ha, hb⟩
    · have hd : ¬ ¬ (eI (hof w2.1 (rv_ (eG fl_X11 77 (hof w2.1 (B 0))))) k.toNatClampNeg).toInt = (Int32.ofInt (-1)).toInt := hd
      rw [g_lan hI2, em] at hd
      exact absurd ha hd
  · have ha : ¬ (eI (hof w2.1 (rv_ (eG fl_X11 77 (hof w2.1 (B 0))))) k.toNatClampNeg).toInt = (Int32.ofInt (-1)).toInt := ha
    rw [g_lan hI2, em] at ha
    have hb : ¬ (eI (hof w2.1 (rv_ (eG fl_X11 77 (hof w2.1 (B 0))))) k.toNatClampNeg).toInt = lane.toInt := hb
    rw [g_lan hI2] at hb
    intro rv w3 hx3
    have hx3 : fLr r_X11_faulted [.ref (B 0), .int 2] w2 rv w3 := hx3
    obtain ⟨rfl, a1, a2⟩ := cl_flt hI2.1 hI2.2.2.2.1 hx3
    refine out (-12) 2 f10_2 a1 a2 ?_
    unfold rdQ
    rw [if_pos hk, if_pos hl, decide_eq_false ha, decide_eq_true hb]
    exact ⟨rfl, rfl, rfl⟩
set_option maxHeartbeats 4000000 in
theorem rd_h66 (hz : ∀ k, k < 4 → (l k).toInt = -1 ∨ (0 ≤ (z k).toInt ∧ (z k).toInt ≤ 60)) : ∀ (lg : fL_) (vs : List Value) (w : lW), in_r66 B c l z r k lane i n lg vs w → ∃ (L : fL_) (f : Nat), f_sub L lg ∧ wh oW T_X11_read Sp_rd (rd_Q (B, c, l, z, r, k, lane, i, n) w0) K_X11_read (rd_hd (B, c, l, z, r, k, lane, i, n) w0) f 66 L vs w := by
  rintro lg vs w ⟨⟨hs, rfl, hI, hF⟩, hk, hl, ha, hb⟩
  obtain ⟨z0, z60⟩ := (hz k.toInt.toNat (by omega)).resolve_left ha
  have bad : ¬ n.toInt < 0 → ¬ (0 ≤ i.toInt ∧ i.toInt + n.toInt ≤ (z k.toInt.toNat).toInt) → ∀ (rv : Option Value) (w3 : lW), fLr r_X11_faulted [.ref (B 0), .int 3] w rv w3 → ∃ x : Int32, rv = some (.int x) ∧ rdO B c l z r k lane i n (some (.int x)) w3 := by
    intro hn hx rv w3 hx3
    obtain ⟨rfl, a1, a2⟩ := cl_flt hI.1 hI.2.2.2.1 hx3
    refine ⟨_, rfl, -13, c, 3, f10_3, a1, a2, ?_⟩
    unfold rdQ
    rw [if_pos hk, if_pos hl, decide_eq_false ha, decide_eq_false (not_not_intro hb)]
    dsimp only
    rw [if_neg hn, if_neg hx]
    exact ⟨rfl, rfl, rfl⟩
  have hN := Int32.toInt_lt n
  refine ⟨_, 60, hs, fun hn => ?_, fun hn => ?_⟩
  rotate_left
  · have hn : ¬ 0 ≤ n.toInt := hn
    intro rv w3 hx3
    have hx3 : fLr r_X11_faulted [.ref (B 0), .int 4] w rv w3 := hx3
    obtain ⟨rfl, a1, a2⟩ := cl_flt hI.1 hI.2.2.2.1 hx3
    refine ⟨-14, c, 4, f10_4, a1, a2, ?_⟩
    unfold rdQ
    rw [if_pos hk, if_pos hl, decide_eq_false ha, decide_eq_false (not_not_intro hb)]
    dsimp only
    rw [if_pos (by omega)]
    exact ⟨rfl, rfl, rfl⟩
  have hn : 0 ≤ n.toInt := hn
  refine ⟨fun hi => ?_, fun hi => ⟨fun hj => ?_, fun hj => ?_⟩⟩
  · have hi : i.toInt < 0 := hi
    intro rv w3 hx3
    obtain ⟨x, rfl, h⟩ := bad (by omega) (by omega) rv w3 hx3
    exact h
  · have hi : ¬ i.toInt < 0 := hi
    have hj : i.toInt ≤ (eI (hof w.1 (rv_ (eG fl_X11 87 (hof w.1 (B 0))))) k.toNatClampNeg - n).toInt := hj
    rw [g_siz hI, i_sub (by omega) (by omega)] at hj
    exact ⟨⟨⟨⟨rfl, rfl, rfl, rfl, rfl, trivial⟩, rfl, hI, hF⟩, hk, hl, ha, hb⟩, hn, (show 0 ≤ i.toInt by omega), (show i.toInt + n.toInt ≤ (z k.toInt.toNat).toInt by omega)⟩
  · have hj : ¬ i.toInt ≤ (eI (hof w.1 (rv_ (eG fl_X11 87 (hof w.1 (B 0))))) k.toNatClampNeg - n).toInt := hj
    rw [g_siz hI, i_sub (by omega) (by omega)] at hj
    intro rv w3 hx3
    obtain ⟨x, rfl, h⟩ := bad (by omega) (by omega) rv w3 hx3
    exact h
set_option maxHeartbeats 4000000 in
theorem rd_h100 (hc60 : 0 ≤ c.toInt ∧ c.toInt ≤ 60) (hz : ∀ k, k < 4 → (l k).toInt = -1 ∨ (0 ≤ (z k).toInt ∧ (z k).toInt ≤ 60)) : ∀ (lg : fL_) (vs : List Value) (w : lW), in_r100 B c l z r k lane i n lg vs w → ∃ (L : fL_) (f : Nat), f_sub L lg ∧ wh oW T_X11_read Sp_rd (rd_Q (B, c, l, z, r, k, lane, i, n) w0) K_X11_read (rd_hd (B, c, l, z, r, k, lane, i, n) w0) f 100 L vs w := by
  rintro lg vs w ⟨⟨⟨hs, rfl, hI, hF⟩, hk, hl, ha, hb⟩, hn, hi, hj⟩
  obtain ⟨z0, z60⟩ := (hz k.toInt.toNat (by omega)).resolve_left ha
  have e60 : (Int32.ofNat 60).toInt = 60 := by decide
  have out : ∀ {w : lW} {rv : Option Value} (v c' : Int32), rv = some (.int v) → oF B 0 11 1 (.int c') w → oF B 0 11 14 (.int 0) w → (if c.toInt = 60 then v = -4 ∧ c' = c ∧ (0 : Int32) = 0 else if 0 ≤ rd_t r k i n then v.toInt = -100 - rd_t r k i n ∧ c' = c ∧ (0 : Int32) = 0 else v = c ∧ c' = c + 1 ∧ (0 : Int32) = 0) → rdO B c l z r k lane i n rv w := by
    intro w rv v c' a1 a2 a3 a4
    refine ⟨v, c', 0, a1, a2, a3, ?_⟩
    unfold rdQ
    rw [if_pos hk, if_pos hl, decide_eq_false ha, decide_eq_false (not_not_intro hb)]
    dsimp only
    rw [if_neg (by omega), if_pos ⟨hi, hj⟩]
    exact a4
  refine ⟨_, 60, hs, fun hf => ?_, fun hf => ?_⟩
  rotate_left
  · have hf : ¬ (iv (eG fl_X11 108 (hof w.1 (B 0)))).toInt < (Int32.ofNat (eL (hof w.1 (rv_ (eG fl_X11 15 (hof w.1 (B 0))))))).toInt := hf
    rw [g_cnt hI.2.2.2.1, g_len hI.1 hI.2.2.2.1 hI.2.1, e60] at hf
    have hf : ¬ c.toInt < 60 := hf
    refine out (-4) c rfl hI.2.2.2.1 hF ?_
    rw [if_pos (by omega)]
    exact ⟨rfl, rfl, rfl⟩
  have hf : (iv (eG fl_X11 108 (hof w.1 (B 0)))).toInt < (Int32.ofNat (eL (hof w.1 (rv_ (eG fl_X11 15 (hof w.1 (B 0))))))).toInt := hf
  rw [g_cnt hI.2.2.2.1, g_len hI.1 hI.2.2.2.1 hI.2.1, e60] at hf
  have hf : c.toInt < 60 := hf
  have er : eG fl_X11 34 (hof w.1 (B 0)) = .ref (B 126) := (hI.2.2.2.1.ref hI.1 bl_0 (show _ = some (2, 0, 126) from rfl)).get rfl
  intro rv w1 hx
  have hx : fLr r_X7_firstFault [eG fl_X11 34 (hof w.1 (B 0)), eR (hof w.1 (rv_ (eG fl_X11 74 (hof w.1 (B 0))))) k.toNatClampNeg, .int i, .int n] w rv w1 := hx
  rw [er, g_row hI hk] at hx
  have hI1 := hI.keep hx (by decide) (by decide)
  have hF1 := hF.keep hI.1 hx bl_0 bt_0 (by decide)
  obtain ⟨cA, hr⟩ := hI.2.2.2.2.2.2 k.toInt.toNat (by omega)
  obtain ⟨-, x, rfl, ex⟩ := (s_X7_firstFault _ _ _ _ _ _ hx).2 (B 126, B (336 + k.toInt.toNat), i, n, cA, r k.toInt.toNat) rfl ⟨hr, hi, hn, (show i.toInt + n.toInt ≤ 60 by omega)⟩
  have ex : x.toInt = rd_t r k i n := ex
  have xle : rd_t r k i n ≤ ((0 : Nat) : Int) + (n.toInt.toNat : Nat) := acA_le
  refine ⟨fun hw => ?_, fun hw => ?_⟩
  rotate_left
  · have hw : ¬ x.toInt < 0 := hw
    have e100 : (Int32.ofInt (-100)).toInt = -100 := by decide
    refine out (Int32.ofInt (-100) - x) c rfl hI1.2.2.2.1 hF1 ?_
    rw [if_neg (by omega), if_pos (by omega)]
    refine ⟨?_, rfl, rfl⟩
    rw [i_sub (by rw [e100]; omega) (by rw [e100]; omega), e100, ex]
  have hw : x.toInt < 0 := hw
  intro rv w2 hx2
  have hx2 : fLr r_X7_valueOf _ w1 rv w2 := hx2
  have hI2 := hI1.keep hx2 (by decide) (by decide)
  have hF2 := hF1.keep hI1.1 hx2 bl_0 bt_0 (by decide)
  obtain ⟨u, rfl, -⟩ : ∃ v : Value, rv = some v ∧ (v = .null ∨ ∃ a : Nat, v = .ref a) := hx2.2.2.2.2.2
  intro rv w3 hx3
  have hx3 : fLr r_X1_become _ w2 rv w3 := hx3
  have hI3 := hI2.keep hx3 (by decide) (by decide)
  have hF3 := hF2.keep hI2.1 hx3 bl_0 bt_0 (by decide)
  obtain rfl : rv = none := hx3.2.2.2.2.2
  intro rv w4 hx4
  have hx4 : fLr r_X11_newSentence [.ref (B 0)] w3 rv w4 := hx4
  have hF4 := hF3.keep hI3.1 hx4 bl_0 bt_0 (by decide)
  obtain ⟨rfl, a1⟩ := cl_new hI3.1 hI3.2.2.2.1 hx4
  refine out c (c + 1) rfl a1 hF4 ?_
  rw [if_neg (by omega), if_neg (by omega)]
  exact ⟨rfl, rfl, rfl⟩
end
theorem s_X11_read : ∀ (a : rdA) (w w' : lW) (rv : Option Value), fLr r_X11_read (rd_F a) w rv w' → rd_P a w → rd_Q a w rv w' := by
  refine do_ofW rd_F rd_P rd_Q Sp_rd rd_hd 40 fo_X11 Sp_rd_ok k_X11_read (fun a w0 hp => ?_) (fun a w0 hp hd0 => ?_)
  · obtain ⟨B, c, l, z, r, k, lane, i, n⟩ := a
    obtain ⟨-, -, hc60, hz⟩ := hp
    exact List.forall_mem_cons.mpr ⟨rd_h5, List.forall_mem_cons.mpr ⟨rd_h66 hz, List.forall_mem_cons.mpr ⟨rd_h100 hc60 hz, fun _ h => absurd h List.not_mem_nil⟩⟩⟩
  · obtain ⟨B, c, l, z, r, k, lane, i, n⟩ := a
    obtain ⟨hI, ⟨u, hu⟩, -, -⟩ := hp
    intro q e0 hq
    have hq : w0.1[q]? = some (B 0, e0) := hq
    obtain ⟨a1, a2⟩ := hI.put (x := 0) hu hq
    exact ⟨⟨rfl, rfl, rfl, rfl, rfl, trivial⟩, rfl, a1, a2⟩
