/-! rule: the class's -/
/-- an object made in a call -/
theorem new_ok {B : Nat → Nat} {w w2 : lW} {q ci k t : Nat} {L fs' : List Value} {v : Value} {rt : Nat} {Wr : List (Nat × Nat)} {T : fT} {cc : ByteArray} {As : List Value} {rv : Option Value} (hI : bI B w) (hx : fLr (fq cw_TT cw_SG rt Wr T cc) As (w.1 ++ [(q, .inr (ci, L))], w.2 ++ [t]) rv w2) (hh : hof w2.1 = hset (hof (w.1 ++ [(q, .inr (ci, L))])) q (.inr (ci, fs'))) (hl : k < fs'.length) (hv : fs'.getD k .null = v) : pF w.1.length t q ci k v w2 := by
  obtain ⟨tys, hw, -⟩ := hx.2.2.2.2.1
  have hlen : (w.2 ++ [t]).length = (w.1 ++ [(q, (Sum.inr (ci, L) : va_E))]).length := hw.1
  rw [List.length_append, List.length_append] at hlen
  have hlen : w.2.length + 1 = w.1.length + 1 := hlen
  obtain ⟨e1, h1, -⟩ := hI.2.2 384 _ bl_384
  have h385 := (List.getElem?_eq_some_iff.mp h1).1
  have hx2 : ck_ex Wr (w.1 ++ [(q, (Sum.inr (ci, L) : va_E))]) (w.2 ++ [t]) w2.1 w2.2 := hx.2.2.2.1
  have g1 : (w.1 ++ [(q, (Sum.inr (ci, L) : va_E))])[w.1.length]? = some (q, .inr (ci, L)) := by
    rw [List.getElem?_append_right (Nat.le_refl _), Nat.sub_self]
    rfl
  have g2 : (w.2 ++ [t])[w.1.length]? = some t := by
    rw [List.getElem?_append_right (by omega), show w.1.length - w.2.length = 0 by omega]
    rfl
  obtain ⟨e', x1, -⟩ := hx2.2 _ _ _ _ g1 g2
  have hd : f_dj w2.1 := hx.2.2.1
  have y := hof_at hd x1
  rw [hh, hset_at] at y
  have y : .inr (ci, fs') = e' := Option.some.inj y
  subst y
  exact ⟨by omega, hx2.1 _ _ g2, fs', x1, hl, hv⟩
abbrev urA : Type := (Nat → Nat) × (Int32 × Int32) × Int32 × Int32 × Int32 × Int32 × Int32
def ur_F : urA → List Value := fun (B, _, kind, s, th, un, rank) => [.ref (B 0), .int kind, .int s, .int th, .int un, .int rank]
def ur_P : urA → lW → Prop := fun (B, (c, m), _, _, _, _, _) w => nS B c w ∧ uI B m w ∧ (0 ≤ c.toInt ∧ c.toInt ≤ 60) ∧ m.toInt ≤ 10
def urO (B : Nat → Nat) (c m kind s th un rank : Int32) (rv : Option Value) (w' : lW) : Prop := ∃ v m' : Int32, rv = some (.int v) ∧ oF B 207 9 1 (.int m') w' ∧ ruQ kind s th un rank c m v m'
def ur_Q : urA → lW → Option Value → lW → Prop := fun (B, (c, m), kind, s, th, un, rank) _ rv w' => urO B c m kind s th un rank rv w'
def in_u34 (B : Nat → Nat) (c m kind s th un rank : Int32) : fL_ → List Value → lW → Prop := fun lg vs w => f_sub [(0, false, .ref (B 0)), (1, false, .int kind), (2, false, .int s), (3, false, .int th), (4, false, .int un), (5, false, .int rank), (6, false, at_ B c s), (7, false, at_ B c th), (8, false, at_ B c un)] lg ∧ vs = [] ∧ nS B c w ∧ uI B m w ∧ 0 ≤ kind.toInt ∧ kind.toInt ≤ 2
def ur_g (c kind s th un rank m : Int32) : Prop := (0 ≤ kind.toInt ∧ kind.toInt ≤ 2) ∧ ((0 ≤ s.toInt ∧ s.toInt < c.toInt) ∧ (0 ≤ th.toInt ∧ th.toInt < c.toInt) ∧ (0 ≤ un.toInt ∧ un.toInt < c.toInt)) ∧ (0 ≤ rank.toInt ∧ rank.toInt ≤ 9) ∧ m.toInt < 10
def in_u88 (B : Nat → Nat) (c m kind s th un rank : Int32) : fL_ → List Value → lW → Prop := fun lg vs w => f_sub [(0, false, .ref (B 0)), (1, false, .int kind), (2, false, .int s), (3, false, .int th), (4, false, .int un), (5, false, .int rank), (6, false, at_ B c s), (7, false, at_ B c th), (8, false, at_ B c un), (9, false, .int m)] lg ∧ vs = [] ∧ nS B c w ∧ uI B m w ∧ ur_g c kind s th un rank m
def in_u154 (B : Nat → Nat) (c m kind s th un rank : Int32) : fL_ → List Value → lW → Prop := fun lg vs w => ∃ j t p ci k : Nat, f_sub [(0, false, .ref (B 0)), (6, false, at_ B c s), (7, false, at_ B c th), (8, false, at_ B c un), (10, false, .ref p)] lg ∧ vs = [] ∧ nS B c w ∧ uI B m w ∧ ur_g c kind s th un rank m ∧ pF j t p ci k (.int m) w ∧ (7 ≤ t ∧ t ≤ 10) ∧ kfd fl_X9 66 ci = k
def ur_hd : urA → lW → fI lW := fun (B, (c, m), kind, s, th, un, rank) _ => [(34, in_u34 B c m kind s th un rank), (88, in_u88 B c m kind s th un rank), (154, in_u154 B c m kind s th un rank)]
def Sp_ur : fP lW := [(381, 2, fLr r_X11_sentenceAt), (858, 1, fLr r_X9_isFull), (872, 6, fLr r_X8_init), (887, 6, fLr r_X0_init), (896, 6, fLr r_X5_init), (897, 5, fLr r_X9_keep)]
theorem Sp_ur_ok : f_sp T_X11_rule Sp_ur wW := List.forall_mem_cons.mpr ⟨sp_w rfl (fun _ _ _ _ _ _ h => h.2.2.1), List.forall_mem_cons.mpr ⟨sp_w rfl (fun _ _ _ _ _ _ h => h.2.2.1), List.forall_mem_cons.mpr ⟨sp_w rfl (fun _ _ _ _ _ _ h => h.2.2.1), List.forall_mem_cons.mpr ⟨sp_w rfl (fun _ _ _ _ _ _ h => h.2.2.1), List.forall_mem_cons.mpr ⟨sp_w rfl (fun _ _ _ _ _ _ h => h.2.2.1), List.forall_mem_cons.mpr ⟨sp_w rfl (fun _ _ _ _ _ _ h => h.2.2.1), fun _ h => absurd h List.not_mem_nil⟩⟩⟩⟩⟩⟩
section
variable {B : Nat → Nat} {c m kind s th un rank : Int32} {w0 : lW}
set_option maxHeartbeats 4000000 in
theorem ur_en {w : lW} (hn : nS B c w) (hu : uI B m w) (hc60 : 0 ≤ c.toInt ∧ c.toInt ≤ 60) : wl oW T_X11_rule Sp_ur (ur_Q (B, (c, m), kind, s, th, un, rank) w0) K_X11_rule (ur_hd (B, (c, m), kind, s, th, un, rank) w0) 40 K_X11_rule 0 (la 0 (ur_F (B, (c, m), kind, s, th, un, rank))) [] w := by
  have e2 : (Int32.ofInt 2).toInt = 2 := by decide
  have bad : ¬ (0 ≤ kind.toInt ∧ kind.toInt ≤ 2) → urO B c m kind s th un rank (some (.int (-2))) w := by
    intro hx
    refine ⟨-2, m, rfl, hu.2.1, ?_⟩
    unfold ruQ
    rw [if_neg hx]
    exact ⟨rfl, rfl⟩
  refine ⟨fun h1 => ?_, fun h1 => ⟨fun h2 => ?_, fun h2 => ?_⟩⟩
  · have h1 : kind.toInt < 0 := h1
    exact bad (by omega)
  rotate_left
  · have h2 : ¬ kind.toInt ≤ (Int32.ofInt 2).toInt := h2
    exact bad (by omega)
  have h1 : ¬ kind.toInt < 0 := h1
  have h2 : kind.toInt ≤ (Int32.ofInt 2).toInt := h2
  intro rv w1 hx
  have hx : fLr r_X11_sentenceAt [.ref (B 0), .int s] w rv w1 := hx
  obtain ⟨rfl, hn1⟩ := cl_at hn hc60.2 hx
  have hu1 := hu.keep hx (by decide) (by decide)
  intro rv w2 hx2
  have hx2 : fLr r_X11_sentenceAt [.ref (B 0), .int th] w1 rv w2 := hx2
  obtain ⟨rfl, hn2⟩ := cl_at hn1 hc60.2 hx2
  have hu2 := hu1.keep hx2 (by decide) (by decide)
  intro rv w3 hx3
  have hx3 : fLr r_X11_sentenceAt [.ref (B 0), .int un] w2 rv w3 := hx3
  obtain ⟨rfl, hn3⟩ := cl_at hn2 hc60.2 hx3
  have hu3 := hu2.keep hx3 (by decide) (by decide)
  exact ⟨⟨rfl, rfl, rfl, rfl, rfl, rfl, rfl, rfl, rfl, trivial⟩, rfl, hn3, hu3, (show 0 ≤ kind.toInt by omega), (show kind.toInt ≤ 2 by omega)⟩
set_option maxHeartbeats 4000000 in
theorem ur_h34 (hm10 : m.toInt ≤ 10) : ∀ (lg : fL_) (vs : List Value) (w : lW), in_u34 B c m kind s th un rank lg vs w → ∃ (L : fL_) (f : Nat), f_sub L lg ∧ wh oW T_X11_rule Sp_ur (ur_Q (B, (c, m), kind, s, th, un, rank) w0) K_X11_rule (ur_hd (B, (c, m), kind, s, th, un, rank) w0) f 34 L vs w := by
  rintro lg vs w ⟨hs, rfl, hn, hu, hk⟩
  have e9 : (Int32.ofInt 9).toInt = 9 := by decide
  have unk : ¬ ((0 ≤ s.toInt ∧ s.toInt < c.toInt) ∧ (0 ≤ th.toInt ∧ th.toInt < c.toInt) ∧ (0 ≤ un.toInt ∧ un.toInt < c.toInt)) → urO B c m kind s th un rank (some (.int (-1))) w := by
    intro hx
    refine ⟨-1, m, rfl, hu.2.1, ?_⟩
    unfold ruQ
    rw [if_pos hk, if_neg hx]
    exact ⟨rfl, rfl⟩
  refine ⟨_, 80, hs, fun h1 => ?_, fun h1 => ⟨fun h2 => ?_, fun h2 => ⟨fun h3 => ?_, fun h3 => ?_⟩⟩⟩
  · have h1 : at_ B c s = .null := h1
    exact unk (fun z => at_nul.mp h1 z.1)
  · have h2 : at_ B c th = .null := h2
    exact unk (fun z => at_nul.mp h2 z.2.1)
  rotate_left
  · have h3 : at_ B c un = .null := h3
    exact unk (fun z => at_nul.mp h3 z.2.2)
  have h1 : ¬ at_ B c s = .null := h1
  have h2 : ¬ at_ B c th = .null := h2
  have h3 : ¬ at_ B c un = .null := h3
  have hall : (0 ≤ s.toInt ∧ s.toInt < c.toInt) ∧ (0 ≤ th.toInt ∧ th.toInt < c.toInt) ∧ (0 ≤ un.toInt ∧ un.toInt < c.toInt) := ⟨Classical.byContradiction fun z => h1 (at_nul.mpr z), Classical.byContradiction fun z => h2 (at_nul.mpr z), Classical.byContradiction fun z => h3 (at_nul.mpr z)⟩
  have out : ¬ (0 ≤ rank.toInt ∧ rank.toInt ≤ 9) → urO B c m kind s th un rank (some (.int (-2))) w := by
    intro hx
    refine ⟨-2, m, rfl, hu.2.1, ?_⟩
    unfold ruQ
    rw [if_pos hk, if_pos hall, if_neg hx]
    exact ⟨rfl, rfl⟩
  refine ⟨fun h4 => ?_, fun h4 => ⟨fun h5 => ?_, fun h5 => ?_⟩⟩
  · have h4 : rank.toInt < 0 := h4
    exact out (by omega)
  rotate_left
  · have h5 : ¬ rank.toInt ≤ (Int32.ofInt 9).toInt := h5
    exact out (by omega)
  have h4 : ¬ rank.toInt < 0 := h4
  have h5 : rank.toInt ≤ (Int32.ofInt 9).toInt := h5
  have g1 : eG fl_X11 48 (hof w.1 (B 0)) = .ref (B 207) := bR hn.2.2 hn.1 bl_0 rfl rfl
  intro rv w1 hx
  have hx : fLr r_X9_isFull [eG fl_X11 48 (hof w.1 (B 0))] w rv w1 := hx
  rw [g1] at hx
  have hn1 := hn.keep hx (by decide) (by decide)
  have hu1 := hu.keep hx (by decide) (by decide)
  have er := s_X9_isFull (B, m) w w1 rv hx hu
  have er : rv = some (.int (if m.toInt < 10 then 0 else 1)) := er
  subst er
  refine ⟨fun h6 => ?_, fun h6 => ?_⟩
  rotate_left
  · have h6 : ¬ (if m.toInt < 10 then (0 : Int32) else 1).toInt = 0 := h6
    have hm : ¬ m.toInt < 10 := fun z => h6 (by rw [if_pos z]; decide)
    refine ⟨-4, m, rfl, hu1.2.1, ?_⟩
    unfold ruQ
    rw [if_pos hk, if_pos hall, if_pos (by omega), if_pos (by omega)]
    exact ⟨rfl, rfl⟩
  have h6 : (if m.toInt < 10 then (0 : Int32) else 1).toInt = 0 := h6
  have hm : m.toInt < 10 := by
    by_cases z : m.toInt < 10
    · exact z
    · rw [if_neg z] at h6
      exact absurd h6 (by decide)
  have g2 : eG fl_X11 287 (hof w1.1 (rv_ (eG fl_X11 48 (hof w1.1 (B 0))))) = .int m := by
    rw [bR (fl := fl_X11) (i := 48) (k2 := 6) (r := 207) hn1.2.2 hn1.1 bl_0 rfl rfl]
    show eG fl_X11 287 (hof w1.1 (B 207)) = .int m
    exact hu1.2.1.get rfl
  refine ⟨⟨rfl, rfl, rfl, rfl, rfl, rfl, rfl, rfl, rfl, ?_, trivial⟩, rfl, hn1, hu1, hk, hall, (show 0 ≤ rank.toInt ∧ rank.toInt ≤ 9 by omega), hm⟩
  show some (false, eG fl_X11 287 (hof w1.1 (rv_ (eG fl_X11 48 (hof w1.1 (B 0)))))) = some (false, .int m)
  rw [g2]
theorem sn_app {w : lW} (hs : sN B w) {q t : Nat} {e : va_E} (hh : hof (w.1 ++ [(q, e)]) = hset (hof w.1) q e) (hn : ∀ (r : Nat) (c : mk_C), lp_L2[r]? = some c → B r ≠ q) : sN B (w.1 ++ [(q, e)], w.2 ++ [t]) := by
  obtain ⟨cA, g, h1, h2⟩ := hs
  refine ⟨cA, g, ?_, h2⟩
  show hof (w.1 ++ [(q, e)]) (B 1) = _
  rw [hh, hset_ne (hn _ _ bl_1)]
  exact h1
theorem t_app {w : lW} (hs : tI B w) {q t : Nat} {e : va_E} (hh : hof (w.1 ++ [(q, e)]) = hset (hof w.1) q e) (hn : ∀ (r : Nat) (c : mk_C), lp_L2[r]? = some c → B r ≠ q) : tI B (w.1 ++ [(q, e)], w.2 ++ [t]) := by
  obtain ⟨cA, g, h1⟩ := hs
  refine ⟨cA, g, ?_⟩
  show hof (w.1 ++ [(q, e)]) (B 210) = _
  rw [hh, hset_ne (hn _ _ bl_210)]
  exact h1
/-- a rule made -/
theorem ur_new {w w2 : lW} (hn : nS B c w) (hu : uI B m w) {q t ci k : Nat} {L : List Value} (hd : f_dj (w.1 ++ [(q, .inr (ci, L))])) {rt : Nat} {Wr : List (Nat × Nat)} {T : fT} {cc : ByteArray} {x1 x2 x3 x4 : Int32} {rv : Option Value} (hx : fLr (fq cw_TT cw_SG rt Wr T cc) [.ref q, .int m, .int x1, .int x2, .int x3, .int x4] (w.1 ++ [(q, .inr (ci, L))], w.2 ++ [t]) rv w2) (hs : f_do (fq cw_TT cw_SG rt Wr T cc) Pi_rule) (hok : ru_ok ci k) (hl : k < L.length) (hkk : bs_K.all (fun x => !(Wr.contains x)) = true) (hw1 : (11, 1) ∉ Wr ∧ (14, 1) ∉ Wr) : rv = none ∧ nS B c w2 ∧ uI B m w2 ∧ pF w.1.length t q ci k (.int m) w2 := by
  obtain ⟨b1, b2, b3⟩ := hn.1.app (t := t) hd
  have hn1 : nS B c (w.1 ++ [(q, .inr (ci, L))], w.2 ++ [t]) := ⟨b1, sn_app hn.2.1 b2 b3, hn.2.2.app bl_0 b2 b3⟩
  have hu1 : uI B m (w.1 ++ [(q, .inr (ci, L))], w.2 ++ [t]) := ⟨b1, hu.2.1.app bl_207 b2 b3, t_app hu.2.2 b2 b3⟩
  have hp : hof (w.1 ++ [(q, .inr (ci, L))]) q = some (.inr (ci, L)) := by rw [b2, hset_at]
  obtain ⟨⟨fs', f1, f2, f3⟩, rfl⟩ := (hs _ _ _ _ _ _ hx).2 ((q, ci, L, k), m, x1, x2, x3, x4) rfl ⟨hp, hok, hl⟩
  exact ⟨rfl, hn1.keep hx hkk hw1.1, hu1.keep hx hkk hw1.2, new_ok hn.1 hx f1 f2 f3⟩
set_option maxHeartbeats 4000000 in
theorem ur_h88 : ∀ (lg : fL_) (vs : List Value) (w : lW), in_u88 B c m kind s th un rank lg vs w → ∃ (L : fL_) (f : Nat), f_sub L lg ∧ wh oW T_X11_rule Sp_ur (ur_Q (B, (c, m), kind, s, th, un, rank) w0) K_X11_rule (ur_hd (B, (c, m), kind, s, th, un, rank) w0) f 88 L vs w := by
  rintro lg vs w ⟨hs, rfl, hn, hu, hg⟩
  refine ⟨_, 80, hs, fun h1 => ⟨fun h2 => ?_, fun h2 => ?_⟩, fun h1 => ?_⟩
  · intro q ty hq hd
    intro rv w2 hx
    have hx : fLr r_X5_init [.ref q, .int m, .int s, .int th, .int un, .int rank] (w.1 ++ [(q, .inr (5, (List.range 5).map fun j => defaultValue (ty j)))], w.2 ++ [10]) rv w2 := hx
    obtain ⟨rfl, hn2, hu2, hF⟩ := ur_new (k := 4) hn hu hd hx s_X5_init ⟨rfl, by decide, by decide, by decide, by decide⟩ (by simp) (by decide) (by decide)
    exact ⟨_, _, _, _, _, ⟨rfl, rfl, rfl, rfl, rfl, trivial⟩, rfl, hn2, hu2, hg, hF, (show 7 ≤ 10 ∧ 10 ≤ 10 by decide), rfl⟩
  · intro q ty hq hd
    intro rv w2 hx
    have hx : fLr r_X0_init [.ref q, .int m, .int s, .int th, .int un, .int rank] (w.1 ++ [(q, .inr (0, (List.range 5).map fun j => defaultValue (ty j)))], w.2 ++ [9]) rv w2 := hx
    obtain ⟨rfl, hn2, hu2, hF⟩ := ur_new (k := 4) hn hu hd hx s_X0_init ⟨rfl, by decide, by decide, by decide, by decide⟩ (by simp) (by decide) (by decide)
    exact ⟨_, _, _, _, _, ⟨rfl, rfl, rfl, rfl, rfl, trivial⟩, rfl, hn2, hu2, hg, hF, (show 7 ≤ 9 ∧ 9 ≤ 10 by decide), rfl⟩
  · intro q ty hq hd
    intro rv w2 hx
    have hx : fLr r_X8_init [.ref q, .int m, .int s, .int th, .int un, .int rank] (w.1 ++ [(q, .inr (8, (List.range 5).map fun j => defaultValue (ty j)))], w.2 ++ [8]) rv w2 := hx
    obtain ⟨rfl, hn2, hu2, hF⟩ := ur_new (k := 0) hn hu hd hx s_X8_init ⟨rfl, by decide, by decide, by decide, by decide⟩ (by simp) (by decide) (by decide)
    exact ⟨_, _, _, _, _, ⟨rfl, rfl, rfl, rfl, rfl, trivial⟩, rfl, hn2, hu2, hg, hF, (show 7 ≤ 8 ∧ 8 ≤ 10 by decide), rfl⟩
set_option maxHeartbeats 4000000 in
theorem ur_h154 : ∀ (lg : fL_) (vs : List Value) (w : lW), in_u154 B c m kind s th un rank lg vs w → ∃ (L : fL_) (f : Nat), f_sub L lg ∧ wh oW T_X11_rule Sp_ur (ur_Q (B, (c, m), kind, s, th, un, rank) w0) K_X11_rule (ur_hd (B, (c, m), kind, s, th, un, rank) w0) f 154 L vs w := by
  rintro lg vs w ⟨j, t, p, ci, k, hs, rfl, hn, hu, hg, hF, ht, hk⟩
  refine ⟨_, 80, hs, ?_⟩
  intro rv w2 hx
  have hx : fLr r_X9_keep [eG fl_X11 48 (hof w.1 (B 0)), .ref p, at_ B c s, at_ B c th, at_ B c un] w rv w2 := hx
  rw [bR (fl := fl_X11) (i := 48) (k2 := 6) (r := 207) hn.2.2 hn.1 bl_0 rfl rfl, at_ref hg.2.1.1, at_ref hg.2.1.2.1, at_ref hg.2.1.2.2] at hx
  obtain ⟨rfl, a1⟩ := s_X9_keep ((B, m), (j, t, p, ci, k, m), B (2 + 2 * s.toInt.toNat), B (2 + 2 * th.toInt.toNat), B (2 + 2 * un.toInt.toNat)) w w2 rv hx ⟨hu, hg.2.2.2, hF, ht, hk⟩
  refine ⟨m, m + 1, rfl, a1, ?_⟩
  have hg4 := hg.2.2.2
  unfold ruQ
  rw [if_pos hg.1, if_pos hg.2.1, if_pos hg.2.2.1, if_neg (by omega)]
  exact ⟨rfl, rfl⟩
end
theorem s_X11_rule : ∀ (a : urA) (w w' : lW) (rv : Option Value), fLr r_X11_rule (ur_F a) w rv w' → ur_P a w → ur_Q a w rv w' := by
  refine do_ofW ur_F ur_P ur_Q Sp_ur ur_hd 40 fo_X11 Sp_ur_ok k_X11_rule (fun a w0 hp => ?_) (fun a w0 hp hd0 => ?_)
  · obtain ⟨B, ⟨c, m⟩, kind, s, th, un, rank⟩ := a
    obtain ⟨-, -, -, hm⟩ := hp
    exact List.forall_mem_cons.mpr ⟨ur_h34 hm, List.forall_mem_cons.mpr ⟨ur_h88, List.forall_mem_cons.mpr ⟨ur_h154, fun _ h => absurd h List.not_mem_nil⟩⟩⟩
  · obtain ⟨B, ⟨c, m⟩, kind, s, th, un, rank⟩ := a
    exact ur_en hp.1 hp.2.1 hp.2.2.1
/-! rule: the reference's -/
abbrev vrA : Type := (Nat × List Value × Int32 × Int32) × (Nat → Nat) × Int32 × Int32 × Int32 × Int32 × Int32
def vr_F : vrA → List Value := fun ((p, _, _, _), _, kind, s, th, un, rank) => [.ref p, .int kind, .int s, .int th, .int un, .int rank]
def vr_P : vrA → fH → Prop := fun ((p, fs, c, m), A, _, _, _, _, _) h => h p = some (.inr (12, fs)) ∧ (fs.getD 1 .null = .int c ∧ fs.getD 27 .null = .int m ∧ fs.length = 68) ∧ ∀ i, 28 ≤ i → i ≤ 32 → fs.getD i .null = .ref (A i) ∧ p ≠ A i
def vrO (p : Nat) (c m kind s th un rank : Int32) (rv : Option Value) (h' : fH) : Prop := ∃ v m' : Int32, rv = some (.int v) ∧ (∃ fs' : List Value, h' p = some (.inr (12, fs')) ∧ 27 < fs'.length ∧ fs'.getD 27 .null = .int m') ∧ ruQ kind s th un rank c m v m'
def vr_Q : vrA → fH → Option Value → fH → Prop := fun ((p, _, c, m), _, kind, s, th, un, rank) _ rv h' => vrO p c m kind s th un rank rv h'
def in_v42 (p : Nat) (c kind s th un rank : Int32) (h0 : fH) : fL_ → List Value → fH → Prop := fun lg vs w => f_sub [(0, false, .ref p), (1, false, .int kind), (2, false, .int s), (3, false, .int th), (4, false, .int un), (5, false, .int rank)] lg ∧ vs = [] ∧ w = h0 ∧ (0 ≤ kind.toInt ∧ kind.toInt ≤ 2) ∧ ((0 ≤ s.toInt ∧ s.toInt < c.toInt) ∧ (0 ≤ th.toInt ∧ th.toInt < c.toInt) ∧ (0 ≤ un.toInt ∧ un.toInt < c.toInt))
def in_vr (p : Nat) (fs : List Value) (c m kind s th un rank : Int32) : fL_ → List Value → fH → Prop := fun lg vs w => f_sub [(0, false, .ref p), (1, false, .int kind), (2, false, .int s), (3, false, .int th), (4, false, .int un), (5, false, .int rank)] lg ∧ vs = [] ∧ w p = some (.inr (12, fs)) ∧ ur_g c kind s th un rank m
def vr_hd : vrA → fH → fI fH := fun ((p, fs, c, m), _, kind, s, th, un, rank) h0 => [(42, in_v42 p c kind s th un rank h0), (80, in_vr p fs c m kind s th un rank), (90, in_vr p fs c m kind s th un rank), (100, in_vr p fs c m kind s th un rank), (111, in_vr p fs c m kind s th un rank), (122, in_vr p fs c m kind s th un rank), (132, in_vr p (fs.set 27 (.int (m + 1))) c m kind s th un rank), (137, in_vr p ((fs.set 27 (.int (m + 1))).set 33 (.int 0)) c m kind s th un rank)]
def SpVR : fP fH := [(457, 3, Pi_in), (669, 2, Pi_noSentence)]
theorem SpVR_ok : f_sp T_X12_rule SpVR wH := List.forall_mem_cons.mpr ⟨sp_one rfl (show f_do r_X12_in Pi_in from s_X12_in), List.forall_mem_cons.mpr ⟨sp_one rfl (show f_do r_X12_noSentence Pi_noSentence from s_X12_noSentence), no_sp⟩⟩
section
variable {p : Nat} {A : Nat → Nat} {fs : List Value} {c m kind s th un rank : Int32} {h0 : fH}
set_option maxHeartbeats 4000000 in
theorem vr_en (hp : h0 p = some (.inr (12, fs))) (hc : fs.getD 1 .null = .int c) (hm : fs.getD 27 .null = .int m) (hl : fs.length = 68) : wl oH T_X12_rule SpVR (vr_Q ((p, fs, c, m), A, kind, s, th, un, rank) h0) K_X12_rule (vr_hd ((p, fs, c, m), A, kind, s, th, un, rank) h0) 40 K_X12_rule 0 (la 0 (vr_F ((p, fs, c, m), A, kind, s, th, un, rank))) [] h0 := by
  have e0 : (Int64.ofNat 0).toInt = 0 := by decide
  have e2 : (Int64.ofInt 2).toInt = 2 := by decide
  intro rv h1 hx
  obtain ⟨e1, er⟩ := hx (kind.toInt64, Int64.ofNat 0, Int64.ofInt 2) rfl trivial
  have e1 : h1 = h0 := e1
  subst h1
  have er : rv = some (.int (if (Int64.ofNat 0).toInt ≤ kind.toInt64.toInt ∧ kind.toInt64.toInt ≤ (Int64.ofInt 2).toInt then 1 else 0)) := er
  rw [e0, e2, Int32.toInt_toInt64] at er
  subst er
  refine ⟨fun h => ?_, fun h => ?_⟩
  rotate_left
  · have h : ¬ ¬ (if 0 ≤ kind.toInt ∧ kind.toInt ≤ 2 then (1 : Int32) else 0).toInt = 0 := h
    have hy : ¬ (0 ≤ kind.toInt ∧ kind.toInt ≤ 2) := fun z => h (by rw [if_pos z]; decide)
    refine ⟨-2, m, rfl, ⟨fs, hp, by omega, hm⟩, ?_⟩
    unfold ruQ
    rw [if_neg hy]
    exact ⟨rfl, rfl⟩
  have h : ¬ (if 0 ≤ kind.toInt ∧ kind.toInt ≤ 2 then (1 : Int32) else 0).toInt = 0 := h
  have hk : 0 ≤ kind.toInt ∧ kind.toInt ≤ 2 := by
    by_cases z : 0 ≤ kind.toInt ∧ kind.toInt ≤ 2
    · exact z
    · rw [if_neg z] at h
      exact absurd rfl h
  have unk : ¬ ((0 ≤ s.toInt ∧ s.toInt < c.toInt) ∧ (0 ≤ th.toInt ∧ th.toInt < c.toInt) ∧ (0 ≤ un.toInt ∧ un.toInt < c.toInt)) → vrO p c m kind s th un rank (some (.int (-1))) h0 := by
    intro hx
    refine ⟨-1, m, rfl, ⟨fs, hp, by omega, hm⟩, ?_⟩
    unfold ruQ
    rw [if_pos hk, if_neg hx]
    exact ⟨rfl, rfl⟩
  have yes : ∀ x : Int32, ¬ ¬ (if 0 ≤ x.toInt ∧ x.toInt < c.toInt then (0 : Int32) else 1).toInt = 0 → 0 ≤ x.toInt ∧ x.toInt < c.toInt := by
    intro x h
    by_cases z : 0 ≤ x.toInt ∧ x.toInt < c.toInt
    · exact z
    · rw [if_neg z] at h
      exact absurd (by decide) h
  intro rv h1 hx
  obtain ⟨e1, rfl⟩ := hx (p, fs, c, s) rfl ⟨hp, hc⟩
  have e1 : h1 = h0 := e1
  subst h1
  refine ⟨fun h => ?_, fun h => ?_⟩
  · have h : ¬ (if 0 ≤ s.toInt ∧ s.toInt < c.toInt then (0 : Int32) else 1).toInt = 0 := h
    exact unk (fun z => h (by rw [if_pos z.1]; decide))
  have hs := yes s h
  intro rv h1 hx
  obtain ⟨e1, rfl⟩ := hx (p, fs, c, th) rfl ⟨hp, hc⟩
  have e1 : h1 = h0 := e1
  subst h1
  refine ⟨fun h => ?_, fun h => ?_⟩
  · have h : ¬ (if 0 ≤ th.toInt ∧ th.toInt < c.toInt then (0 : Int32) else 1).toInt = 0 := h
    exact unk (fun z => h (by rw [if_pos z.2.1]; decide))
  have ht := yes th h
  intro rv h1 hx
  obtain ⟨e1, rfl⟩ := hx (p, fs, c, un) rfl ⟨hp, hc⟩
  have e1 : h1 = h0 := e1
  subst h1
  refine ⟨fun h => ?_, fun h => ?_⟩
  rotate_left
  · have h : ¬ (if 0 ≤ un.toInt ∧ un.toInt < c.toInt then (0 : Int32) else 1).toInt = 0 := h
    exact unk (fun z => h (by rw [if_pos z.2.2]; decide))
  have h : (if 0 ≤ un.toInt ∧ un.toInt < c.toInt then (0 : Int32) else 1).toInt = 0 := h
  have hu := yes un (not_not_intro h)
  exact ⟨⟨rfl, rfl, rfl, rfl, rfl, rfl, trivial⟩, rfl, rfl, hk, hs, ht, hu⟩
set_option maxHeartbeats 4000000 in
theorem vr_h42 (hp : h0 p = some (.inr (12, fs))) (hm : fs.getD 27 .null = .int m) (hm10 : m.toInt ≤ 10) (hl : fs.length = 68) (hA : fs.getD 28 .null = .ref (A 28) ∧ p ≠ A 28) : ∀ (lg : fL_) (vs : List Value) (w : fH), in_v42 p c kind s th un rank h0 lg vs w → ∃ (L : fL_) (f : Nat), f_sub L lg ∧ wh oH T_X12_rule SpVR (vr_Q ((p, fs, c, m), A, kind, s, th, un, rank) h0) K_X12_rule (vr_hd ((p, fs, c, m), A, kind, s, th, un, rank) h0) f 42 L vs w := by
  rintro lg vs w ⟨hs0, rfl, ew, hk, hall⟩
  have ew : w = h0 := ew
  subst w
  have e0 : (Int64.ofNat 0).toInt = 0 := by decide
  have e9 : (Int64.ofInt 9).toInt = 9 := by decide
  have e10 : (Int32.ofInt 10).toInt = 10 := by decide
  refine ⟨_, 60, hs0, ?_⟩
  intro rv h1 hx
  obtain ⟨e1, er⟩ := hx (rank.toInt64, Int64.ofNat 0, Int64.ofInt 9) rfl trivial
  have e1 : h1 = h0 := e1
  subst h1
  have er : rv = some (.int (if (Int64.ofNat 0).toInt ≤ rank.toInt64.toInt ∧ rank.toInt64.toInt ≤ (Int64.ofInt 9).toInt then 1 else 0)) := er
  rw [e0, e9, Int32.toInt_toInt64] at er
  subst er
  refine ⟨fun h => ?_, fun h => ?_⟩
  rotate_left
  · have h : ¬ ¬ (if 0 ≤ rank.toInt ∧ rank.toInt ≤ 9 then (1 : Int32) else 0).toInt = 0 := h
    have hy : ¬ (0 ≤ rank.toInt ∧ rank.toInt ≤ 9) := fun z => h (by rw [if_pos z]; decide)
    refine ⟨-2, m, rfl, ⟨fs, hp, by omega, hm⟩, ?_⟩
    unfold ruQ
    rw [if_pos hk, if_pos hall, if_neg hy]
    exact ⟨rfl, rfl⟩
  have h : ¬ (if 0 ≤ rank.toInt ∧ rank.toInt ≤ 9 then (1 : Int32) else 0).toInt = 0 := h
  have hr : 0 ≤ rank.toInt ∧ rank.toInt ≤ 9 := by
    by_cases z : 0 ≤ rank.toInt ∧ rank.toInt ≤ 9
    · exact z
    · rw [if_neg z] at h
      exact absurd rfl h
  have g1 : eG fl_X12 358 (h0 p) = .int m := by
    rw [hp, ← hm]
    rfl
  have g2 : eG fl_X12 50 (h0 p) = .ref (A 28) := by
    rw [hp, ← hA.1]
    rfl
  refine ⟨fun h => ?_, fun h => ?_⟩
  rotate_left
  · have h : ¬ ¬ (iv (eG fl_X12 358 (h0 p))).toInt = (Int32.ofInt 10).toInt := h
    rw [g1, e10] at h
    have h : ¬ ¬ m.toInt = 10 := h
    refine ⟨-4, m, rfl, ⟨fs, hp, by omega, hm⟩, ?_⟩
    unfold ruQ
    rw [if_pos hk, if_pos hall, if_pos hr, if_pos (by omega)]
    exact ⟨rfl, rfl⟩
  have h : ¬ (iv (eG fl_X12 358 (h0 p))).toInt = (Int32.ofInt 10).toInt := h
  rw [g1, e10] at h
  have h : ¬ m.toInt = 10 := h
  refine ⟨⟨rfl, rfl, rfl, rfl, rfl, rfl, trivial⟩, rfl, ?_, hk, hall, hr, (show m.toInt < 10 by omega)⟩
  show hset h0 (rv_ (eG fl_X12 50 (h0 p))) _ p = some (.inr (12, fs))
  rw [g2]
  show hset h0 (A 28) _ p = some (.inr (12, fs))
  rw [hset_ne hA.2]
  exact hp
set_option maxHeartbeats 4000000 in
theorem vr_h80 (hA : fs.getD 29 .null = .ref (A 29) ∧ p ≠ A 29) : ∀ (lg : fL_) (vs : List Value) (w : fH), in_vr p fs c m kind s th un rank lg vs w → ∃ (L : fL_) (f : Nat), f_sub L lg ∧ wh oH T_X12_rule SpVR (vr_Q ((p, fs, c, m), A, kind, s, th, un, rank) h0) K_X12_rule (vr_hd ((p, fs, c, m), A, kind, s, th, un, rank) h0) f 80 L vs w := by
  rintro lg vs w ⟨hs, rfl, hw, hg⟩
  have hw : w p = some (.inr (12, fs)) := hw
  have g2 : eG fl_X12 53 (w p) = .ref (A 29) := by
    rw [hw, ← hA.1]
    rfl
  refine ⟨_, 40, hs, ⟨rfl, rfl, rfl, rfl, rfl, rfl, trivial⟩, rfl, ?_, hg⟩
  show hset w (rv_ (eG fl_X12 53 (w p))) _ p = some (.inr (12, fs))
  rw [g2]
  show hset w (A 29) _ p = some (.inr (12, fs))
  rw [hset_ne hA.2]
  exact hw
set_option maxHeartbeats 4000000 in
theorem vr_h90 (hA : fs.getD 30 .null = .ref (A 30) ∧ p ≠ A 30) : ∀ (lg : fL_) (vs : List Value) (w : fH), in_vr p fs c m kind s th un rank lg vs w → ∃ (L : fL_) (f : Nat), f_sub L lg ∧ wh oH T_X12_rule SpVR (vr_Q ((p, fs, c, m), A, kind, s, th, un, rank) h0) K_X12_rule (vr_hd ((p, fs, c, m), A, kind, s, th, un, rank) h0) f 90 L vs w := by
  rintro lg vs w ⟨hs, rfl, hw, hg⟩
  have hw : w p = some (.inr (12, fs)) := hw
  have g2 : eG fl_X12 56 (w p) = .ref (A 30) := by
    rw [hw, ← hA.1]
    rfl
  refine ⟨_, 40, hs, ⟨rfl, rfl, rfl, rfl, rfl, rfl, trivial⟩, rfl, ?_, hg⟩
  show hset w (rv_ (eG fl_X12 56 (w p))) _ p = some (.inr (12, fs))
  rw [g2]
  show hset w (A 30) _ p = some (.inr (12, fs))
  rw [hset_ne hA.2]
  exact hw
set_option maxHeartbeats 4000000 in
theorem vr_h100 (hA : fs.getD 31 .null = .ref (A 31) ∧ p ≠ A 31) : ∀ (lg : fL_) (vs : List Value) (w : fH), in_vr p fs c m kind s th un rank lg vs w → ∃ (L : fL_) (f : Nat), f_sub L lg ∧ wh oH T_X12_rule SpVR (vr_Q ((p, fs, c, m), A, kind, s, th, un, rank) h0) K_X12_rule (vr_hd ((p, fs, c, m), A, kind, s, th, un, rank) h0) f 100 L vs w := by
  rintro lg vs w ⟨hs, rfl, hw, hg⟩
  have hw : w p = some (.inr (12, fs)) := hw
  have g2 : eG fl_X12 59 (w p) = .ref (A 31) := by
    rw [hw, ← hA.1]
    rfl
  refine ⟨_, 40, hs, ⟨rfl, rfl, rfl, rfl, rfl, rfl, trivial⟩, rfl, ?_, hg⟩
  show hset w (rv_ (eG fl_X12 59 (w p))) _ p = some (.inr (12, fs))
  rw [g2]
  show hset w (A 31) _ p = some (.inr (12, fs))
  rw [hset_ne hA.2]
  exact hw
set_option maxHeartbeats 4000000 in
theorem vr_h111 (hA : fs.getD 32 .null = .ref (A 32) ∧ p ≠ A 32) : ∀ (lg : fL_) (vs : List Value) (w : fH), in_vr p fs c m kind s th un rank lg vs w → ∃ (L : fL_) (f : Nat), f_sub L lg ∧ wh oH T_X12_rule SpVR (vr_Q ((p, fs, c, m), A, kind, s, th, un, rank) h0) K_X12_rule (vr_hd ((p, fs, c, m), A, kind, s, th, un, rank) h0) f 111 L vs w := by
  rintro lg vs w ⟨hs, rfl, hw, hg⟩
  have hw : w p = some (.inr (12, fs)) := hw
  have g2 : eG fl_X12 62 (w p) = .ref (A 32) := by
    rw [hw, ← hA.1]
    rfl
  refine ⟨_, 40, hs, ⟨rfl, rfl, rfl, rfl, rfl, rfl, trivial⟩, rfl, ?_, hg⟩
  show hset w (rv_ (eG fl_X12 62 (w p))) _ p = some (.inr (12, fs))
  rw [g2]
  show hset w (A 32) _ p = some (.inr (12, fs))
  rw [hset_ne hA.2]
  exact hw
set_option maxHeartbeats 4000000 in
theorem vr_h122 (hm : fs.getD 27 .null = .int m) : ∀ (lg : fL_) (vs : List Value) (w : fH), in_vr p fs c m kind s th un rank lg vs w → ∃ (L : fL_) (f : Nat), f_sub L lg ∧ wh oH T_X12_rule SpVR (vr_Q ((p, fs, c, m), A, kind, s, th, un, rank) h0) K_X12_rule (vr_hd ((p, fs, c, m), A, kind, s, th, un, rank) h0) f 122 L vs w := by
  rintro lg vs w ⟨hs, rfl, hw, hg⟩
  have hw : w p = some (.inr (12, fs)) := hw
  refine ⟨_, 40, hs, ⟨rfl, rfl, rfl, rfl, rfl, rfl, trivial⟩, rfl, ?_, hg⟩
  show hset w p (sG pl_X12 358 (.int (iv (eG fl_X12 358 (w p)) + 1)) (w p)) p = some (.inr (12, fs.set 27 (.int (m + 1))))
  rw [hset_at, hw]
  show some (Sum.inr (12, fs.set 27 (.int (iv (fs.getD 27 .null) + 1)))) = _
  rw [hm]
  rfl
set_option maxHeartbeats 4000000 in
theorem vr_h132 : ∀ (lg : fL_) (vs : List Value) (w : fH), in_vr p (fs.set 27 (.int (m + 1))) c m kind s th un rank lg vs w → ∃ (L : fL_) (f : Nat), f_sub L lg ∧ wh oH T_X12_rule SpVR (vr_Q ((p, fs, c, m), A, kind, s, th, un, rank) h0) K_X12_rule (vr_hd ((p, fs, c, m), A, kind, s, th, un, rank) h0) f 132 L vs w := by
  rintro lg vs w ⟨hs, rfl, hw, hg⟩
  have hw : w p = some (.inr (12, fs.set 27 (.int (m + 1)))) := hw
  refine ⟨_, 40, hs, ⟨rfl, rfl, rfl, rfl, rfl, rfl, trivial⟩, rfl, ?_, hg⟩
  show hset w p (sG pl_X12 257 (.int (Int32.ofInt 0)) (w p)) p = some (.inr (12, (fs.set 27 (.int (m + 1))).set 33 (.int 0)))
  rw [hset_at, hw]
  rfl
set_option maxHeartbeats 4000000 in
theorem vr_h137 (hl : fs.length = 68) : ∀ (lg : fL_) (vs : List Value) (w : fH), in_vr p ((fs.set 27 (.int (m + 1))).set 33 (.int 0)) c m kind s th un rank lg vs w → ∃ (L : fL_) (f : Nat), f_sub L lg ∧ wh oH T_X12_rule SpVR (vr_Q ((p, fs, c, m), A, kind, s, th, un, rank) h0) K_X12_rule (vr_hd ((p, fs, c, m), A, kind, s, th, un, rank) h0) f 137 L vs w := by
  rintro lg vs w ⟨hs, rfl, hw, hg⟩
  have hw : w p = some (.inr (12, (fs.set 27 (.int (m + 1))).set 33 (.int 0))) := hw
  have gv : ((fs.set 27 (.int (m + 1))).set 33 (.int 0)).getD 27 .null = .int (m + 1) := by
    rw [getD_set_ne (by decide), List.getD_eq_getElem?_getD, List.getElem?_set_self (by omega)]
    rfl
  refine ⟨_, 40, hs, ?_⟩
  show vrO p c m kind s th un rank (some (.int (iv (eG fl_X12 358 (w p)) - 1))) w
  have hg4 := hg.2.2.2
  refine ⟨m, m + 1, ?_, ⟨_, hw, by rw [List.length_set, List.length_set]; omega, gv⟩, ?_⟩
  · rw [hw]
    show some (Value.int (iv (((fs.set 27 (.int (m + 1))).set 33 (.int 0)).getD 27 .null) - 1)) = some (.int m)
    rw [gv]
    show some (Value.int (m + 1 - 1)) = some (.int m)
    rw [Int32.add_sub_cancel]
  · unfold ruQ
    rw [if_pos hg.1, if_pos hg.2.1, if_pos hg.2.2.1, if_neg (by omega)]
    exact ⟨rfl, rfl⟩
end
theorem s_X12_rule : f_do r_X12_rule (fun As h rv h' => ∀ a : vrA, As = vr_F a → (vr_P a h ∧ a.1.2.2.2.toInt ≤ 10) → vr_Q a h rv h') := by
  refine do_ofP vr_F (fun a h => vr_P a h ∧ a.1.2.2.2.toInt ≤ 10) vr_Q SpVR vr_hd 40 fo_X12 SpVR_ok k_X12_rule (fun a h0 hp => ?_) (fun a h0 hp => ?_)
  · obtain ⟨⟨p, fs, c, m⟩, A, kind, s, th, un, rank⟩ := a
    obtain ⟨⟨hp, ⟨hc, hm, hl⟩, hA⟩, hm10⟩ := hp
    exact List.forall_mem_cons.mpr ⟨vr_h42 hp hm hm10 hl (hA 28 (by decide) (by decide)), List.forall_mem_cons.mpr ⟨vr_h80 (hA 29 (by decide) (by decide)), List.forall_mem_cons.mpr ⟨vr_h90 (hA 30 (by decide) (by decide)), List.forall_mem_cons.mpr ⟨vr_h100 (hA 31 (by decide) (by decide)), List.forall_mem_cons.mpr ⟨vr_h111 (hA 32 (by decide) (by decide)), List.forall_mem_cons.mpr ⟨vr_h122 hm, List.forall_mem_cons.mpr ⟨vr_h132, List.forall_mem_cons.mpr ⟨vr_h137 hl, fun _ h => absurd h List.not_mem_nil⟩⟩⟩⟩⟩⟩⟩⟩
  · obtain ⟨⟨p, fs, c, m⟩, A, kind, s, th, un, rank⟩ := a
    obtain ⟨⟨hp, ⟨hc, hm, hl⟩, hA⟩, hm10⟩ := hp
    exact vr_en hp hc hm hl
