/-! make -/
def mkQ (how a b c v c' : Int32) : Prop :=
  if 0 ≤ how.toInt ∧ how.toInt ≤ 4 then
    if (0 ≤ a.toInt ∧ a.toInt < c.toInt) ∧ (how.toInt = 0 ∨ (0 ≤ b.toInt ∧ b.toInt < c.toInt)) then
      if c.toInt = 60 then v = -4 ∧ c' = c else v = c ∧ c' = c + 1
    else v = -1 ∧ c' = c
  else v = -2 ∧ c' = c
abbrev saA : Type := Nat × List Value × Int32 × Nat × ClassId × (Nat → Option Nat) × Int32
theorem s_X11_sentenceAt : f_do r_X11_sentenceAt (fun As h rv h' => ∀ a : saA, As = [.ref a.1, .int a.2.2.2.2.2.2] → (h a.1 = some (.inr (11, a.2.1)) ∧ a.2.1.getD 1 .null = .int a.2.2.1 ∧ a.2.1.getD 0 .null = .ref a.2.2.2.1 ∧ h a.2.2.2.1 = some (.inl (a.2.2.2.2.1, 60, .inr (.inr (.inr (.inr a.2.2.2.2.2.1)))))) → h' = h ∧ rv = some (if (0 ≤ a.2.2.2.2.2.2.toInt ∧ a.2.2.2.2.2.2.toInt < a.2.2.1.toInt) ∧ a.2.2.2.2.2.2.toInt < 60 then va_rf (a.2.2.2.2.2.1 a.2.2.2.2.2.2.toInt.toNat) else .null)) := by
  refine do_ofP (fun a : saA => [.ref a.1, .int a.2.2.2.2.2.2]) (fun a h => h a.1 = some (.inr (11, a.2.1)) ∧ a.2.1.getD 1 .null = .int a.2.2.1 ∧ a.2.1.getD 0 .null = .ref a.2.2.2.1 ∧ h a.2.2.2.1 = some (.inl (a.2.2.2.2.1, 60, .inr (.inr (.inr (.inr a.2.2.2.2.2.1)))))) (fun a h rv h' => h' = h ∧ rv = some (if (0 ≤ a.2.2.2.2.2.2.toInt ∧ a.2.2.2.2.2.2.toInt < a.2.2.1.toInt) ∧ a.2.2.2.2.2.2.toInt < 60 then va_rf (a.2.2.2.2.2.1 a.2.2.2.2.2.2.toInt.toNat) else .null)) [] (fun _ _ => []) 40 fo_X11 no_sp k_X11_sentenceAt (fun _ _ _ => no_hd) (fun a h0 hp => ?_)
  obtain ⟨p, fs, c, aS, cA, g, s⟩ := a
  obtain ⟨hp, hc, hs, ha⟩ := hp
  have hp : h0 p = some (.inr (11, fs)) := hp
  have hc : fs.getD 1 .null = .int c := hc
  have hs : fs.getD 0 .null = .ref aS := hs
  have ha : h0 aS = some (.inl (cA, 60, .inr (.inr (.inr (.inr g))))) := ha
  have g1 : eG fl_X11 108 (h0 p) = .int c := by
    rw [hp, ← hc]
    rfl
  have g2 : eG fl_X11 15 (h0 p) = .ref aS := by
    rw [hp, ← hs]
    rfl
  have e60 : (Int32.ofNat 60).toInt = 60 := by decide
  have no : ¬ ((0 ≤ s.toInt ∧ s.toInt < c.toInt) ∧ s.toInt < 60) → h0 = h0 ∧ some Value.null = some (if (0 ≤ s.toInt ∧ s.toInt < c.toInt) ∧ s.toInt < 60 then va_rf (g s.toInt.toNat) else .null) := fun h => by
    rw [if_neg h]
    exact ⟨rfl, rfl⟩
  refine ⟨fun h1 => ?_, fun h1 => ⟨fun h2 => ?_, fun h2 => ⟨fun h3 => ?_, fun h3 => ?_⟩⟩⟩
  · have h1 : s.toInt < 0 := h1
    exact no (by omega)
  · have h2 : (iv (eG fl_X11 108 (h0 p))).toInt ≤ s.toInt := h2
    rw [g1] at h2
    have h2 : c.toInt ≤ s.toInt := h2
    exact no (by omega)
  · have h3 : (Int32.ofNat (eL (h0 (rv_ (eG fl_X11 15 (h0 p)))))).toInt ≤ s.toInt := h3
    rw [g2] at h3
    have h3 : (Int32.ofNat (eL (h0 aS))).toInt ≤ s.toInt := h3
    rw [ha] at h3
    have h3 : (Int32.ofNat 60).toInt ≤ s.toInt := h3
    exact no (by omega)
  · have h1 : ¬ s.toInt < 0 := h1
    have h2 : ¬ (iv (eG fl_X11 108 (h0 p))).toInt ≤ s.toInt := h2
    rw [g1] at h2
    have h2 : ¬ c.toInt ≤ s.toInt := h2
    have h3 : ¬ (Int32.ofNat (eL (h0 (rv_ (eG fl_X11 15 (h0 p)))))).toInt ≤ s.toInt := h3
    rw [g2] at h3
    have h3 : ¬ (Int32.ofNat (eL (h0 aS))).toInt ≤ s.toInt := h3
    rw [ha] at h3
    have h3 : ¬ (Int32.ofNat 60).toInt ≤ s.toInt := h3
    show h0 = h0 ∧ some (eR (h0 (rv_ (eG fl_X11 15 (h0 p)))) s.toNatClampNeg) = some (if (0 ≤ s.toInt ∧ s.toInt < c.toInt) ∧ s.toInt < 60 then va_rf (g s.toInt.toNat) else .null)
    rw [g2, if_pos ⟨⟨by omega, by omega⟩, by omega⟩]
    show h0 = h0 ∧ some (eR (h0 aS) s.toNatClampNeg) = _
    rw [ha]
    exact ⟨rfl, rfl⟩
/-- the desk's sentences over whole worlds -/
def nS (B : Nat → Nat) (c : Int32) (w : lW) : Prop := bI B w ∧ sN B w ∧ oF B 0 11 1 (.int c) w
theorem nS.keep {B : Nat → Nat} {c : Int32} {rt : Nat} {Wr : List (Nat × Nat)} {T : fT} {cc : ByteArray} {As : List Value} {w w' : lW} {rv : Option Value} (hI : nS B c w) (h : fLr (fq cw_TT cw_SG rt Wr T cc) As w rv w') (hk : bs_K.all (fun x => !(Wr.contains x)) = true) (hw : (11, 1) ∉ Wr) : nS B c w' :=
  ⟨hI.1.keep h hk, sN.keep hI.1 h hk, hI.2.2.keep hI.1 h bl_0 bt_0 hw⟩
def at_ (B : Nat → Nat) (c s : Int32) : Value := if 0 ≤ s.toInt ∧ s.toInt < c.toInt then .ref (B (2 + 2 * s.toInt.toNat)) else .null
theorem cl_at {B : Nat → Nat} {c s : Int32} {w w' : lW} {rv : Option Value} (hI : nS B c w) (hc : c.toInt ≤ 60) (hx : fLr r_X11_sentenceAt [.ref (B 0), .int s] w rv w') : rv = some (at_ B c s) ∧ nS B c w' := by
  obtain ⟨cA, g, ha, hg⟩ := hI.2.1
  obtain ⟨fs, hp, hl, hv⟩ := id hI.2.2
  obtain ⟨fs2, hp2, -, hs⟩ := hI.2.2.ref hI.1 bl_0 (show _ = some (2, 0, 1) from rfl) (k' := 0)
  have e : fs = fs2 := congrArg Prod.snd (Sum.inr.inj (Option.some.inj (hp.symm.trans hp2)))
  subst e
  obtain ⟨-, er⟩ := (s_X11_sentenceAt _ _ _ _ _ _ hx).2 (B 0, fs, c, B 1, cA, g, s) rfl ⟨hp, hv, hs, ha⟩
  refine ⟨?_, hI.keep hx (by decide) (by decide)⟩
  rw [er]
  unfold at_
  by_cases h : 0 ≤ s.toInt ∧ s.toInt < c.toInt
  · rw [if_pos h]
    show some (if (0 ≤ s.toInt ∧ s.toInt < c.toInt) ∧ s.toInt < 60 then va_rf (g s.toInt.toNat) else .null) = _
    rw [if_pos ⟨h, by omega⟩, hg _ (by omega)]
    rfl
  · rw [if_neg h]
    show some (if (0 ≤ s.toInt ∧ s.toInt < c.toInt) ∧ s.toInt < 60 then va_rf (g s.toInt.toNat) else .null) = _
    rw [if_neg (fun z => h z.1)]
theorem at_nul {B : Nat → Nat} {c s : Int32} : at_ B c s = .null ↔ ¬ (0 ≤ s.toInt ∧ s.toInt < c.toInt) := by
  unfold at_
  by_cases h : 0 ≤ s.toInt ∧ s.toInt < c.toInt
  · rw [if_pos h]
    exact ⟨fun z => (by cases z), fun z => absurd h z⟩
  · rw [if_neg h]
    exact ⟨fun _ => h, fun _ => rfl⟩
theorem at_ref {B : Nat → Nat} {c s : Int32} (h : 0 ≤ s.toInt ∧ s.toInt < c.toInt) : at_ B c s = .ref (B (2 + 2 * s.toInt.toNat)) := if_pos h
abbrev mkA : Type := (Nat → Nat) × Int32 × Int32 × Int32 × Int32
def kk_F : mkA → List Value := fun (B, _, how, a, b) => [.ref (B 0), .int how, .int a, .int b]
def kk_P : mkA → lW → Prop := fun (B, c, _, _, _) w => nS B c w ∧ 0 ≤ c.toInt ∧ c.toInt ≤ 60
def mkO (B : Nat → Nat) (c how a b : Int32) (rv : Option Value) (w' : lW) : Prop := ∃ v c' : Int32, rv = some (.int v) ∧ oF B 0 11 1 (.int c') w' ∧ mkQ how a b c v c'
def kk_Q : mkA → lW → Option Value → lW → Prop := fun (B, c, how, a, b) _ rv w' => mkO B c how a b rv w'
def in_k33 (B : Nat → Nat) (c how a b : Int32) : fL_ → List Value → lW → Prop := fun lg vs w => f_sub [(0, false, .ref (B 0)), (1, false, .int how), (4, false, at_ B c a)] lg ∧ vs = [if how.toInt = 0 then at_ B c a else at_ B c b] ∧ nS B c w ∧ 0 ≤ how.toInt ∧ how.toInt ≤ 4
def in_k157 (B : Nat → Nat) (c how a b : Int32) : fL_ → List Value → lW → Prop := fun lg vs w => f_sub [(0, false, .ref (B 0))] lg ∧ vs = [] ∧ nS B c w ∧ (0 ≤ how.toInt ∧ how.toInt ≤ 4) ∧ ((0 ≤ a.toInt ∧ a.toInt < c.toInt) ∧ (how.toInt = 0 ∨ (0 ≤ b.toInt ∧ b.toInt < c.toInt))) ∧ c.toInt < 60
def kk_hd : mkA → lW → fI lW := fun (B, c, how, a, b) _ => [(33, in_k33 B c how a b), (157, in_k157 B c how a b)]
def Sp_mk : fP lW := [(381, 2, fLr r_X11_sentenceAt), (357, 2, fLr r_X1_become), (393, 1, fLr r_X1_turn), (402, 2, fLr r_X1_meet), (411, 2, fLr r_X1_join), (420, 2, fLr r_X1_imply), (429, 2, fLr r_X1_match), (369, 1, fLr r_X11_newSentence)]
theorem Sp_mk_ok : f_sp T_X11_make Sp_mk wW := List.forall_mem_cons.mpr ⟨sp_w rfl (fun _ _ _ _ _ _ h => h.2.2.1), List.forall_mem_cons.mpr ⟨sp_w rfl (fun _ _ _ _ _ _ h => h.2.2.1), List.forall_mem_cons.mpr ⟨sp_w rfl (fun _ _ _ _ _ _ h => h.2.2.1), List.forall_mem_cons.mpr ⟨sp_w rfl (fun _ _ _ _ _ _ h => h.2.2.1), List.forall_mem_cons.mpr ⟨sp_w rfl (fun _ _ _ _ _ _ h => h.2.2.1), List.forall_mem_cons.mpr ⟨sp_w rfl (fun _ _ _ _ _ _ h => h.2.2.1), List.forall_mem_cons.mpr ⟨sp_w rfl (fun _ _ _ _ _ _ h => h.2.2.1), List.forall_mem_cons.mpr ⟨sp_w rfl (fun _ _ _ _ _ _ h => h.2.2.1), fun _ h => absurd h List.not_mem_nil⟩⟩⟩⟩⟩⟩⟩⟩
section
variable {B : Nat → Nat} {c how a b : Int32} {w0 : lW}
set_option maxHeartbeats 4000000 in
theorem kk_h33 (hc60 : 0 ≤ c.toInt ∧ c.toInt ≤ 60) : ∀ (lg : fL_) (vs : List Value) (w : lW), in_k33 B c how a b lg vs w → ∃ (L : fL_) (f : Nat), f_sub L lg ∧ wh oW T_X11_make Sp_mk (kk_Q (B, c, how, a, b) w0) K_X11_make (kk_hd (B, c, how, a, b) w0) f 33 L vs w := by
  rintro lg vs w ⟨hs, rfl, hI, hh⟩
  have e60 : (Int32.ofNat 60).toInt = 60 := by decide
  have unk : ¬ ((0 ≤ a.toInt ∧ a.toInt < c.toInt) ∧ (how.toInt = 0 ∨ (0 ≤ b.toInt ∧ b.toInt < c.toInt))) → mkO B c how a b (some (.int (-1))) w := by
    intro hx
    refine ⟨-1, c, rfl, hI.2.2, ?_⟩
    unfold mkQ
    rw [if_pos hh, if_neg hx]
    exact ⟨rfl, rfl⟩
  refine ⟨_, 80, hs, fun h1 => ?_, fun h1 => ⟨fun h2 => ?_, fun h2 => ?_⟩⟩
  · have h1 : at_ B c a = .null := h1
    exact unk (fun z => at_nul.mp h1 z.1)
  rotate_left
  · have h2 : (if how.toInt = 0 then at_ B c a else at_ B c b) = .null := h2
    refine unk (fun z => ?_)
    split at h2
    · exact at_nul.mp h2 z.1
    · rename_i hn
      exact at_nul.mp h2 (z.2.resolve_left hn)
  have h1 : ¬ at_ B c a = .null := h1
  have h2 : ¬ (if how.toInt = 0 then at_ B c a else at_ B c b) = .null := h2
  have ha : 0 ≤ a.toInt ∧ a.toInt < c.toInt := Classical.byContradiction fun z => h1 (at_nul.mpr z)
  have hb : how.toInt = 0 ∨ (0 ≤ b.toInt ∧ b.toInt < c.toInt) := by
    by_cases hz : how.toInt = 0
    · exact Or.inl hz
    · rw [if_neg hz] at h2
      exact Or.inr (Classical.byContradiction fun z => h2 (at_nul.mpr z))
  refine ⟨fun hf => ?_, fun hf => ?_⟩
  rotate_left
  · have hf : ¬ (iv (eG fl_X11 108 (hof w.1 (B 0)))).toInt < (Int32.ofNat (eL (hof w.1 (rv_ (eG fl_X11 15 (hof w.1 (B 0))))))).toInt := hf
    rw [g_cnt hI.2.2, g_len hI.1 hI.2.2 hI.2.1, e60] at hf
    have hf : ¬ c.toInt < 60 := hf
    refine ⟨-4, c, rfl, hI.2.2, ?_⟩
    unfold mkQ
    rw [if_pos hh, if_pos ⟨ha, hb⟩, if_pos (by omega)]
    exact ⟨rfl, rfl⟩
  have hf : (iv (eG fl_X11 108 (hof w.1 (B 0)))).toInt < (Int32.ofNat (eL (hof w.1 (rv_ (eG fl_X11 15 (hof w.1 (B 0))))))).toInt := hf
  rw [g_cnt hI.2.2, g_len hI.1 hI.2.2 hI.2.1, e60] at hf
  have hf : c.toInt < 60 := hf
  intro rv w1 hx
  have hx : fLr r_X1_become _ w rv w1 := hx
  have hI1 := hI.keep hx (by decide) (by decide)
  obtain rfl : rv = none := hx.2.2.2.2.2
  refine ⟨fun _ => ?_, fun _ _ => ⟨fun _ => ?_, fun _ => ?_, fun _ => ?_, fun _ => ?_, trivial⟩⟩
  · intro rv w2 hx2
    have hx2 : fLr r_X1_match _ w1 rv w2 := hx2
    obtain rfl : rv = none := hx2.2.2.2.2.2
    exact ⟨⟨rfl, trivial⟩, rfl, hI1.keep hx2 (by decide) (by decide), hh, ⟨ha, hb⟩, hf⟩
  · intro rv w2 hx2
    have hx2 : fLr r_X1_turn _ w1 rv w2 := hx2
    obtain rfl : rv = none := hx2.2.2.2.2.2
    exact ⟨⟨rfl, trivial⟩, rfl, hI1.keep hx2 (by decide) (by decide), hh, ⟨ha, hb⟩, hf⟩
  · intro rv w2 hx2
    have hx2 : fLr r_X1_meet _ w1 rv w2 := hx2
    obtain rfl : rv = none := hx2.2.2.2.2.2
    exact ⟨⟨rfl, trivial⟩, rfl, hI1.keep hx2 (by decide) (by decide), hh, ⟨ha, hb⟩, hf⟩
  · intro rv w2 hx2
    have hx2 : fLr r_X1_join _ w1 rv w2 := hx2
    obtain rfl : rv = none := hx2.2.2.2.2.2
    exact ⟨⟨rfl, trivial⟩, rfl, hI1.keep hx2 (by decide) (by decide), hh, ⟨ha, hb⟩, hf⟩
  · intro rv w2 hx2
    have hx2 : fLr r_X1_imply _ w1 rv w2 := hx2
    obtain rfl : rv = none := hx2.2.2.2.2.2
    exact ⟨⟨rfl, trivial⟩, rfl, hI1.keep hx2 (by decide) (by decide), hh, ⟨ha, hb⟩, hf⟩
set_option maxHeartbeats 4000000 in
theorem kk_h157 : ∀ (lg : fL_) (vs : List Value) (w : lW), in_k157 B c how a b lg vs w → ∃ (L : fL_) (f : Nat), f_sub L lg ∧ wh oW T_X11_make Sp_mk (kk_Q (B, c, how, a, b) w0) K_X11_make (kk_hd (B, c, how, a, b) w0) f 157 L vs w := by
  rintro lg vs w ⟨hs, rfl, hI, hh, hab, hf⟩
  refine ⟨_, 40, hs, ?_⟩
  intro rv w1 hx
  have hx : fLr r_X11_newSentence [.ref (B 0)] w rv w1 := hx
  obtain ⟨rfl, a1⟩ := cl_new hI.1 hI.2.2 hx
  refine ⟨c, c + 1, rfl, a1, ?_⟩
  unfold mkQ
  rw [if_pos hh, if_pos hab, if_neg (by omega)]
  exact ⟨rfl, rfl⟩
set_option maxHeartbeats 4000000 in
theorem kk_en {w : lW} (hI : nS B c w) (hc60 : 0 ≤ c.toInt ∧ c.toInt ≤ 60) : wl oW T_X11_make Sp_mk (kk_Q (B, c, how, a, b) w0) K_X11_make (kk_hd (B, c, how, a, b) w0) 40 K_X11_make 0 (la 0 (kk_F (B, c, how, a, b))) [] w := by
  have e4 : (Int32.ofInt 4).toInt = 4 := by decide
  have bad : ¬ (0 ≤ how.toInt ∧ how.toInt ≤ 4) → mkO B c how a b (some (.int (-2))) w := by
    intro hx
    refine ⟨-2, c, rfl, hI.2.2, ?_⟩
    unfold mkQ
    rw [if_neg hx]
    exact ⟨rfl, rfl⟩
  refine ⟨fun h1 => ?_, fun h1 => ⟨fun h2 => ?_, fun h2 => ?_⟩⟩
  · have h1 : how.toInt < 0 := h1
    exact bad (by omega)
  rotate_left
  · have h2 : ¬ how.toInt ≤ (Int32.ofInt 4).toInt := h2
    exact bad (by omega)
  have h1 : ¬ how.toInt < 0 := h1
  have h2 : how.toInt ≤ (Int32.ofInt 4).toInt := h2
  intro rv w1 hx
  have hx : fLr r_X11_sentenceAt [.ref (B 0), .int a] w rv w1 := hx
  obtain ⟨rfl, hI1⟩ := cl_at hI hc60.2 hx
  refine ⟨fun h3 => ?_, fun h3 => ?_⟩
  · have h3 : ¬ how.toInt = 0 := h3
    intro rv w2 hx2
    have hx2 : fLr r_X11_sentenceAt [.ref (B 0), .int b] w1 rv w2 := hx2
    obtain ⟨rfl, hI2⟩ := cl_at hI1 hc60.2 hx2
    refine ⟨⟨rfl, rfl, rfl, trivial⟩, ?_, hI2, (show 0 ≤ how.toInt by omega), (show how.toInt ≤ 4 by omega)⟩
    rw [if_neg h3]
    rfl
  · have h3 : ¬ ¬ how.toInt = 0 := h3
    refine ⟨⟨rfl, rfl, rfl, trivial⟩, ?_, hI1, (show 0 ≤ how.toInt by omega), (show how.toInt ≤ 4 by omega)⟩
    rw [if_pos (Classical.not_not.mp h3)]
    rfl
end
theorem s_X11_make : ∀ (a : mkA) (w w' : lW) (rv : Option Value), fLr r_X11_make (kk_F a) w rv w' → kk_P a w → kk_Q a w rv w' := by
  refine do_ofW kk_F kk_P kk_Q Sp_mk kk_hd 40 fo_X11 Sp_mk_ok k_X11_make (fun a w0 hp => ?_) (fun a w0 hp hd0 => ?_)
  · obtain ⟨B, c, how, a, b⟩ := a
    obtain ⟨-, hc60⟩ := hp
    exact List.forall_mem_cons.mpr ⟨kk_h33 hc60, List.forall_mem_cons.mpr ⟨kk_h157, fun _ h => absurd h List.not_mem_nil⟩⟩
  · obtain ⟨B, c, how, a, b⟩ := a
    exact kk_en hp.1 hp.2
/-! make: the reference's -/
theorem s_X12_noSentence : f_do r_X12_noSentence (fun As h rv h' => ∀ a : Nat × List Value × Int32 × Int32, As = [.ref a.1, .int a.2.2.2] → (h a.1 = some (.inr (12, a.2.1)) ∧ a.2.1.getD 1 .null = .int a.2.2.1) → h' = h ∧ rv = some (.int (if 0 ≤ a.2.2.2.toInt ∧ a.2.2.2.toInt < a.2.2.1.toInt then 0 else 1))) := by
  refine do_ofP (fun a : Nat × List Value × Int32 × Int32 => [.ref a.1, .int a.2.2.2]) (fun a h => h a.1 = some (.inr (12, a.2.1)) ∧ a.2.1.getD 1 .null = .int a.2.2.1) (fun a h rv h' => h' = h ∧ rv = some (.int (if 0 ≤ a.2.2.2.toInt ∧ a.2.2.2.toInt < a.2.2.1.toInt then 0 else 1))) [(457, 3, _)] (fun _ _ => []) 40 fo_X12 (List.forall_mem_cons.mpr ⟨sp_one rfl s_X12_in, no_sp⟩) k_X12_noSentence (fun _ _ _ => no_hd) (fun a h0 hp => ?_)
  obtain ⟨p, fs, c, s⟩ := a
  obtain ⟨hp, hc⟩ := hp
  have hp : h0 p = some (.inr (12, fs)) := hp
  have hc : fs.getD 1 .null = .int c := hc
  have g1 : eG fl_X12 149 (h0 p) = .int c := by
    rw [hp, ← hc]
    rfl
  have e0 : (Int64.ofNat 0).toInt = 0 := by decide
  have e1 : (Int64.ofNat 1).toInt = 1 := by decide
  have c1 := Int32.toInt_lt c
  have c2 := Int32.le_toInt c
  have ec : (c.toInt64 - Int64.ofNat 1).toInt = c.toInt - 1 := by
    rw [Int64.toInt_sub, Int32.toInt_toInt64, e1]
    exact Int.bmod_eq_of_le (by omega) (by omega)
  intro rv h1 hx
  obtain ⟨e2, er⟩ := hx (s.toInt64, Int64.ofNat 0, (iv (eG fl_X12 149 (h0 p))).toInt64 - Int64.ofNat 1) rfl trivial
  have e2 : h1 = h0 := e2
  subst h1
  have er : rv = some (.int (if (Int64.ofNat 0).toInt ≤ s.toInt64.toInt ∧ s.toInt64.toInt ≤ ((iv (eG fl_X12 149 (h0 p))).toInt64 - Int64.ofNat 1).toInt then 1 else 0)) := er
  rw [g1, e0, Int32.toInt_toInt64] at er
  have er : rv = some (.int (if 0 ≤ s.toInt ∧ s.toInt ≤ (c.toInt64 - Int64.ofNat 1).toInt then 1 else 0)) := er
  rw [ec] at er
  subst er
  refine ⟨fun h => ?_, fun h => ?_⟩
  · have h : ¬ (if 0 ≤ s.toInt ∧ s.toInt ≤ c.toInt - 1 then (1 : Int32) else 0).toInt = 0 := h
    have hy : 0 ≤ s.toInt ∧ s.toInt ≤ c.toInt - 1 := by
      by_cases z : 0 ≤ s.toInt ∧ s.toInt ≤ c.toInt - 1
      · exact z
      · rw [if_neg z] at h
        exact absurd rfl h
    refine ⟨rfl, ?_⟩
    show some (Value.int 0) = some (.int (if 0 ≤ s.toInt ∧ s.toInt < c.toInt then 0 else 1))
    rw [if_pos (by omega)]
  · have h : ¬ ¬ (if 0 ≤ s.toInt ∧ s.toInt ≤ c.toInt - 1 then (1 : Int32) else 0).toInt = 0 := h
    have hy : ¬ (0 ≤ s.toInt ∧ s.toInt ≤ c.toInt - 1) := fun z => h (by rw [if_pos z]; decide)
    refine ⟨rfl, ?_⟩
    show some (Value.int 1) = some (.int (if 0 ≤ s.toInt ∧ s.toInt < c.toInt then 0 else 1))
    rw [if_neg (by omega)]
abbrev mmA : Type := (Nat × List Value × Int32) × (Nat × ClassId × (Nat → Int64)) × Int32 × Int32 × Int32
def mm_F : mmA → List Value := fun ((p, _, _), _, how, x, y) => [.ref p, .int how, .int x, .int y]
def mm_P : mmA → fH → Prop := fun ((p, fs, c), (aT, cT, g), _, _, _) h => h p = some (.inr (12, fs)) ∧ (fs.getD 1 .null = .int c ∧ fs.getD 2 .null = .ref aT ∧ 1 < fs.length) ∧ h aT = some (.inl (cT, 240, .inr (.inl g))) ∧ 0 ≤ c.toInt ∧ c.toInt ≤ 60
def mmO (p : Nat) (c how x y : Int32) (rv : Option Value) (h' : fH) : Prop := ∃ v c' : Int32, rv = some (.int v) ∧ (∃ fs' : List Value, h' p = some (.inr (12, fs')) ∧ 1 < fs'.length ∧ fs'.getD 1 .null = .int c') ∧ mkQ how x y c v c'
def mm_Q : mmA → fH → Option Value → fH → Prop := fun ((p, _, c), _, how, x, y) _ rv h' => mmO p c how x y rv h'
def in_q37 (p : Nat) (c how x y : Int32) (h0 : fH) : fL_ → List Value → fH → Prop := fun lg vs w => f_sub [(0, false, .ref p), (1, false, .int how), (2, false, .int x), (3, false, .int y)] lg ∧ vs = [] ∧ w = h0 ∧ (0 ≤ how.toInt ∧ how.toInt ≤ 4) ∧ ((0 ≤ x.toInt ∧ x.toInt < c.toInt) ∧ (how.toInt = 0 ∨ (0 ≤ y.toInt ∧ y.toInt < c.toInt)))
def in_q52 (p : Nat) (c : Int32) (aT : Nat) (cT : ClassId) (how x y : Int32) (h0 : fH) : fL_ → List Value → fH → Prop := fun lg vs w => ∃ (t : Int32) (g : Nat → Int64), f_sub [(4, false, .int t), (0, false, .ref p), (1, false, .int how), (2, false, .int x), (3, false, .int y)] lg ∧ vs = [] ∧ w = hset h0 aT (.inl (cT, 240, .inr (.inl g))) ∧ (0 ≤ how.toInt ∧ how.toInt ≤ 4) ∧ ((0 ≤ x.toInt ∧ x.toInt < c.toInt) ∧ (how.toInt = 0 ∨ (0 ≤ y.toInt ∧ y.toInt < c.toInt))) ∧ c.toInt < 60
def mm_hd : mmA → fH → fI fH := fun ((p, _, c), (aT, cT, _), how, x, y) h0 => [(37, in_q37 p c how x y h0), (52, in_q52 p c aT cT how x y h0)]
theorem tJ_put {h0 w : fH} {aT : Nat} {cT : ClassId} {g : Nat → Int64} (hw : w = hset h0 aT (.inl (cT, 240, .inr (.inl g)))) {E : Value} (hE : E = .ref aT) {i : Nat} {v : Int64} : hset w (rv_ E) (sJ i v (w (rv_ E))) = hset h0 aT (.inl (cT, 240, .inr (.inl (vp_updL g i v)))) := by
  subst hE
  show hset w aT (sJ i v (w aT)) = _
  rw [show w aT = some (.inl (cT, 240, .inr (.inl g))) by rw [hw, hset_at], hw]
  exact hset_hset
def Pi_in : fPh := fun As h rv h' => ∀ a : Int64 × Int64 × Int64, As = [.long a.1, .long a.2.1, .long a.2.2] → True → h' = h ∧ rv = some (.int (if a.2.1.toInt ≤ a.1.toInt ∧ a.1.toInt ≤ a.2.2.toInt then 1 else 0))
def Pi_noSentence : fPh := fun As h rv h' => ∀ a : Nat × List Value × Int32 × Int32, As = [.ref a.1, .int a.2.2.2] → (h a.1 = some (.inr (12, a.2.1)) ∧ a.2.1.getD 1 .null = .int a.2.2.1) → h' = h ∧ rv = some (.int (if 0 ≤ a.2.2.2.toInt ∧ a.2.2.2.toInt < a.2.2.1.toInt then 0 else 1))
def SpMM : fP fH := [(457, 3, Pi_in), (669, 2, Pi_noSentence)]
theorem SpMM_ok : f_sp T_X12_make SpMM wH := List.forall_mem_cons.mpr ⟨sp_one rfl (show f_do r_X12_in Pi_in from s_X12_in), List.forall_mem_cons.mpr ⟨sp_one rfl (show f_do r_X12_noSentence Pi_noSentence from s_X12_noSentence), no_sp⟩⟩
section
variable {p : Nat} {fs : List Value} {c : Int32} {aT : Nat} {cT : ClassId} {g0 : Nat → Int64} {how x y : Int32} {h0 : fH}
set_option maxHeartbeats 4000000 in
theorem mm_en (hp : h0 p = some (.inr (12, fs))) (hc : fs.getD 1 .null = .int c) (hl : 1 < fs.length) : wl oH T_X12_make SpMM (mm_Q ((p, fs, c), (aT, cT, g0), how, x, y) h0) K_X12_make (mm_hd ((p, fs, c), (aT, cT, g0), how, x, y) h0) 40 K_X12_make 0 (la 0 (mm_F ((p, fs, c), (aT, cT, g0), how, x, y))) [] h0 := by
  have e4 : (Int64.ofInt 4).toInt = 4 := by decide
  have e0 : (Int64.ofNat 0).toInt = 0 := by decide
  have unk : (0 ≤ how.toInt ∧ how.toInt ≤ 4) → ¬ ((0 ≤ x.toInt ∧ x.toInt < c.toInt) ∧ (how.toInt = 0 ∨ (0 ≤ y.toInt ∧ y.toInt < c.toInt))) → mmO p c how x y (some (.int (-1))) h0 := by
    intro hh hx
    refine ⟨-1, c, rfl, ⟨fs, hp, hl, hc⟩, ?_⟩
    unfold mkQ
    rw [if_pos hh, if_neg hx]
    exact ⟨rfl, rfl⟩
  intro rv h1 hx
  obtain ⟨e1, er⟩ := hx (how.toInt64, Int64.ofNat 0, Int64.ofInt 4) rfl trivial
  have e1 : h1 = h0 := e1
  subst h1
  have er : rv = some (.int (if (Int64.ofNat 0).toInt ≤ how.toInt64.toInt ∧ how.toInt64.toInt ≤ (Int64.ofInt 4).toInt then 1 else 0)) := er
  rw [e0, e4, Int32.toInt_toInt64] at er
  subst er
  refine ⟨fun h => ?_, fun h => ?_⟩
  rotate_left
  · have h : ¬ ¬ (if 0 ≤ how.toInt ∧ how.toInt ≤ 4 then (1 : Int32) else 0).toInt = 0 := h
    have hy : ¬ (0 ≤ how.toInt ∧ how.toInt ≤ 4) := fun z => h (by rw [if_pos z]; decide)
    refine ⟨-2, c, rfl, ⟨fs, hp, hl, hc⟩, ?_⟩
    unfold mkQ
    rw [if_neg hy]
    exact ⟨rfl, rfl⟩
  have h : ¬ (if 0 ≤ how.toInt ∧ how.toInt ≤ 4 then (1 : Int32) else 0).toInt = 0 := h
  have hh : 0 ≤ how.toInt ∧ how.toInt ≤ 4 := by
    by_cases z : 0 ≤ how.toInt ∧ how.toInt ≤ 4
    · exact z
    · rw [if_neg z] at h
      exact absurd rfl h
  intro rv h1 hx
  obtain ⟨e1, rfl⟩ := hx (p, fs, c, x) rfl ⟨hp, hc⟩
  have e1 : h1 = h0 := e1
  subst h1
  refine ⟨fun h => ?_, fun h => ?_⟩
  · have h : ¬ (if 0 ≤ x.toInt ∧ x.toInt < c.toInt then (0 : Int32) else 1).toInt = 0 := h
    exact unk hh (fun z => h (by rw [if_pos z.1]; decide))
  have h : ¬ ¬ (if 0 ≤ x.toInt ∧ x.toInt < c.toInt then (0 : Int32) else 1).toInt = 0 := h
  have hx : 0 ≤ x.toInt ∧ x.toInt < c.toInt := by
    by_cases z : 0 ≤ x.toInt ∧ x.toInt < c.toInt
    · exact z
    · rw [if_neg z] at h
      exact absurd (by decide) h
  refine ⟨fun h => ?_, fun h => ?_⟩
  · have h : how.toInt ≤ 0 := h
    exact ⟨⟨rfl, rfl, rfl, rfl, trivial⟩, rfl, rfl, hh, hx, Or.inl (show how.toInt = 0 by omega)⟩
  have hn : ¬ how.toInt ≤ 0 := h
  intro rv h1 hx2
  obtain ⟨e1, rfl⟩ := hx2 (p, fs, c, y) rfl ⟨hp, hc⟩
  have e1 : h1 = h0 := e1
  subst h1
  refine ⟨fun h => ?_, fun h => ?_⟩
  · have h : (if 0 ≤ y.toInt ∧ y.toInt < c.toInt then (0 : Int32) else 1).toInt = 0 := h
    have hy : 0 ≤ y.toInt ∧ y.toInt < c.toInt := by
      by_cases z : 0 ≤ y.toInt ∧ y.toInt < c.toInt
      · exact z
      · rw [if_neg z] at h
        exact absurd h (by decide)
    exact ⟨⟨rfl, rfl, rfl, rfl, trivial⟩, rfl, rfl, hh, hx, Or.inr hy⟩
  · have h : ¬ (if 0 ≤ y.toInt ∧ y.toInt < c.toInt then (0 : Int32) else 1).toInt = 0 := h
    exact unk hh (fun z => z.2.elim (fun e => by omega) (fun z => h (by rw [if_pos z]; decide)))
set_option maxHeartbeats 4000000 in
theorem mm_h37 (hp : h0 p = some (.inr (12, fs))) (hc : fs.getD 1 .null = .int c) (hl : 1 < fs.length) (hT : h0 aT = some (.inl (cT, 240, .inr (.inl g0)))) (hc60 : 0 ≤ c.toInt ∧ c.toInt ≤ 60) : ∀ (lg : fL_) (vs : List Value) (w : fH), in_q37 p c how x y h0 lg vs w → ∃ (L : fL_) (f : Nat), f_sub L lg ∧ wh oH T_X12_make SpMM (mm_Q ((p, fs, c), (aT, cT, g0), how, x, y) h0) K_X12_make (mm_hd ((p, fs, c), (aT, cT, g0), how, x, y) h0) f 37 L vs w := by
  rintro lg vs w ⟨hs, rfl, ew, hh, hab⟩
  have ew : w = h0 := ew
  subst w
  have e60 : (Int32.ofInt 60).toInt = 60 := by decide
  have g1 : eG fl_X12 149 (h0 p) = .int c := by
    rw [hp, ← hc]
    rfl
  refine ⟨_, 40, hs, fun h => ?_, fun h => ?_⟩
  · have h : ¬ (iv (eG fl_X12 149 (h0 p))).toInt = (Int32.ofInt 60).toInt := h
    rw [g1, e60] at h
    have h : ¬ c.toInt = 60 := h
    exact ⟨0, g0, ⟨rfl, rfl, rfl, rfl, rfl, trivial⟩, rfl, (hset_self hT).symm, hh, hab, (show c.toInt < 60 by omega)⟩
  · have h : ¬ ¬ (iv (eG fl_X12 149 (h0 p))).toInt = (Int32.ofInt 60).toInt := h
    rw [g1, e60] at h
    have h : ¬ ¬ c.toInt = 60 := h
    refine ⟨-4, c, rfl, ⟨fs, hp, hl, hc⟩, ?_⟩
    unfold mkQ
    rw [if_pos hh, if_pos hab, if_pos (by omega)]
    exact ⟨rfl, rfl⟩
set_option maxHeartbeats 4000000 in
theorem mm_h52 (hp : h0 p = some (.inr (12, fs))) (hc : fs.getD 1 .null = .int c) (hl : 1 < fs.length) (h2 : fs.getD 2 .null = .ref aT) (hT : h0 aT = some (.inl (cT, 240, .inr (.inl g0)))) : ∀ (lg : fL_) (vs : List Value) (w : fH), in_q52 p c aT cT how x y h0 lg vs w → ∃ (L : fL_) (f : Nat), f_sub L lg ∧ wh oH T_X12_make SpMM (mm_Q ((p, fs, c), (aT, cT, g0), how, x, y) h0) K_X12_make (mm_hd ((p, fs, c), (aT, cT, g0), how, x, y) h0) f 52 L vs w := by
  rintro lg vs w ⟨t, g, hs, rfl, ew, hh, hab, hf⟩
  have ew : w = hset h0 aT (.inl (cT, 240, .inr (.inl g))) := ew
  have hab : (0 ≤ x.toInt ∧ x.toInt < c.toInt) ∧ (how.toInt = 0 ∨ (0 ≤ y.toInt ∧ y.toInt < c.toInt)) := hab
  have hf : c.toInt < 60 := hf
  have hne : p ≠ aT := Ne.symm (ne_of_h hp hT)
  have wp : w p = some (.inr (12, fs)) := by rw [ew, hset_ne hne, hp]
  have g1 : eG fl_X12 149 (w p) = .int c := by
    rw [wp, ← hc]
    rfl
  have g2 : eG fl_X12 7 (w p) = .ref aT := by
    rw [wp, ← h2]
    rfl
  refine ⟨_, 80, hs, fun hx => ?_, fun hx => ?_⟩
  · have es : sG pl_X12 149 (.int (iv (eG fl_X12 149 (w p)) + 1)) (w p) = .inr (12, fs.set 1 (.int (c + 1))) := by
      rw [g1, wp]
      rfl
    show mmO p c how x y (some (.int (iv (eG fl_X12 149 (hset w p (sG pl_X12 149 (.int (iv (eG fl_X12 149 (w p)) + 1)) (w p)) p)) - 1))) (hset w p (sG pl_X12 149 (.int (iv (eG fl_X12 149 (w p)) + 1)) (w p)))
    rw [es, hset_at]
    have gv : (fs.set 1 (.int (c + 1))).getD 1 .null = .int (c + 1) := by
      rw [List.getD_eq_getElem?_getD, List.getElem?_set_self hl]
      rfl
    have ev : eG fl_X12 149 (some (.inr (12, fs.set 1 (.int (c + 1))))) = .int (c + 1) := gv
    rw [ev]
    refine ⟨c, c + 1, ?_, ⟨fs.set 1 (.int (c + 1)), hset_at, by rw [List.length_set]; exact hl, gv⟩, ?_⟩
    · show some (Value.int (c + 1 - 1)) = some (.int c)
      rw [Int32.add_sub_cancel]
    · unfold mkQ
      rw [if_pos hh, if_pos hab, if_neg (by omega)]
      exact ⟨rfl, rfl⟩
  · repeat' (first | exact ⟨t + 1, _, ⟨rfl, rfl, rfl, rfl, rfl, trivial⟩, rfl, tJ_put ew g2, hh, hab, hf⟩ | refine ⟨fun _ => ?_, fun _ => ?_⟩)
end
theorem s_X12_make : f_do r_X12_make (fun As h rv h' => ∀ a : mmA, As = mm_F a → mm_P a h → mm_Q a h rv h') := by
  refine do_ofP mm_F mm_P mm_Q SpMM mm_hd 40 fo_X12 SpMM_ok k_X12_make (fun a h0 hp => ?_) (fun a h0 hp => ?_)
  · obtain ⟨⟨p, fs, c⟩, ⟨aT, cT, g0⟩, how, x, y⟩ := a
    obtain ⟨hp, ⟨hc, h2, hl⟩, hT, hc60⟩ := hp
    exact List.forall_mem_cons.mpr ⟨mm_h37 hp hc hl hT hc60, List.forall_mem_cons.mpr ⟨mm_h52 hp hc hl h2 hT, fun _ h => absurd h List.not_mem_nil⟩⟩
  · obtain ⟨⟨p, fs, c⟩, ⟨aT, cT, g0⟩, how, x, y⟩ := a
    obtain ⟨hp, ⟨hc, h2, hl⟩, hT, hc60⟩ := hp
    exact mm_en hp hc hl
