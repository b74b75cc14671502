/-! worlds, truth and compare answer alike -/
theorem rt_of {B : Nat → Nat} {w : lW} {c : Int32} {g : Nat → Int64} (hb : bI B w) (hm : oF B 343 12 1 (.int c) w) (hg : aJ B 344 240 g w) : ∃ (fs : List Value) (cT : ClassId), rt ((B 343, fs), B 344, cT, g) (hof w.1) ∧ fs.getD 1 .null = .int c := by
  obtain ⟨cT, hT⟩ := hg
  obtain ⟨fs, hp, hl, hv⟩ := id hm
  obtain ⟨fs2, hp2, -, hA⟩ := hm.ref hb bl_343 (show _ = some (2, 0, 344) from rfl) (k' := 2)
  have e : fs = fs2 := congrArg Prod.snd (Sum.inr.inj (Option.some.inj (hp.symm.trans hp2)))
  subst e
  exact ⟨fs, cT, ⟨hp, hA, hT⟩, hv⟩
/-- what a call finds, and the next one after it -/
theorem j6_of {B : Nat → Nat} {rt_ : Nat} {Wr : List (Nat × Nat)} {T : fT} {cc : ByteArray} {As : List Value} {w w1 : lW} {rv : Option Value} (hJ : J6 B w) (h1 : fLr (fq cw_TT cw_SG rt_ Wr T cc) As w rv w1) (hk : bs_K.all (fun x => !(Wr.contains x)) = true) (h17 : (17, 1) ∉ Wr) (h45 : (45, 0) ∉ Wr) : ∃ (c : Int32) (W : Nat → Nat → Int64) (fs : List Value) (cT : ClassId) (g : Nat → Int64), (nS B c w ∧ wS B W w ∧ 0 ≤ c.toInt ∧ c.toInt ≤ 60) ∧ (rt ((B 343, fs), B 344, cT, g) (hof w1.1) ∧ fs.getD 1 .null = .int c) ∧ ∀ i : Nat, (i : Int) < c.toInt → ∀ x, x < 4 → W i x = g (4 * i + x) := by
  have hb := hJ.1.b
  have hb1 : bI B w1 := hb.keep h1 hk
  obtain ⟨tys, hw, -⟩ := h1.2.2.2.2.1
  obtain ⟨h4, c, W, g, hc, hW, hg, hE⟩ := hJ
  obtain ⟨c0, hc0, hm⟩ := h4.1.2
  have ec : c0 = c := hc0.uni hc
  subst ec
  obtain ⟨fs, cT, hrt, hcc⟩ := rt_of hb1 (hm.keep hb h1 bl_343 bt_343 h17) (hg.keep hb h1 bl_344 bt_344 (by decide) h45)
  exact ⟨c0, W, fs, cT, g, ⟨⟨hb, sN.of hb hw, hc⟩, hW, rng_0 hb hw hc⟩, ⟨hrt, hcc⟩, hE⟩
theorem pk6_worlds {B : Nat → Nat} : ∀ (w w1 w2 : lW) (rv1 rv2 : Option Value) (s : Int32), J6 B w → fLr r_X11_worlds [.ref (B 0), .int s] w rv1 w1 → fLr r_X12_worlds [.ref (B 343), .int s] w1 rv2 w2 → rv1 = rv2 ∧ J6 B w2 := by
  intro w w1 w2 rv1 rv2 s hJ h1 h2
  refine ⟨?_, fr6 h2 (fr6 h1 hJ (by decide) (by decide) (by decide) (by decide) (by decide)) (by decide) (by decide) (by decide) (by decide) (by decide)⟩
  obtain ⟨c, W, fs, cT, g, hP, ⟨hrt, hcc⟩, hE⟩ := j6_of hJ h1 (by decide) (by decide) (by decide)
  have a1 : rv1 = some (.int (w1V c s (szA bcV (W s.toInt.toNat) 4))) := s_X11_worlds ((B, c, W), s) w w1 rv1 h1 hP
  have a2 : rv2 = some (.int (w1V c s (szA (fun v => cbA v 64) (rtW g s) 4))) := ((s_X12_worlds _ _ _ _ _ _ h2).2 (((B 343, fs), B 344, cT, g), c, s) rfl ⟨hrt, hcc, hP.2.2.2⟩).2
  rw [a1, a2]
  unfold w1V
  by_cases hs : 0 ≤ s.toInt ∧ s.toInt < c.toInt
  · rw [if_pos hs, if_pos hs, szA_eq (b2 := fun v => cbA v 64) (f2 := rtW g s) (fun _ => bc_cb) (fun x hx => hE s.toInt.toNat (by omega) x hx)]
  · rw [if_neg hs, if_neg hs]
theorem pk6_truth {B : Nat → Nat} : ∀ (w w1 w2 : lW) (rv1 rv2 : Option Value) (s k : Int32), J6 B w → fLr r_X11_truth [.ref (B 0), .int s, .int k] w rv1 w1 → fLr r_X12_truth [.ref (B 343), .int s, .int k] w1 rv2 w2 → rv1 = rv2 ∧ J6 B w2 := by
  intro w w1 w2 rv1 rv2 s k hJ h1 h2
  refine ⟨?_, fr6 h2 (fr6 h1 hJ (by decide) (by decide) (by decide) (by decide) (by decide)) (by decide) (by decide) (by decide) (by decide) (by decide)⟩
  obtain ⟨c, W, fs, cT, g, hP, ⟨hrt, hcc⟩, hE⟩ := j6_of hJ h1 (by decide) (by decide) (by decide)
  have a1 : rv1 = some (.int (t1V c s k (hasW (W s.toInt.toNat) k))) := s_X11_truth ((B, c, W), s, k) w w1 rv1 h1 hP
  have a2 : rv2 = some (.int (t1V c s k (hasW (rtW g s) k))) := ((s_X12_truth _ _ _ _ _ _ h2).2 (((B 343, fs), B 344, cT, g), c, s, k) rfl ⟨hrt, hcc, hP.2.2.2⟩).2
  rw [a1, a2]
  unfold t1V
  by_cases hs : (0 ≤ s.toInt ∧ s.toInt < c.toInt) ∧ (0 ≤ k.toInt ∧ k.toInt < 256)
  · have e : hasW (W s.toInt.toNat) k = hasW (rtW g s) k := by
      show hbB (W s.toInt.toNat (k.toInt.toNat / 64)) _ = hbB (g (4 * s.toInt.toNat + k.toInt.toNat / 64)) _
      rw [hE s.toInt.toNat (by omega) _ (by omega)]
    rw [if_pos hs, if_pos hs, e]
  · rw [if_neg hs, if_neg hs]
theorem pk6_compare {B : Nat → Nat} : ∀ (w w1 w2 : lW) (rv1 rv2 : Option Value) (a b : Int32), J6 B w → fLr r_X11_compare [.ref (B 0), .int a, .int b] w rv1 w1 → fLr r_X12_compare [.ref (B 343), .int a, .int b] w1 rv2 w2 → rv1 = rv2 ∧ J6 B w2 := by
  intro w w1 w2 rv1 rv2 a b hJ h1 h2
  refine ⟨?_, fr6 h2 (fr6 h1 hJ (by decide) (by decide) (by decide) (by decide) (by decide)) (by decide) (by decide) (by decide) (by decide) (by decide)⟩
  obtain ⟨c, W, fs, cT, g, hP, ⟨hrt, hcc⟩, hE⟩ := j6_of hJ h1 (by decide) (by decide) (by decide)
  have a1 : rv1 = some (.int (c1V c a b (c1W (W a.toInt.toNat) (W b.toInt.toNat)))) := s_X11_compare ((B, c, W), a, b) w w1 rv1 h1 hP
  have a2 : rv2 = some (.int (c1V c a b (c1W (rtW g a) (rtW g b)))) := ((s_X12_compare _ _ _ _ _ _ h2).2 (((B 343, fs), B 344, cT, g), c, a, b) rfl ⟨hrt, hcc, hP.2.2.2⟩).2
  rw [a1, a2]
  unfold c1V
  by_cases hs : (0 ≤ a.toInt ∧ a.toInt < c.toInt) ∧ (0 ≤ b.toInt ∧ b.toInt < c.toInt)
  · have ea : ∀ x, x < 4 → W a.toInt.toNat x = rtW g a x := fun x hx => hE a.toInt.toNat (by omega) x hx
    have eb : ∀ x, x < 4 → W b.toInt.toNat x = rtW g b x := fun x hx => hE b.toInt.toNat (by omega) x hx
    have e : c1W (W a.toInt.toNat) (W b.toInt.toNat) = c1W (rtW g a) (rtW g b) := by
      unfold c1W
      rw [allB_eq (o := o_in) ea eb, allB_eq (o := o_in) eb ea, allB_eq (o := o_meet) ea eb]
    rw [if_pos hs, if_pos hs, e]
  · rw [if_neg hs, if_neg hs]
