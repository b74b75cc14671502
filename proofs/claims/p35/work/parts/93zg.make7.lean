/-! make, with the sentences' worlds: the reference's -/
def mk7Q (c how x y c' : Int32) (g g' : Nat → Int64) : Prop := (c'.toInt = c.toInt ∧ ∀ u, g' u = g u) ∨ (c'.toInt = c.toInt + 1 ∧ (∀ u, (u < 4 * c.toInt.toNat ∨ 4 * c.toInt.toNat + 4 ≤ u) → g' u = g u) ∧ ∀ u, u < 4 → g' (4 * c.toInt.toNat + u) = opV how (g (4 * x.toInt.toNat + u)) (g (4 * y.toInt.toNat + u)))
def m7O (p : Nat) (c : Int32) (aT : Nat) (g : Nat → Int64) (how x y : Int32) (rv : Option Value) (h' : fH) : Prop := ∃ (v c' : Int32) (g' : Nat → Int64), rv = some (.int v) ∧ (∃ fs' : List Value, h' p = some (.inr (12, fs')) ∧ 1 < fs'.length ∧ fs'.getD 1 .null = .int c') ∧ (∃ cT : ClassId, h' aT = some (.inl (cT, 240, .inr (.inl g')))) ∧ mkQ how x y c v c' ∧ mk7Q c how x y c' g g'
def m7_Q : mmA → fH → Option Value → fH → Prop := fun ((p, _, c), (aT, _, g), how, x, y) _ rv h' => m7O p c aT g how x y rv h'
def s7 (c how x y : Int32) (t : Nat) (g g' : Nat → Int64) : Prop := ∀ u, g' u = if 4 * c.toInt.toNat ≤ u ∧ u < 4 * c.toInt.toNat + t then opV how (g (4 * x.toInt.toNat + (u - 4 * c.toInt.toNat))) (g (4 * y.toInt.toNat + (u - 4 * c.toInt.toNat))) else g u
def g7 (c how x y : Int32) : Prop := (0 ≤ how.toInt ∧ how.toInt ≤ 4) ∧ ((0 ≤ x.toInt ∧ x.toInt < c.toInt) ∧ (how.toInt = 0 ∨ (0 ≤ y.toInt ∧ y.toInt < c.toInt))) ∧ c.toInt < 60
def in_7q52 (p : Nat) (c : Int32) (aT : Nat) (cT : ClassId) (g0 : Nat → Int64) (how x y : Int32) (h0 : fH) : fL_ → List Value → fH → Prop := fun lg vs w => ∃ (t : Int32) (g : Nat → Int64), f_sub [(4, false, .int t), (0, false, .ref p), (1, false, .int how), (2, false, .int x), (3, false, .int y)] lg ∧ vs = [] ∧ w = hset h0 aT (.inl (cT, 240, .inr (.inl g))) ∧ g7 c how x y ∧ (0 ≤ t.toInt ∧ t.toInt ≤ 4) ∧ s7 c how x y t.toInt.toNat g0 g
def in_7q90 (p : Nat) (c : Int32) (aT : Nat) (cT : ClassId) (g0 : Nat → Int64) (how x y : Int32) (h0 : fH) : fL_ → List Value → fH → Prop := fun lg vs w => ∃ (t : Int32) (g : Nat → Int64) (v : Int64), f_sub [(5, true, .long (g0 (4 * x.toInt.toNat + t.toInt.toNat))), (4, false, .int t), (0, false, .ref p), (1, false, .int how), (2, false, .int x), (3, false, .int y)] lg ∧ vs = [.long v] ∧ w = hset h0 aT (.inl (cT, 240, .inr (.inl g))) ∧ g7 c how x y ∧ (0 ≤ t.toInt ∧ t.toInt < 4) ∧ s7 c how x y t.toInt.toNat g0 g ∧ (how.toInt = 0 ∨ v = g0 (4 * y.toInt.toNat + t.toInt.toNat))
def m7_hd : mmA → fH → fI fH := fun ((p, _, c), (aT, cT, g0), how, x, y) h0 => [(37, in_q37 p c how x y h0), (52, in_7q52 p c aT cT g0 how x y h0), (90, in_7q90 p c aT cT g0 how x y h0)]
theorem four_ix {k t : Int32} (h1 : 0 ≤ k.toInt ∧ k.toInt < 60) (h2 : 0 ≤ t.toInt) (h3 : t.toInt ≤ 4) : (Int32.ofInt 4 * k + t).toInt.toNat = 4 * k.toInt.toNat + t.toInt.toNat := by
  have e4 : (Int32.ofInt 4).toInt = 4 := by decide
  have m1 : (Int32.ofInt 4 * k).toInt = 4 * k.toInt := by
    rw [i_mul (by rw [e4]; omega) (by rw [e4]; omega), e4]
  rw [i_add (by rw [m1]; omega) (by rw [m1]; omega), m1]
  omega
theorem s7_end {c how x y : Int32} {g g' : Nat → Int64} (h : s7 c how x y 4 g g') (hc : 0 ≤ c.toInt) {c' : Int32} (hc' : c'.toInt = c.toInt + 1) : mk7Q c how x y c' g g' := by
  refine Or.inr ⟨hc', fun u hu => ?_, fun u hu => ?_⟩
  · rw [h u, if_neg (by omega)]
  · rw [h (4 * c.toInt.toNat + u), if_pos ⟨by omega, by omega⟩, Nat.add_sub_cancel_left]
theorem s7_step {c how x y : Int32} {g0 g : Nat → Int64} {t : Nat} (h : s7 c how x y t g0 g) {v : Int64} (hv : v = opV how (g0 (4 * x.toInt.toNat + t)) (g0 (4 * y.toInt.toNat + t))) : s7 c how x y (t + 1) g0 (vp_updL g (4 * c.toInt.toNat + t) v) := by
  intro u
  unfold vp_updL
  by_cases e : u = 4 * c.toInt.toNat + t
  · rw [if_pos e, if_pos ⟨by omega, by omega⟩, hv, show u - 4 * c.toInt.toNat = t by omega]
  · rw [if_neg e, h u]
    by_cases hl : 4 * c.toInt.toNat ≤ u ∧ u < 4 * c.toInt.toNat + t
    · rw [if_pos hl, if_pos ⟨hl.1, by omega⟩]
    · rw [if_neg hl, if_neg (by omega)]
section
variable {p : Nat} {fs : List Value} {c : Int32} {aT : Nat} {cT : ClassId} {g0 : Nat → Int64} {how x y : Int32} {h0 : fH}
theorem m7_keep (hT : h0 aT = some (.inl (cT, 240, .inr (.inl g0)))) {v : Int32} (hp : h0 p = some (.inr (12, fs))) (hc : fs.getD 1 .null = .int c) (hl : 1 < fs.length) (hq : mkQ how x y c v c) : m7O p c aT g0 how x y (some (.int v)) h0 := ⟨v, c, g0, rfl, ⟨fs, hp, hl, hc⟩, ⟨cT, hT⟩, hq, Or.inl ⟨rfl, fun _ => rfl⟩⟩
set_option maxHeartbeats 4000000 in
theorem m7_en (hp : h0 p = some (.inr (12, fs))) (hc : fs.getD 1 .null = .int c) (hl : 1 < fs.length) (hT : h0 aT = some (.inl (cT, 240, .inr (.inl g0)))) : wl oH T_X12_make SpMM (m7_Q ((p, fs, c), (aT, cT, g0), how, x, y) h0) K_X12_make (m7_hd ((p, fs, c), (aT, cT, g0), how, x, y) h0) 40 K_X12_make 0 (la 0 (mm_F ((p, fs, c), (aT, cT, g0), how, x, y))) [] h0 := by
  have e4 : (Int64.ofInt 4).toInt = 4 := by decide
  have e0 : (Int64.ofNat 0).toInt = 0 := by decide
  have unk : (0 ≤ how.toInt ∧ how.toInt ≤ 4) → ¬ ((0 ≤ x.toInt ∧ x.toInt < c.toInt) ∧ (how.toInt = 0 ∨ (0 ≤ y.toInt ∧ y.toInt < c.toInt))) → m7O p c aT g0 how x y (some (.int (-1))) h0 := by
    intro hh hx
    refine m7_keep hT hp hc hl ?_
    unfold mkQ
    rw [if_pos hh, if_neg hx]
    exact ⟨rfl, rfl⟩
  intro rv h1 hx
  obtain ⟨e1, er⟩ := hx (how.toInt64, Int64.ofNat 0, Int64.ofInt 4) rfl trivial
  have e1 : h1 = h0 := e1
  subst h1
  have er : rv = some (.int (if (Int64.ofNat 0).toInt ≤ how.toInt64.toInt ∧ how.toInt64.toInt ≤ (Int64.ofInt 4).toInt then 1 else 0)) := er
  rw [e0, e4, Int32.toInt_toInt64] at er
  subst er
  refine ⟨fun h => ?_, fun h => ?_⟩
  rotate_left
  · have h : ¬ ¬ (if 0 ≤ how.toInt ∧ how.toInt ≤ 4 then (1 : Int32) else 0).toInt = 0 := h
    have hy : ¬ (0 ≤ how.toInt ∧ how.toInt ≤ 4) := fun z => h (by rw [if_pos z]; decide)
    refine m7_keep hT hp hc hl ?_
    unfold mkQ
    rw [if_neg hy]
    exact ⟨rfl, rfl⟩
  have h : ¬ (if 0 ≤ how.toInt ∧ how.toInt ≤ 4 then (1 : Int32) else 0).toInt = 0 := h
  have hh : 0 ≤ how.toInt ∧ how.toInt ≤ 4 := by
    by_cases z : 0 ≤ how.toInt ∧ how.toInt ≤ 4
    · exact z
    · rw [if_neg z] at h
      exact absurd rfl h
  intro rv h1 hx
  obtain ⟨e1, rfl⟩ := hx (p, fs, c, x) rfl ⟨hp, hc⟩
  have e1 : h1 = h0 := e1
  subst h1
  refine ⟨fun h => ?_, fun h => ?_⟩
  · have h : ¬ (if 0 ≤ x.toInt ∧ x.toInt < c.toInt then (0 : Int32) else 1).toInt = 0 := h
    exact unk hh (fun z => h (by rw [if_pos z.1]; decide))
  have h : ¬ ¬ (if 0 ≤ x.toInt ∧ x.toInt < c.toInt then (0 : Int32) else 1).toInt = 0 := h
  have hx : 0 ≤ x.toInt ∧ x.toInt < c.toInt := by
    by_cases z : 0 ≤ x.toInt ∧ x.toInt < c.toInt
    · exact z
    · rw [if_neg z] at h
      exact absurd (by decide) h
  refine ⟨fun h => ?_, fun h => ?_⟩
  · have h : how.toInt ≤ 0 := h
    exact ⟨⟨rfl, rfl, rfl, rfl, trivial⟩, rfl, rfl, hh, hx, Or.inl (show how.toInt = 0 by omega)⟩
  have hn : ¬ how.toInt ≤ 0 := h
  intro rv h1 hx2
  obtain ⟨e1, rfl⟩ := hx2 (p, fs, c, y) rfl ⟨hp, hc⟩
  have e1 : h1 = h0 := e1
  subst h1
  refine ⟨fun h => ?_, fun h => ?_⟩
  · have h : (if 0 ≤ y.toInt ∧ y.toInt < c.toInt then (0 : Int32) else 1).toInt = 0 := h
    have hy : 0 ≤ y.toInt ∧ y.toInt < c.toInt := by
      by_cases z : 0 ≤ y.toInt ∧ y.toInt < c.toInt
      · exact z
      · rw [if_neg z] at h
        exact absurd h (by decide)
    exact ⟨⟨rfl, rfl, rfl, rfl, trivial⟩, rfl, rfl, hh, hx, Or.inr hy⟩
  · have h : ¬ (if 0 ≤ y.toInt ∧ y.toInt < c.toInt then (0 : Int32) else 1).toInt = 0 := h
    exact unk hh (fun z => z.2.elim (fun e => by omega) (fun z => h (by rw [if_pos z]; decide)))
set_option maxHeartbeats 4000000 in
theorem m7_h37 (hp : h0 p = some (.inr (12, fs))) (hc : fs.getD 1 .null = .int c) (hl : 1 < fs.length) (hT : h0 aT = some (.inl (cT, 240, .inr (.inl g0)))) (hc60 : 0 ≤ c.toInt ∧ c.toInt ≤ 60) : ∀ (lg : fL_) (vs : List Value) (w : fH), in_q37 p c how x y h0 lg vs w → ∃ (L : fL_) (f : Nat), f_sub L lg ∧ wh oH T_X12_make SpMM (m7_Q ((p, fs, c), (aT, cT, g0), how, x, y) h0) K_X12_make (m7_hd ((p, fs, c), (aT, cT, g0), how, x, y) h0) f 37 L vs w := by
  rintro lg vs w ⟨hs, rfl, ew, hh, hab⟩
  have ew : w = h0 := ew
  subst w
  have e60 : (Int32.ofInt 60).toInt = 60 := by decide
  have g1 : eG fl_X12 149 (h0 p) = .int c := by
    rw [hp, ← hc]
    rfl
  refine ⟨_, 40, hs, fun h => ?_, fun h => ?_⟩
  · have h : ¬ (iv (eG fl_X12 149 (h0 p))).toInt = (Int32.ofInt 60).toInt := h
    rw [g1, e60] at h
    have h : ¬ c.toInt = 60 := h
    refine ⟨0, g0, ⟨rfl, rfl, rfl, rfl, rfl, trivial⟩, rfl, (hset_self hT).symm, ⟨hh, hab, by omega⟩, by decide, fun u => ?_⟩
    rw [if_neg (by show ¬ (4 * c.toInt.toNat ≤ u ∧ u < 4 * c.toInt.toNat + 0); omega)]
  · have h : ¬ ¬ (iv (eG fl_X12 149 (h0 p))).toInt = (Int32.ofInt 60).toInt := h
    rw [g1, e60] at h
    have h : ¬ ¬ c.toInt = 60 := h
    refine m7_keep hT hp hc hl ?_
    unfold mkQ
    rw [if_pos hh, if_pos hab, if_pos (by omega)]
    exact ⟨rfl, rfl⟩
set_option maxHeartbeats 4000000 in
theorem m7_h52 (hp : h0 p = some (.inr (12, fs))) (hc : fs.getD 1 .null = .int c) (hl : 1 < fs.length) (h2 : fs.getD 2 .null = .ref aT) (hT : h0 aT = some (.inl (cT, 240, .inr (.inl g0)))) : ∀ (lg : fL_) (vs : List Value) (w : fH), in_7q52 p c aT cT g0 how x y h0 lg vs w → ∃ (L : fL_) (f : Nat), f_sub L lg ∧ wh oH T_X12_make SpMM (m7_Q ((p, fs, c), (aT, cT, g0), how, x, y) h0) K_X12_make (m7_hd ((p, fs, c), (aT, cT, g0), how, x, y) h0) f 52 L vs w := by
  rintro lg vs w ⟨t, g, hs, rfl, ew, hg, ht, hsv⟩
  have ew : w = hset h0 aT (.inl (cT, 240, .inr (.inl g))) := ew
  have hsv : s7 c how x y t.toInt.toNat g0 g := hsv
  obtain ⟨hh, hab, hf⟩ := id hg
  have t0 : 0 ≤ t.toInt := ht.1
  have t4 : t.toInt ≤ 4 := ht.2
  have hne : p ≠ aT := Ne.symm (ne_of_h hp hT)
  have wp : w p = some (.inr (12, fs)) := by rw [ew, hset_ne hne, hp]
  have wT : w aT = some (.inl (cT, 240, .inr (.inl g))) := by rw [ew, hset_at]
  have g1 : eG fl_X12 149 (w p) = .int c := by
    rw [wp, ← hc]
    rfl
  have g2 : eG fl_X12 7 (w p) = .ref aT := by
    rw [wp, ← h2]
    rfl
  have e4 : (Int32.ofInt 4).toInt = 4 := by decide
  refine ⟨_, 80, hs, fun hx => ?_, fun hx => ?_⟩
  · have hx : (Int32.ofInt 4).toInt ≤ t.toInt := hx
    rw [e4] at hx
    rw [t_end t4 hx] at hsv
    have es : sG pl_X12 149 (.int (iv (eG fl_X12 149 (w p)) + 1)) (w p) = .inr (12, fs.set 1 (.int (c + 1))) := by
      rw [g1, wp]
      rfl
    show m7O p c aT g0 how x y (some (.int (iv (eG fl_X12 149 (hset w p (sG pl_X12 149 (.int (iv (eG fl_X12 149 (w p)) + 1)) (w p)) p)) - 1))) (hset w p (sG pl_X12 149 (.int (iv (eG fl_X12 149 (w p)) + 1)) (w p)))
    rw [es, hset_at]
    have gv : (fs.set 1 (.int (c + 1))).getD 1 .null = .int (c + 1) := by
      rw [List.getD_eq_getElem?_getD, List.getElem?_set_self hl]
      rfl
    have ev : eG fl_X12 149 (some (.inr (12, fs.set 1 (.int (c + 1))))) = .int (c + 1) := gv
    rw [ev]
    have c0 : 0 ≤ c.toInt := by
      have h3 := hab.1
      omega
    refine ⟨c, c + 1, g, ?_, ⟨fs.set 1 (.int (c + 1)), hset_at, by rw [List.length_set]; exact hl, gv⟩, ⟨cT, by rw [hset_ne (Ne.symm hne)]; exact wT⟩, ?_, s7_end hsv c0 (i_inc c0 (by omega))⟩
    · show some (Value.int (c + 1 - 1)) = some (.int c)
      rw [Int32.add_sub_cancel]
    · unfold mkQ
      rw [if_pos hh, if_pos hab, if_neg (by omega)]
      exact ⟨rfl, rfl⟩
  · have hx : ¬ (Int32.ofInt 4).toInt ≤ t.toInt := hx
    rw [e4] at hx
    have t3 : t.toInt < 4 := by omega
    have rd : ∀ k : Int32, 0 ≤ k.toInt → k.toInt < c.toInt → eJ (w (rv_ (eG fl_X12 7 (w p)))) (Int32.ofInt 4 * k + t).toNatClampNeg = g0 (4 * k.toInt.toNat + t.toInt.toNat) := by
      intro k k0 kc
      rw [g2]
      show eJ (w aT) (Int32.ofInt 4 * k + t).toInt.toNat = _
      rw [wT, four_ix ⟨k0, by omega⟩ t0 t4]
      show g (4 * k.toInt.toNat + t.toInt.toNat) = _
      rw [hsv, if_neg (by omega)]
    have rx := rd x hab.1.1 hab.1.2
    refine ⟨fun hz => ?_, fun hz => ?_⟩
    · have hz : ¬ how.toInt = 0 := hz
      have hy := hab.2.resolve_left hz
      have ry := rd y hy.1 hy.2
      refine ⟨t, g, _, ⟨?_, rfl, rfl, rfl, rfl, rfl, trivial⟩, rfl, ew, hg, ⟨t0, t3⟩, hsv, Or.inr ry⟩
      show some (true, Value.long (eJ (w (rv_ (eG fl_X12 7 (w p)))) (Int32.ofInt 4 * x + t).toNatClampNeg)) = _
      rw [rx]
    · have hz : ¬ ¬ how.toInt = 0 := hz
      refine ⟨t, g, _, ⟨?_, rfl, rfl, rfl, rfl, rfl, trivial⟩, rfl, ew, hg, ⟨t0, t3⟩, hsv, Or.inl (Classical.not_not.mp hz)⟩
      show some (true, Value.long (eJ (w (rv_ (eG fl_X12 7 (w p)))) (Int32.ofInt 4 * x + t).toNatClampNeg)) = _
      rw [rx]
set_option maxHeartbeats 4000000 in
theorem m7_h90 (hp : h0 p = some (.inr (12, fs))) (hc : fs.getD 1 .null = .int c) (h2 : fs.getD 2 .null = .ref aT) (hT : h0 aT = some (.inl (cT, 240, .inr (.inl g0)))) : ∀ (lg : fL_) (vs : List Value) (w : fH), in_7q90 p c aT cT g0 how x y h0 lg vs w → ∃ (L : fL_) (f : Nat), f_sub L lg ∧ wh oH T_X12_make SpMM (m7_Q ((p, fs, c), (aT, cT, g0), how, x, y) h0) K_X12_make (m7_hd ((p, fs, c), (aT, cT, g0), how, x, y) h0) f 90 L vs w := by
  rintro lg vs w ⟨t, g, v, hs, rfl, ew, hg, ht, hsv, hv⟩
  have ew : w = hset h0 aT (.inl (cT, 240, .inr (.inl g))) := ew
  have hsv : s7 c how x y t.toInt.toNat g0 g := hsv
  obtain ⟨hh, hab, hf⟩ := id hg
  have t0 : 0 ≤ t.toInt := ht.1
  have t3 : t.toInt < 4 := ht.2
  have c0 : 0 ≤ c.toInt := by
    have h3 := hab.1
    omega
  have hne : p ≠ aT := Ne.symm (ne_of_h hp hT)
  have wp : w p = some (.inr (12, fs)) := by rw [ew, hset_ne hne, hp]
  have wT : w aT = some (.inl (cT, 240, .inr (.inl g))) := by rw [ew, hset_at]
  have g1 : eG fl_X12 149 (w p) = .int c := by
    rw [wp, ← hc]
    rfl
  have g2 : eG fl_X12 7 (w p) = .ref aT := by
    rw [wp, ← h2]
    rfl
  obtain ⟨i1, i2, i3⟩ := t_inc t0 t3
  have e1 : (Int32.ofInt 1).toInt = 1 := by decide
  have e2 : (Int32.ofInt 2).toInt = 2 := by decide
  have e3 : (Int32.ofInt 3).toInt = 3 := by decide
  have fin : ∀ (z : Int64) (L : fL_), f_sub [(4, false, .int (t + 1)), (0, false, .ref p), (1, false, .int how), (2, false, .int x), (3, false, .int y)] L → z = opV how (g0 (4 * x.toInt.toNat + t.toInt.toNat)) (g0 (4 * y.toInt.toNat + t.toInt.toNat)) → in_7q52 p c aT cT g0 how x y h0 L [] (hset w (rv_ (eG fl_X12 7 (w p))) (sJ (Int32.ofInt 4 * iv (eG fl_X12 149 (w p)) + t).toNatClampNeg z (w (rv_ (eG fl_X12 7 (w p)))))) := by
    intro z L hL hz
    have s8 := s7_step hsv hz
    rw [← i3] at s8
    refine ⟨t + 1, vp_updL g (4 * c.toInt.toNat + t.toInt.toNat) z, hL, rfl, ?_, hg, ⟨i1, i2⟩, s8⟩
    rw [tJ_put ew g2, g1]
    show hset h0 aT (.inl (cT, 240, .inr (.inl (vp_updL g (Int32.ofInt 4 * c + t).toInt.toNat z)))) = _
    rw [four_ix ⟨c0, hf⟩ t0 (by omega)]
  have hvy : ¬ how.toInt = 0 → v = g0 (4 * y.toInt.toNat + t.toInt.toNat) := fun h => hv.resolve_left h
  refine ⟨_, 80, hs, fun hz => ⟨fun ha => ⟨fun hb => ⟨fun hd => ?_, fun hd => ?_⟩, fun hb => ?_⟩, fun ha => ?_⟩, fun hz => ?_⟩
  · have hz : ¬ how.toInt = 0 := hz
    have ha : ¬ how.toInt = (Int32.ofInt 1).toInt := ha
    rw [e1] at ha
    have hb : ¬ how.toInt = (Int32.ofInt 2).toInt := hb
    rw [e2] at hb
    have hd : ¬ how.toInt = (Int32.ofInt 3).toInt := hd
    rw [e3] at hd
    refine fin ((g0 (4 * x.toInt.toNat + t.toInt.toNat) ^^^ v) ^^^ m1_) _ ⟨rfl, rfl, rfl, rfl, rfl, trivial⟩ ?_
    unfold opV
    rw [if_neg hz, if_neg ha, if_neg hb, if_neg hd, hvy hz]
    rfl
  · have hz : ¬ how.toInt = 0 := hz
    have ha : ¬ how.toInt = (Int32.ofInt 1).toInt := ha
    rw [e1] at ha
    have hb : ¬ how.toInt = (Int32.ofInt 2).toInt := hb
    rw [e2] at hb
    have hd : ¬ ¬ how.toInt = (Int32.ofInt 3).toInt := hd
    rw [e3] at hd
    refine fin ((g0 (4 * x.toInt.toNat + t.toInt.toNat) ^^^ m1_) ||| v) _ ⟨rfl, rfl, rfl, rfl, rfl, trivial⟩ ?_
    unfold opV
    rw [if_neg hz, if_neg ha, if_neg hb, if_pos (Classical.not_not.mp hd), hvy hz]
    rfl
  · have hz : ¬ how.toInt = 0 := hz
    have ha : ¬ how.toInt = (Int32.ofInt 1).toInt := ha
    rw [e1] at ha
    have hb : ¬ ¬ how.toInt = (Int32.ofInt 2).toInt := hb
    rw [e2] at hb
    refine fin (g0 (4 * x.toInt.toNat + t.toInt.toNat) ||| v) _ ⟨rfl, rfl, rfl, rfl, rfl, trivial⟩ ?_
    unfold opV
    rw [if_neg hz, if_neg ha, if_pos (Classical.not_not.mp hb), hvy hz]
    rfl
  · have hz : ¬ how.toInt = 0 := hz
    have ha : ¬ ¬ how.toInt = (Int32.ofInt 1).toInt := ha
    rw [e1] at ha
    refine fin (g0 (4 * x.toInt.toNat + t.toInt.toNat) &&& v) _ ⟨rfl, rfl, rfl, rfl, rfl, trivial⟩ ?_
    unfold opV
    rw [if_neg hz, if_pos (Classical.not_not.mp ha), hvy hz]
    rfl
  · have hz : ¬ ¬ how.toInt = 0 := hz
    refine fin (g0 (4 * x.toInt.toNat + t.toInt.toNat) ^^^ m1_) _ ⟨rfl, rfl, rfl, rfl, rfl, trivial⟩ ?_
    unfold opV
    rw [if_pos (Classical.not_not.mp hz)]
    rfl
end
theorem s7_X12_make : f_do r_X12_make (fun As h rv h' => ∀ a : mmA, As = mm_F a → mm_P a h → m7_Q a h rv h') := by
  refine do_ofP mm_F mm_P m7_Q SpMM m7_hd 40 fo_X12 SpMM_ok k_X12_make (fun a h0 hp => ?_) (fun a h0 hp => ?_)
  · obtain ⟨⟨p, fs, c⟩, ⟨aT, cT, g0⟩, how, x, y⟩ := a
    obtain ⟨hp, ⟨hc, h2, hl⟩, hT, hc60⟩ := hp
    exact List.forall_mem_cons.mpr ⟨m7_h37 hp hc hl hT hc60, List.forall_mem_cons.mpr ⟨m7_h52 hp hc hl h2 hT, List.forall_mem_cons.mpr ⟨m7_h90 hp hc h2 hT, fun _ h => absurd h List.not_mem_nil⟩⟩⟩
  · obtain ⟨⟨p, fs, c⟩, ⟨aT, cT, g0⟩, how, x, y⟩ := a
    obtain ⟨hp, ⟨hc, h2, hl⟩, hT, hc60⟩ := hp
    exact m7_en hp hc hl hT
