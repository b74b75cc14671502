/-! the two's sheets hang together -/
abbrev lW : Type := va_W × List Nat
def fLr (r : fR) : List Value → lW → Option Value → lW → Prop := fun As w rv w' => r As w.1 w.2 rv w'.1 w'.2
theorem bl_384 : lp_L2[384]? = some (1, 0, 60, []) := lp_at_ok (by decide +kernel)
theorem bt_384 : lp_sh[384]? = some 85 := by decide +kernel
theorem bl_R {i : Nat} (hi : i < 4) : lp_L2[336 + i]? = some (1, 0, 60, []) := by
  rcases (show i = 0 ∨ i = 1 ∨ i = 2 ∨ i = 3 by omega) with rfl | rfl | rfl | rfl
  · exact bl_336
  · exact bl_337
  · exact bl_338
  · exact bl_339
theorem bt_R {i : Nat} (hi : i < 4) : lp_sh[336 + i]? = some 20 := by
  rcases (show i = 0 ∨ i = 1 ∨ i = 2 ∨ i = 3 by omega) with rfl | rfl | rfl | rfl
  · exact bt_336
  · exact bt_337
  · exact bt_338
  · exact bt_339
theorem dk_of {B : Nat → Nat} {tys : List (ClassId × FieldType)} {ws : va_W} {sh : List Nat} (h : Bs B ws sh) (hd : f_dj ws) (hw : ck_wo tys cw_TT cw_SG ws sh) : ∃ d : dk_, d.p = B 0 ∧ d.aL = B 340 ∧ d.aS = B 341 ∧ (∀ i, i < 4 → (d.R i).1 = B (336 + i)) ∧ dk_at d (hof ws) := by
  obtain ⟨fs, h0, -, hr⟩ := h.ov hd hw bl_0 bt_0 (show cw_TT[11]? = some (0, 11, _, _) from rfl)
  obtain ⟨cL, l, h1⟩ := h.iv hd hw bl_340 bt_340 (show cw_TT[22]? = some (1, 4, _, _) from rfl)
  obtain ⟨cS, z, h2⟩ := h.iv hd hw bl_341 bt_341 (show cw_TT[23]? = some (1, 4, _, _) from rfl)
  obtain ⟨cC, g, h3, h4⟩ := h.rv hd hw bl_335 bt_335 (show cw_TT[21]? = some (5, 4, _, _) from rfl)
  obtain ⟨c0, f0, r0⟩ := h.iv hd hw bl_336 bt_336 (show cw_TT[20]? = some (1, 60, _, _) from rfl)
  obtain ⟨c1, f1, r1⟩ := h.iv hd hw bl_337 bt_337 (show cw_TT[20]? = some (1, 60, _, _) from rfl)
  obtain ⟨c2, f2, r2⟩ := h.iv hd hw bl_338 bt_338 (show cw_TT[20]? = some (1, 60, _, _) from rfl)
  obtain ⟨c3, f3, r3⟩ := h.iv hd hw bl_339 bt_339 (show cw_TT[20]? = some (1, 60, _, _) from rfl)
  refine ⟨⟨B 0, fs, B 340, cL, l, B 341, cS, z, B 335, cC, g, fun i => match i with
    | 0 => (B 336, c0, f0)
    | 1 => (B 337, c1, f1)
    | 2 => (B 338, c2, f2)
    | _ => (B 339, c3, f3)⟩, rfl, rfl, rfl, fun i hi => ?_, h0, ⟨hr 11 340 rfl, h1⟩, ⟨hr 12 341 rfl, h2⟩, ⟨hr 10 335 rfl, h3⟩, h.ne hd bl_340 bl_341 (by decide), fun i hi => ?_⟩
  · rcases (show i = 0 ∨ i = 1 ∨ i = 2 ∨ i = 3 by omega) with rfl | rfl | rfl | rfl <;> rfl
  · rcases (show i = 0 ∨ i = 1 ∨ i = 2 ∨ i = 3 by omega) with rfl | rfl | rfl | rfl
    · exact ⟨h4 0 336 rfl, r0, h.ne hd bl_336 bl_340 (by decide), h.ne hd bl_336 bl_341 (by decide)⟩
    · exact ⟨h4 1 337 rfl, r1, h.ne hd bl_337 bl_340 (by decide), h.ne hd bl_337 bl_341 (by decide)⟩
    · exact ⟨h4 2 338 rfl, r2, h.ne hd bl_338 bl_340 (by decide), h.ne hd bl_338 bl_341 (by decide)⟩
    · exact ⟨h4 3 339 rfl, r3, h.ne hd bl_339 bl_340 (by decide), h.ne hd bl_339 bl_341 (by decide)⟩
theorem md_of {B : Nat → Nat} {tys : List (ClassId × FieldType)} {ws : va_W} {sh : List Nat} (h : Bs B ws sh) (hd : f_dj ws) (hw : ck_wo tys cw_TT cw_SG ws sh) : ∃ (d : md_) (q : Nat × ClassId × (Nat → Int32)), d.p = B 343 ∧ d.aZ = B 381 ∧ d.aL = B 382 ∧ d.aC = B 383 ∧ q.1 = B 384 ∧ md_at d (hof ws) ∧ mh_at d q (hof ws) := by
  obtain ⟨fs, h0, -, hr⟩ := h.ov hd hw bl_343 bt_343 (show cw_TT[17]? = some (0, 12, _, _) from rfl)
  obtain ⟨cZ, z, h1⟩ := h.iv hd hw bl_381 bt_381 (show cw_TT[82]? = some (1, 4, _, _) from rfl)
  obtain ⟨cL, l, h2⟩ := h.iv hd hw bl_382 bt_382 (show cw_TT[83]? = some (1, 4, _, _) from rfl)
  obtain ⟨cC, f, h3⟩ := h.iv hd hw bl_383 bt_383 (show cw_TT[84]? = some (1, 240, _, _) from rfl)
  obtain ⟨cH, g, h4⟩ := h.iv hd hw bl_384 bt_384 (show cw_TT[85]? = some (1, 60, _, _) from rfl)
  exact ⟨⟨B 343, fs, B 381, cZ, z, B 382, cL, l, B 383, cC, f⟩, ⟨B 384, cH, g⟩, rfl, rfl, rfl, rfl, rfl, ⟨h0, ⟨hr 64 381 rfl, h1⟩, ⟨hr 65 382 rfl, h2⟩, ⟨hr 66 383 rfl, h3⟩, h.ne hd bl_381 bl_382 (by decide), h.ne hd bl_381 bl_383 (by decide), h.ne hd bl_382 bl_383 (by decide)⟩, hr 67 384 rfl, h4, h.ne hd bl_384 bl_383 (by decide)⟩
def c48 (l s z y : Nat → Int32) (r : Nat → Nat → Int32) (f : Nat → Int32) : Prop := ∀ k, k < 4 → ((l k).toInt = -1 ∧ (z k).toInt < 0) ∨ ((0 ≤ (l k).toInt ∧ y k = l k ∧ s k = z k ∧ 0 ≤ (z k).toInt ∧ (z k).toInt ≤ 60) ∧ ∀ j, j < (z k).toInt.toNat → r k j = f (60 * k + j))
theorem c48.r {l s z y : Nat → Int32} {r r' : Nat → Nat → Int32} {f : Nat → Int32} (h : c48 l s z y r f) (hr : ∀ k j, k < 4 → r' k j = r k j) : c48 l s z y r' f := by
  intro k hk
  rcases h k hk with h | ⟨h1, h2⟩
  · exact Or.inl h
  · exact Or.inr ⟨h1, fun j hj => by rw [hr k j hk]; exact h2 j hj⟩
theorem c48.lose {l s z y : Nat → Int32} {r : Nat → Nat → Int32} {f : Nat → Int32} (h : c48 l s z y r f) (k : Nat) : c48 (upd l k (-1)) s (upd z k (-1)) y r f := by
  intro i hi
  by_cases e : i = k
  · rw [e, upd_at, upd_at]
    exact Or.inl (by decide)
  · rw [upd_ne e, upd_ne e]
    exact h i hi
theorem c48.sheet {l s z y : Nat → Int32} {r r' : Nat → Nat → Int32} {f f' f0 : Nat → Int32} (h : c48 l s z y r f) (k : Nat) {lane n : Int32} (h1 : 0 ≤ lane.toInt) (h2 : 0 ≤ n.toInt) (h3 : n.toInt ≤ 60) (h0 : ∀ j, j < 60 → f0 j = 0) (hf : ∀ x, f' x = if 60 * k ≤ x ∧ x < 60 * k + n.toInt.toNat then 0 else f x) (hr : ∀ i j, i < 4 → r' i j = if i = k then f0 j else r i j) : c48 (upd l k lane) (upd s k n) (upd z k n) (upd y k lane) r' f' := by
  intro i hi
  by_cases e : i = k
  · rw [e, upd_at, upd_at, upd_at, upd_at]
    refine Or.inr ⟨⟨h1, rfl, rfl, h2, h3⟩, fun j hj => ?_⟩
    rw [hr k j (by omega), if_pos rfl, h0 j (by omega), hf, if_pos (by omega)]
  · rw [upd_ne e, upd_ne e, upd_ne e, upd_ne e]
    rcases h i hi with h | ⟨g1, g2⟩
    · exact Or.inl h
    · refine Or.inr ⟨g1, fun j hj => ?_⟩
      rw [hr i j hi, if_neg e, hf, if_neg (by omega)]
      exact g2 j hj
theorem c48.put {l s z y : Nat → Int32} {r r' : Nat → Nat → Int32} {f : Nat → Int32} (h : c48 l s z y r f) (k i : Nat) (u : Int32) (h1 : i < 60) (hr : ∀ x j, x < 4 → r' x j = if x = k then upd (r k) i u j else r x j) : c48 l s z y r' (upd f (60 * k + i) u) := by
  intro x hx
  rcases h x hx with h | ⟨g1, g2⟩
  · exact Or.inl h
  · refine Or.inr ⟨g1, fun j hj => ?_⟩
    rw [hr x j hx]
    by_cases e : x = k
    · rw [if_pos e]
      by_cases e2 : j = i
      · rw [e2, e, upd_at, upd_at]
      · rw [upd_ne e2, upd_ne (by omega), ← e]
        exact g2 j hj
    · rw [if_neg e, upd_ne (by omega)]
      exact g2 j hj
theorem c48.copy {l s z y : Nat → Int32} {r r' : Nat → Nat → Int32} {f f' : Nat → Int32} (h : c48 l s z y r f) {k o i j n : Nat} (hk : k < 4) (hlk : 0 ≤ (z k).toInt) (hik : i + n ≤ (z k).toInt.toNat) (hjo : j + n ≤ 60) (hf : ∀ x, f' x = if 60 * o + j ≤ x ∧ x < 60 * o + j + n then f (60 * k + i + (x - (60 * o + j))) else f x) (hr : ∀ x y, x < 4 → r' x y = if x = o then va_cpy (r k) (r o) i j n y else r x y) : c48 l s z y r' f' := by
  intro x hx
  rcases h x hx with h | ⟨g1, g2⟩
  · exact Or.inl h
  · refine Or.inr ⟨g1, fun v hv => ?_⟩
    rw [hr x v hx]
    by_cases e : x = o
    · rw [if_pos e]
      unfold va_cpy
      by_cases e2 : j ≤ v ∧ v < j + n
      · rw [if_pos e2, hf, if_pos (by omega)]
        rcases h k hk with ⟨q1, q2⟩ | ⟨q1, q2⟩
        · omega
        · rw [q2 (i + (v - j)) (by omega)]
          congr 1
          omega
      · rw [if_neg e2, hf, if_neg (by omega), ← e]
        exact g2 v hv
    · rw [if_neg e, hf, if_neg (by omega)]
      exact g2 v hv
def rowsB (B : Nat → Nat) (h : fH) : Nat → Nat → Int32 := fun k j => eI (h (B (336 + k))) j
def j48 (B : Nat → Nat) (h : fH) : Prop := c48 (eI (h (B 340))) (eI (h (B 341))) (eI (h (B 381))) (eI (h (B 382))) (rowsB B h) (eI (h (B 383)))
def J48 (B : Nat → Nat) : lW → Prop := fun w => f_dj w.1 ∧ Bs B w.1 w.2 ∧ j48 B (hof w.1)
theorem fr48 {B : Nat → Nat} {rt : Nat} {Wr : List (Nat × Nat)} {T : fT} {cc : ByteArray} {As : List Value} {w w' : lW} {rv : Option Value} (h : fLr (fq cw_TT cw_SG rt Wr T cc) As w rv w') (hJ : J48 B w) (hk : bs_K.all (fun x => !(Wr.contains x)) = true) (hw : (20, 0) ∉ Wr ∧ (22, 0) ∉ Wr ∧ (23, 0) ∉ Wr ∧ (82, 0) ∉ Wr ∧ (83, 0) ∉ Wr ∧ (84, 0) ∉ Wr) : J48 B w' := by
  obtain ⟨-, hd, hd', hx, -, -⟩ := (show fq cw_TT cw_SG rt Wr T cc As w.1 w.2 rv w'.1 w'.2 from h)
  refine ⟨hd', hJ.2.1.ex hx hk, ?_⟩
  unfold j48
  rw [hJ.2.1.same hd hd' hx bl_340 bt_340 (by decide) hw.2.1, hJ.2.1.same hd hd' hx bl_341 bt_341 (by decide) hw.2.2.1, hJ.2.1.same hd hd' hx bl_381 bt_381 (by decide) hw.2.2.2.1, hJ.2.1.same hd hd' hx bl_382 bt_382 (by decide) hw.2.2.2.2.1, hJ.2.1.same hd hd' hx bl_383 bt_383 (by decide) hw.2.2.2.2.2]
  refine c48.r hJ.2.2 (fun k j hk4 => ?_)
  unfold rowsB
  rw [hJ.2.1.same hd hd' hx (bl_R hk4) (bt_R hk4) (by decide) hw.1]
theorem pk_lose {B : Nat → Nat} : ∀ (w w1 w2 : lW) (rv1 rv2 : Option Value) (k : Int32), J48 B w → fLr r_X11_lose [.ref (B 0), .int k] w rv1 w1 → fLr r_X12_lose [.ref (B 343), .int k] w1 rv2 w2 → rv1 = rv2 ∧ J48 B w2 := by
  intro w w1 w2 rv1 rv2 k hJ h1 h2
  obtain ⟨hd, hB, hj⟩ := hJ
  have h1 : r_X11_lose [.ref (B 0), .int k] w.1 w.2 rv1 w1.1 w1.2 := h1
  have h2 : r_X12_lose [.ref (B 343), .int k] w1.1 w1.2 rv2 w2.1 w2.2 := h2
  obtain ⟨hd1, s1⟩ := s_X11_lose _ _ _ _ _ _ h1
  obtain ⟨hd2, s2⟩ := s_X12_lose _ _ _ _ _ _ h2
  obtain ⟨tys, hw, -⟩ := h1.2.2.2.2.1
  obtain ⟨tys1, hw1, -⟩ := h2.2.2.2.2.1
  have hB1 := hB.ex h1.2.2.2.1 (by decide)
  have hB2 := hB1.ex h2.2.2.2.1 (by decide)
  obtain ⟨d, dp, dL, dS, dR, hp⟩ := dk_of hB hd hw
  obtain ⟨m, q, mp, mZ, mL, mC, mH, hm, hh⟩ := md_of hB1 hd1 hw1
  have hl0 := hp.2.1.2
  rw [dL] at hl0
  have hs0 := hp.2.2.1.2
  rw [dS] at hs0
  have hz0 := hm.2.1.2
  rw [mZ] at hz0
  have hy0 := hm.2.2.1.2
  rw [mL] at hy0
  have hf0 := hm.2.2.2.1.2
  rw [mC] at hf0
  have hr0 : ∀ i, i < 4 → hof w.1 (B (336 + i)) = some (.inl ((d.R i).2.1, 60, .inl (d.R i).2.2)) := fun i hi => by
    rw [← dR i hi]
    exact (hp.2.2.2.2.2 i hi).2.1
  have s1 := s1 (d.p, k, d.fs, d.aL, d.cL, d.l) (by rw [dp]) ⟨hp.1, hp.2.1.1, hp.2.1.2⟩
  have s2 := s2 (m.p, k, m.fs, m.aZ, m.cZ, m.z) (by rw [mp]) ⟨hm.1, hm.2.1.1, hm.2.1.2⟩
  dsimp only at s1 s2
  by_cases hk : 0 ≤ k.toInt ∧ k.toInt < 4
  · rw [if_pos hk] at s1 s2
    obtain ⟨e1, f1⟩ := s1
    obtain ⟨e2, f2⟩ := s2
    rw [dL] at f1
    rw [mZ] at f2
    rw [f1, hset_ne (hB.ne hd bl_381 bl_340 (by decide))] at hz0
    rw [f1, hset_ne (hB.ne hd bl_382 bl_340 (by decide))] at hy0
    rw [f1, hset_ne (hB.ne hd bl_383 bl_340 (by decide))] at hf0
    have hj' : c48 d.l d.z m.z m.l (fun k j => eI (hof w.1 (B (336 + k))) j) m.f := by
      have hj := hj
      unfold j48 at hj
      rw [hl0, hs0, hz0, hy0, hf0] at hj
      exact hj
    refine ⟨?_, hd2, hB2, ?_⟩
    · rw [e1, e2]
      have c := hj' k.toInt.toNat (by omega)
      rcases c with ⟨c1, c2⟩ | ⟨⟨c1, -, -, c4, -⟩, -⟩
      · rw [if_pos c1, if_pos c2]
      · rw [if_neg (by omega), if_neg (by omega)]
    · unfold j48
      rw [f2, hset_at, hset_ne (hB.ne hd bl_340 bl_381 (by decide)), hset_ne (hB.ne hd bl_341 bl_381 (by decide)), hset_ne (hB.ne hd bl_382 bl_381 (by decide)), hset_ne (hB.ne hd bl_383 bl_381 (by decide)), f1, hset_at, hset_ne (hB.ne hd bl_341 bl_340 (by decide)), hset_ne (hB.ne hd bl_382 bl_340 (by decide)), hset_ne (hB.ne hd bl_383 bl_340 (by decide))]
      rw [hs0, hy0, hf0]
      have hj2 := (hj'.lose k.toInt.toNat)
      show c48 (upd d.l k.toInt.toNat (-1)) d.z (upd m.z k.toInt.toNat (-1)) m.l _ m.f
      refine c48.r (r := fun k j => eI (hof w.1 (B (336 + k))) j) hj2 (fun i j hi => ?_)
      unfold rowsB
      rw [hset_ne (hB.ne hd (bl_R hi) bl_381 (by omega)), hset_ne (hB.ne hd (bl_R hi) bl_340 (by omega))]
  · rw [if_neg hk] at s1 s2
    refine ⟨by rw [s1.1, s2.1], hd2, hB2, ?_⟩
    rw [s2.2, s1.2]
    exact hj
theorem pk_sheet {B : Nat → Nat} : ∀ (w w1 w2 : lW) (rv1 rv2 : Option Value) (k lane n : Int32), J48 B w → fLr r_X11_sheet [.ref (B 0), .int k, .int lane, .int n] w rv1 w1 → fLr r_X12_sheet [.ref (B 343), .int k, .int lane, .int n] w1 rv2 w2 → rv1 = rv2 ∧ J48 B w2 := by
  intro w w1 w2 rv1 rv2 k lane n hJ h1 h2
  obtain ⟨hd, hB, hj⟩ := hJ
  have h1 : r_X11_sheet [.ref (B 0), .int k, .int lane, .int n] w.1 w.2 rv1 w1.1 w1.2 := h1
  have h2 : r_X12_sheet [.ref (B 343), .int k, .int lane, .int n] w1.1 w1.2 rv2 w2.1 w2.2 := h2
  obtain ⟨hd1, s1⟩ := s_X11_sheet _ _ _ _ _ _ h1
  obtain ⟨hd2, s2⟩ := s_X12_sheet _ _ _ _ _ _ h2
  obtain ⟨tys, hw, -⟩ := h1.2.2.2.2.1
  obtain ⟨tys1, hw1, -⟩ := h2.2.2.2.2.1
  have hB1 := hB.ex h1.2.2.2.1 (by decide)
  have hB2 := hB1.ex h2.2.2.2.1 (by decide)
  obtain ⟨d, dp, dL, dS, dR, hp⟩ := dk_of hB hd hw
  obtain ⟨m, q, mp, mZ, mL, mC, mH, hm, hh⟩ := md_of hB1 hd1 hw1
  have hl0 := hp.2.1.2
  rw [dL] at hl0
  have hs0 := hp.2.2.1.2
  rw [dS] at hs0
  have hz0 := hm.2.1.2
  rw [mZ] at hz0
  have hy0 := hm.2.2.1.2
  rw [mL] at hy0
  have hf0 := hm.2.2.2.1.2
  rw [mC] at hf0
  have hr0 : ∀ i, i < 4 → hof w.1 (B (336 + i)) = some (.inl ((d.R i).2.1, 60, .inl (d.R i).2.2)) := fun i hi => by
    rw [← dR i hi]
    exact (hp.2.2.2.2.2 i hi).2.1
  have s1 := s1 (d, k, lane, n) (by rw [dp]) hp
  have s2 := s2 (m, k, lane, n) (by rw [mp]) hm
  dsimp only at s1 s2
  unfold Q11_sheet at s1
  unfold Q12_sheet at s2
  have un : ∀ e e' : va_E, hof w1.1 = hset (hof w.1) d.p e → hof w2.1 = hset (hof w1.1) m.p e' → j48 B (hof w2.1) := by
    intro e e' f1 f2
    unfold j48
    rw [f2, mp, hset_ne (hB.ne hd bl_340 bl_343 (by decide)), hset_ne (hB.ne hd bl_341 bl_343 (by decide)), hset_ne (hB.ne hd bl_381 bl_343 (by decide)), hset_ne (hB.ne hd bl_382 bl_343 (by decide)), hset_ne (hB.ne hd bl_383 bl_343 (by decide)), f1, dp, hset_ne (hB.ne hd bl_340 bl_0 (by decide)), hset_ne (hB.ne hd bl_341 bl_0 (by decide)), hset_ne (hB.ne hd bl_381 bl_0 (by decide)), hset_ne (hB.ne hd bl_382 bl_0 (by decide)), hset_ne (hB.ne hd bl_383 bl_0 (by decide))]
    refine c48.r hj (fun k j hk4 => ?_)
    unfold rowsB
    rw [hset_ne (hB.ne hd (bl_R hk4) bl_343 (by omega)), hset_ne (hB.ne hd (bl_R hk4) bl_0 (by omega))]
  by_cases hk : 0 ≤ k.toInt ∧ k.toInt < 4
  · rw [if_pos hk] at s1 s2
    by_cases hl : (0 ≤ lane.toInt ∧ lane.toInt < 3) ∧ n.toInt ≤ 60
    · rw [if_pos hl] at s1 s2
      by_cases hn : 0 ≤ n.toInt
      · rw [if_pos hn] at s1 s2
        obtain ⟨e1, f, fz, f1⟩ := s1
        obtain ⟨e2, g, gz, f2⟩ := s2
        have k4 : k.toInt.toNat < 4 := by omega
        rw [dR _ k4, dS, dL, dp] at f1
        unfold md_w at f2
        rw [mp, mC, mL, mZ] at f2
        rw [f1, hset_ne (hB.ne hd bl_381 (bl_R k4) (by omega)), hset_ne (hB.ne hd bl_381 bl_341 (by decide)), hset_ne (hB.ne hd bl_381 bl_340 (by decide)), hset_ne (hB.ne hd bl_381 bl_0 (by decide))] at hz0
        rw [f1, hset_ne (hB.ne hd bl_382 (bl_R k4) (by omega)), hset_ne (hB.ne hd bl_382 bl_341 (by decide)), hset_ne (hB.ne hd bl_382 bl_340 (by decide)), hset_ne (hB.ne hd bl_382 bl_0 (by decide))] at hy0
        rw [f1, hset_ne (hB.ne hd bl_383 (bl_R k4) (by omega)), hset_ne (hB.ne hd bl_383 bl_341 (by decide)), hset_ne (hB.ne hd bl_383 bl_340 (by decide)), hset_ne (hB.ne hd bl_383 bl_0 (by decide))] at hf0
        have hj' : c48 d.l d.z m.z m.l (fun k j => eI (hof w.1 (B (336 + k))) j) m.f := by
          have hj := hj
          unfold j48 at hj
          rw [hl0, hs0, hz0, hy0, hf0] at hj
          exact hj
        refine ⟨by rw [e1, e2], hd2, hB2, ?_⟩
        unfold j48
        rw [f2, hset_ne (hB.ne hd bl_340 bl_343 (by decide)), hset_ne (hB.ne hd bl_341 bl_343 (by decide)), hset_ne (hB.ne hd bl_381 bl_343 (by decide)), hset_ne (hB.ne hd bl_382 bl_343 (by decide)), hset_ne (hB.ne hd bl_383 bl_343 (by decide)), hset_ne (hB.ne hd bl_340 bl_383 (by decide)), hset_ne (hB.ne hd bl_341 bl_383 (by decide)), hset_ne (hB.ne hd bl_381 bl_383 (by decide)), hset_ne (hB.ne hd bl_382 bl_383 (by decide)), hset_at, hset_ne (hB.ne hd bl_340 bl_382 (by decide)), hset_ne (hB.ne hd bl_341 bl_382 (by decide)), hset_ne (hB.ne hd bl_381 bl_382 (by decide)), hset_at, hset_ne (hB.ne hd bl_340 bl_381 (by decide)), hset_ne (hB.ne hd bl_341 bl_381 (by decide)), hset_at, f1, hset_ne (hB.ne hd bl_340 (bl_R k4) (by omega)), hset_ne (hB.ne hd bl_341 (bl_R k4) (by omega)), hset_ne (hB.ne hd bl_340 bl_341 (by decide)), hset_at, hset_at]
        show c48 (upd d.l k.toInt.toNat lane) (upd d.z k.toInt.toNat n) (upd m.z k.toInt.toNat n) (upd m.l k.toInt.toNat lane) _ g
        refine c48.sheet (r := fun k j => eI (hof w.1 (B (336 + k))) j) (f0 := f) hj' k.toInt.toNat hl.1.1 hn hl.2 fz gz (fun i j hi => ?_)
        unfold rowsB
        rw [hset_ne (hB.ne hd (bl_R hi) bl_343 (by omega)), hset_ne (hB.ne hd (bl_R hi) bl_383 (by omega)), hset_ne (hB.ne hd (bl_R hi) bl_382 (by omega)), hset_ne (hB.ne hd (bl_R hi) bl_381 (by omega))]
        by_cases e : i = k.toInt.toNat
        · rw [e, if_pos rfl, hset_at]
          rfl
        · rw [if_neg e, hset_ne (hB.ne hd (bl_R hi) (bl_R k4) (by omega)), hset_ne (hB.ne hd (bl_R hi) bl_341 (by omega)), hset_ne (hB.ne hd (bl_R hi) bl_340 (by omega)), hset_ne (hB.ne hd (bl_R hi) bl_0 (by omega))]
      · rw [if_neg hn] at s1 s2
        exact ⟨by rw [s1.1, s2.1], hd2, hB2, un _ _ s1.2 s2.2⟩
    · rw [if_neg hl] at s1 s2
      exact ⟨by rw [s1.1, s2.1], hd2, hB2, un _ _ s1.2 s2.2⟩
  · rw [if_neg hk] at s1 s2
    exact ⟨by rw [s1.1, s2.1], hd2, hB2, un _ _ s1.2 s2.2⟩
theorem six_ix {k i : Int32} (h1 : 0 ≤ k.toInt ∧ k.toInt < 4) (h2 : 0 ≤ i.toInt) (h3 : i.toInt ≤ 60) : (60 * k + i).toInt.toNat = 60 * k.toInt.toNat + i.toInt.toNat := by
  have e60 : (60 : Int32).toInt = 60 := by decide
  have m1 : (60 * k).toInt = 60 * k.toInt := by
    rw [i_mul (by rw [e60]; omega) (by rw [e60]; omega), e60]
  have m2 : (60 * k + i).toInt = 60 * k.toInt + i.toInt := by
    rw [i_add (by rw [m1]; omega) (by rw [m1]; omega), m1]
  rw [m2]
  omega
theorem pk_put {B : Nat → Nat} : ∀ (w w1 w2 : lW) (rv1 rv2 : Option Value) (k i v : Int32), J48 B w → fLr r_X11_put [.ref (B 0), .int k, .int i, .int v] w rv1 w1 → fLr r_X12_put [.ref (B 343), .int k, .int i, .int v] w1 rv2 w2 → rv1 = rv2 ∧ J48 B w2 := by
  intro w w1 w2 rv1 rv2 k i v hJ h1 h2
  obtain ⟨hd, hB, hj⟩ := hJ
  have h1 : r_X11_put [.ref (B 0), .int k, .int i, .int v] w.1 w.2 rv1 w1.1 w1.2 := h1
  have h2 : r_X12_put [.ref (B 343), .int k, .int i, .int v] w1.1 w1.2 rv2 w2.1 w2.2 := h2
  obtain ⟨hd1, s1⟩ := s_X11_put _ _ _ _ _ _ h1
  obtain ⟨hd2, s2⟩ := s_X12_put _ _ _ _ _ _ h2
  obtain ⟨tys, hw, -⟩ := h1.2.2.2.2.1
  obtain ⟨tys1, hw1, -⟩ := h2.2.2.2.2.1
  have hB1 := hB.ex h1.2.2.2.1 (by decide)
  have hB2 := hB1.ex h2.2.2.2.1 (by decide)
  obtain ⟨d, dp, dL, dS, dR, hp⟩ := dk_of hB hd hw
  obtain ⟨m, q, mp, mZ, mL, mC, mH, hm, hh⟩ := md_of hB1 hd1 hw1
  have hl0 := hp.2.1.2
  rw [dL] at hl0
  have hs0 := hp.2.2.1.2
  rw [dS] at hs0
  have hz0 := hm.2.1.2
  rw [mZ] at hz0
  have hy0 := hm.2.2.1.2
  rw [mL] at hy0
  have hf0 := hm.2.2.2.1.2
  rw [mC] at hf0
  have hr0 : ∀ i, i < 4 → hof w.1 (B (336 + i)) = some (.inl ((d.R i).2.1, 60, .inl (d.R i).2.2)) := fun i hi => by
    rw [← dR i hi]
    exact (hp.2.2.2.2.2 i hi).2.1
  have s1 := s1 (d, k, i, v) (by rw [dp]) hp
  have s2 := s2 (m, k, i, v) (by rw [mp]) hm
  dsimp only at s1 s2
  unfold Q11_put at s1
  unfold Q12_put at s2
  have un : ∀ e e' : va_E, hof w1.1 = hset (hof w.1) d.p e → hof w2.1 = hset (hof w1.1) m.p e' → j48 B (hof w2.1) := by
    intro e e' f1 f2
    unfold j48
    rw [f2, mp, hset_ne (hB.ne hd bl_340 bl_343 (by decide)), hset_ne (hB.ne hd bl_341 bl_343 (by decide)), hset_ne (hB.ne hd bl_381 bl_343 (by decide)), hset_ne (hB.ne hd bl_382 bl_343 (by decide)), hset_ne (hB.ne hd bl_383 bl_343 (by decide)), f1, dp, hset_ne (hB.ne hd bl_340 bl_0 (by decide)), hset_ne (hB.ne hd bl_341 bl_0 (by decide)), hset_ne (hB.ne hd bl_381 bl_0 (by decide)), hset_ne (hB.ne hd bl_382 bl_0 (by decide)), hset_ne (hB.ne hd bl_383 bl_0 (by decide))]
    refine c48.r hj (fun k j hk4 => ?_)
    unfold rowsB
    rw [hset_ne (hB.ne hd (bl_R hk4) bl_343 (by omega)), hset_ne (hB.ne hd (bl_R hk4) bl_0 (by omega))]
  by_cases hk : 0 ≤ k.toInt ∧ k.toInt < 4
  · rw [if_pos hk] at s1 s2
    have k4 : k.toInt.toNat < 4 := by omega
    have ft : ∃ e e1, hof w1.1 = hset (hof w.1) d.p e ∨ hof w1.1 = hset (hset (hof w.1) d.p e) (d.R k.toInt.toNat).1 e1 := by
      split at s1
      · exact ⟨_, .inr (0, []), Or.inl s1.2⟩
      · split at s1
        · exact ⟨_, _, Or.inr s1.2⟩
        · exact ⟨_, .inr (0, []), Or.inl s1.2⟩
    have rd : ∀ q c, lp_L2[q]? = some c → 343 ≤ q → hof w1.1 (B q) = hof w.1 (B q) := by
      intro q c hq h343
      obtain ⟨e, e1, f1 | f1⟩ := ft
      · rw [f1, dp, hset_ne (hB.ne hd hq bl_0 (by omega))]
      · rw [f1, dR _ k4, dp, hset_ne (hB.ne hd hq (bl_R k4) (by omega)), hset_ne (hB.ne hd hq bl_0 (by omega))]
    rw [rd 381 _ bl_381 (by decide)] at hz0
    rw [rd 382 _ bl_382 (by decide)] at hy0
    rw [rd 383 _ bl_383 (by decide)] at hf0
    have hj' : c48 d.l d.z m.z m.l (fun k j => eI (hof w.1 (B (336 + k))) j) m.f := by
      have hj := hj
      unfold j48 at hj
      rw [hl0, hs0, hz0, hy0, hf0] at hj
      exact hj
    rcases hj' k.toInt.toNat k4 with ⟨c1, c2⟩ | ⟨⟨c1, cy, c3, c4, c5⟩, -⟩
    · have en : ncell (m.z k.toInt.toNat) i = 1 := if_pos c2
      rw [en, if_pos (by decide)] at s2
      rw [if_pos c1] at s1
      exact ⟨by rw [s1.1, s2.1]; exact f10_1.symm, hd2, hB2, un _ _ s1.2 s2.2⟩
    · rw [if_neg (by omega), c3] at s1
      by_cases hi : 0 ≤ i.toInt ∧ i.toInt < (m.z k.toInt.toNat).toInt
      · have en : ncell (m.z k.toInt.toNat) i = 0 := by
          unfold ncell
          rw [if_neg (by omega), if_pos hi]
        rw [en, if_neg (by decide)] at s2
        rw [if_pos hi] at s1
        obtain ⟨e1, f1⟩ := s1
        obtain ⟨e2, f2⟩ := s2
        rw [dR _ k4, dp] at f1
        rw [mC, mp, six_ix hk hi.1 (by omega), cy] at f2
        refine ⟨by rw [e1, e2], hd2, hB2, ?_⟩
        unfold j48
        rw [f2, hset_ne (hB.ne hd bl_340 bl_343 (by decide)), hset_ne (hB.ne hd bl_341 bl_343 (by decide)), hset_ne (hB.ne hd bl_381 bl_343 (by decide)), hset_ne (hB.ne hd bl_382 bl_343 (by decide)), hset_ne (hB.ne hd bl_383 bl_343 (by decide)), hset_ne (hB.ne hd bl_340 bl_383 (by decide)), hset_ne (hB.ne hd bl_341 bl_383 (by decide)), hset_ne (hB.ne hd bl_381 bl_383 (by decide)), hset_ne (hB.ne hd bl_382 bl_383 (by decide)), hset_at, f1, hset_ne (hB.ne hd bl_340 (bl_R k4) (by omega)), hset_ne (hB.ne hd bl_341 (bl_R k4) (by omega)), hset_ne (hB.ne hd bl_381 (bl_R k4) (by omega)), hset_ne (hB.ne hd bl_382 (bl_R k4) (by omega)), hset_ne (hB.ne hd bl_340 bl_0 (by decide)), hset_ne (hB.ne hd bl_341 bl_0 (by decide)), hset_ne (hB.ne hd bl_381 bl_0 (by decide)), hset_ne (hB.ne hd bl_382 bl_0 (by decide))]
        rw [hl0, hs0, hz0, hy0]
        show c48 d.l d.z m.z m.l _ (upd m.f (60 * k.toInt.toNat + i.toInt.toNat) (cutv v (d.l k.toInt.toNat)))
        refine hj'.put k.toInt.toNat i.toInt.toNat (cutv v (d.l k.toInt.toNat)) (by omega) (fun x j hx => ?_)
        unfold rowsB
        rw [hset_ne (hB.ne hd (bl_R hx) bl_343 (by omega)), hset_ne (hB.ne hd (bl_R hx) bl_383 (by omega))]
        by_cases e : x = k.toInt.toNat
        · rw [e, if_pos rfl, hset_at]
          show upd (d.R k.toInt.toNat).2.2 i.toInt.toNat (cutv v (d.l k.toInt.toNat)) j = upd (fun y => eI (hof w.1 (B (336 + k.toInt.toNat))) y) i.toInt.toNat (cutv v (d.l k.toInt.toNat)) j
          rw [hr0 _ k4]
          rfl
        · rw [if_neg e, hset_ne (hB.ne hd (bl_R hx) (bl_R k4) (by omega)), hset_ne (hB.ne hd (bl_R hx) bl_0 (by omega))]
      · have en : ncell (m.z k.toInt.toNat) i = 3 := by
          unfold ncell
          rw [if_neg (by omega), if_neg hi]
        rw [en, if_pos (by decide)] at s2
        rw [if_neg hi] at s1
        exact ⟨by rw [s1.1, s2.1]; exact f10_3.symm, hd2, hB2, un _ _ s1.2 s2.2⟩
  · rw [if_neg hk] at s1 s2
    exact ⟨by rw [s1.1, s2.1], hd2, hB2, un _ _ s1.2 s2.2⟩
theorem pk_cell {B : Nat → Nat} : ∀ (w w1 w2 : lW) (rv1 rv2 : Option Value) (k i lane : Int32), J48 B w → fLr r_X11_cell [.ref (B 0), .int k, .int i, .int lane] w rv1 w1 → fLr r_X12_cell [.ref (B 343), .int k, .int i, .int lane] w1 rv2 w2 → rv1 = rv2 ∧ J48 B w2 := by
  intro w w1 w2 rv1 rv2 k i lane hJ h1 h2
  obtain ⟨hd, hB, hj⟩ := hJ
  have h1 : r_X11_cell [.ref (B 0), .int k, .int i, .int lane] w.1 w.2 rv1 w1.1 w1.2 := h1
  have h2 : r_X12_cell [.ref (B 343), .int k, .int i, .int lane] w1.1 w1.2 rv2 w2.1 w2.2 := h2
  obtain ⟨hd1, s1⟩ := s_X11_cell _ _ _ _ _ _ h1
  obtain ⟨hd2, s2⟩ := s_X12_cell _ _ _ _ _ _ h2
  obtain ⟨tys, hw, -⟩ := h1.2.2.2.2.1
  obtain ⟨tys1, hw1, -⟩ := h2.2.2.2.2.1
  have hB1 := hB.ex h1.2.2.2.1 (by decide)
  have hB2 := hB1.ex h2.2.2.2.1 (by decide)
  obtain ⟨d, dp, dL, dS, dR, hp⟩ := dk_of hB hd hw
  obtain ⟨m, q, mp, mZ, mL, mC, mH, hm, hh⟩ := md_of hB1 hd1 hw1
  have hl0 := hp.2.1.2
  rw [dL] at hl0
  have hs0 := hp.2.2.1.2
  rw [dS] at hs0
  have hz0 := hm.2.1.2
  rw [mZ] at hz0
  have hy0 := hm.2.2.1.2
  rw [mL] at hy0
  have hf0 := hm.2.2.2.1.2
  rw [mC] at hf0
  have hr0 : ∀ i, i < 4 → hof w.1 (B (336 + i)) = some (.inl ((d.R i).2.1, 60, .inl (d.R i).2.2)) := fun i hi => by
    rw [← dR i hi]
    exact (hp.2.2.2.2.2 i hi).2.1
  have s1 := s1 (d, k, i, lane) (by rw [dp]) hp
  have s2 := s2 (m, k, i, lane) (by rw [mp]) hm
  dsimp only at s1 s2
  unfold Q11_cell at s1
  unfold Q12_cell at s2
  have un : ∀ e e' : va_E, hof w1.1 = hset (hof w.1) d.p e → hof w2.1 = hset (hof w1.1) m.p e' → j48 B (hof w2.1) := by
    intro e e' f1 f2
    unfold j48
    rw [f2, mp, hset_ne (hB.ne hd bl_340 bl_343 (by decide)), hset_ne (hB.ne hd bl_341 bl_343 (by decide)), hset_ne (hB.ne hd bl_381 bl_343 (by decide)), hset_ne (hB.ne hd bl_382 bl_343 (by decide)), hset_ne (hB.ne hd bl_383 bl_343 (by decide)), f1, dp, hset_ne (hB.ne hd bl_340 bl_0 (by decide)), hset_ne (hB.ne hd bl_341 bl_0 (by decide)), hset_ne (hB.ne hd bl_381 bl_0 (by decide)), hset_ne (hB.ne hd bl_382 bl_0 (by decide)), hset_ne (hB.ne hd bl_383 bl_0 (by decide))]
    refine c48.r hj (fun k j hk4 => ?_)
    unfold rowsB
    rw [hset_ne (hB.ne hd (bl_R hk4) bl_343 (by omega)), hset_ne (hB.ne hd (bl_R hk4) bl_0 (by omega))]
  have ft : ∃ e, hof w1.1 = hset (hof w.1) d.p e := by
    split at s1
    · split at s1
      · exact ⟨_, s1.2⟩
      · split at s1
        · split at s1
          · exact ⟨_, s1.2⟩
          · exact ⟨_, s1.2⟩
        · exact ⟨_, s1.2⟩
    · exact ⟨_, s1.2⟩
  obtain ⟨e0, f0⟩ := ft
  rw [f0, dp, hset_ne (hB.ne hd bl_381 bl_0 (by decide))] at hz0
  rw [f0, dp, hset_ne (hB.ne hd bl_382 bl_0 (by decide))] at hy0
  rw [f0, dp, hset_ne (hB.ne hd bl_383 bl_0 (by decide))] at hf0
  have hj' : c48 d.l d.z m.z m.l (fun k j => eI (hof w.1 (B (336 + k))) j) m.f := by
    have hj := hj
    unfold j48 at hj
    rw [hl0, hs0, hz0, hy0, hf0] at hj
    exact hj
  by_cases hk : (0 ≤ k.toInt ∧ k.toInt < 4) ∧ (0 ≤ lane.toInt ∧ lane.toInt < 3)
  · rw [if_pos hk] at s1 s2
    have k4 : k.toInt.toNat < 4 := by omega
    rcases hj' k.toInt.toNat k4 with ⟨c1, c2⟩ | ⟨⟨c1, cy, c3, c4, c5⟩, c6⟩
    · have en : ncell (m.z k.toInt.toNat) i = 1 := if_pos c2
      rw [if_neg (by omega), en, if_pos (by decide)] at s2
      rw [if_pos c1] at s1
      exact ⟨by rw [s1.1, s2.1], hd2, hB2, un _ _ s1.2 s2.2⟩
    · rw [if_neg (by omega), c3] at s1
      rw [cy] at s2
      by_cases hl : (d.l k.toInt.toNat).toInt = lane.toInt
      · rw [if_pos hl] at s1
        rw [if_neg (fun z => z.2 hl)] at s2
        by_cases hi : 0 ≤ i.toInt ∧ i.toInt < (m.z k.toInt.toNat).toInt
        · have en : ncell (m.z k.toInt.toNat) i = 0 := by
            unfold ncell
            rw [if_neg (by omega), if_pos hi]
          rw [en, if_neg (by decide), six_ix hk.1 hi.1 (by omega)] at s2
          rw [if_pos hi] at s1
          refine ⟨?_, hd2, hB2, un _ _ s1.2 s2.2⟩
          have c7 : eI (hof w.1 (B (336 + k.toInt.toNat))) i.toInt.toNat = m.f (60 * k.toInt.toNat + i.toInt.toNat) := c6 i.toInt.toNat (by omega)
          rw [hr0 _ k4] at c7
          have c7 : (d.R k.toInt.toNat).2.2 i.toInt.toNat = m.f (60 * k.toInt.toNat + i.toInt.toNat) := c7
          rw [s1.1, s2.1, c7]
        · have en : ncell (m.z k.toInt.toNat) i = 3 := by
            unfold ncell
            rw [if_neg (by omega), if_neg hi]
          rw [en, if_pos (by decide)] at s2
          rw [if_neg hi] at s1
          exact ⟨by rw [s1.1, s2.1], hd2, hB2, un _ _ s1.2 s2.2⟩
      · rw [if_neg hl] at s1
        rw [if_pos ⟨c4, hl⟩] at s2
        exact ⟨by rw [s1.1, s2.1], hd2, hB2, un _ _ s1.2 s2.2⟩
  · rw [if_neg hk] at s1 s2
    exact ⟨by rw [s1.1, s2.1], hd2, hB2, un _ _ s1.2 s2.2⟩
theorem pk_copy {B : Nat → Nat} : ∀ (w w1 w2 : lW) (rv1 rv2 : Option Value) (k i o j n : Int32), J48 B w → fLr r_X11_copy [.ref (B 0), .int k, .int i, .int o, .int j, .int n] w rv1 w1 → fLr r_X12_copy [.ref (B 343), .int k, .int i, .int o, .int j, .int n] w1 rv2 w2 → rv1 = rv2 ∧ J48 B w2 := by
  intro w w1 w2 rv1 rv2 k i o j n hJ h1 h2
  obtain ⟨hd, hB, hj⟩ := hJ
  have h1 : r_X11_copy [.ref (B 0), .int k, .int i, .int o, .int j, .int n] w.1 w.2 rv1 w1.1 w1.2 := h1
  have h2 : r_X12_copy [.ref (B 343), .int k, .int i, .int o, .int j, .int n] w1.1 w1.2 rv2 w2.1 w2.2 := h2
  obtain ⟨hd1, s1⟩ := s_X11_copy _ _ _ _ _ _ h1
  obtain ⟨hd2, s2⟩ := s_X12_copy _ _ _ _ _ _ h2
  obtain ⟨tys, hw, -⟩ := h1.2.2.2.2.1
  obtain ⟨tys1, hw1, -⟩ := h2.2.2.2.2.1
  have hB1 := hB.ex h1.2.2.2.1 (by decide)
  have hB2 := hB1.ex h2.2.2.2.1 (by decide)
  obtain ⟨d, dp, dL, dS, dR, hp⟩ := dk_of hB hd hw
  obtain ⟨m, q, mp, mZ, mL, mC, mH, hm, hh⟩ := md_of hB1 hd1 hw1
  have hl0 := hp.2.1.2
  rw [dL] at hl0
  have hs0 := hp.2.2.1.2
  rw [dS] at hs0
  have hz0 := hm.2.1.2
  rw [mZ] at hz0
  have hy0 := hm.2.2.1.2
  rw [mL] at hy0
  have hf0 := hm.2.2.2.1.2
  rw [mC] at hf0
  have hr0 : ∀ i, i < 4 → hof w.1 (B (336 + i)) = some (.inl ((d.R i).2.1, 60, .inl (d.R i).2.2)) := fun i hi => by
    rw [← dR i hi]
    exact (hp.2.2.2.2.2 i hi).2.1
  have s1 := s1 (d, k, i, o, j, n) (by rw [dp]) hp
  dsimp only at s1
  unfold Q11_copy at s1
  have ft : ∃ (e e1 : va_E) (r : Nat), r < 4 ∧ (hof w1.1 = hset (hof w.1) d.p e ∨ hof w1.1 = hset (hset (hof w.1) d.p e) (d.R r).1 e1) := by
    split at s1
    · rename_i hk
      split at s1
      · exact ⟨_, .inr (0, []), 0, by decide, Or.inl s1.2⟩
      · split at s1
        · split at s1
          · exact ⟨_, _, o.toInt.toNat, by omega, Or.inr s1.2⟩
          · exact ⟨_, .inr (0, []), 0, by decide, Or.inl s1.2⟩
        · exact ⟨_, .inr (0, []), 0, by decide, Or.inl s1.2⟩
    · exact ⟨_, .inr (0, []), 0, by decide, Or.inl s1.2⟩
  have rd : ∀ q c, lp_L2[q]? = some c → 343 ≤ q → hof w1.1 (B q) = hof w.1 (B q) := by
    intro q c hq h343
    obtain ⟨e, e1, r, r4, f1 | f1⟩ := ft
    · rw [f1, dp, hset_ne (hB.ne hd hq bl_0 (by omega))]
    · rw [f1, dR _ r4, dp, hset_ne (hB.ne hd hq (bl_R r4) (by omega)), hset_ne (hB.ne hd hq bl_0 (by omega))]
  rw [rd 381 _ bl_381 (by decide)] at hz0
  rw [rd 382 _ bl_382 (by decide)] at hy0
  rw [rd 383 _ bl_383 (by decide)] at hf0
  have hj' : c48 d.l d.z m.z m.l (fun k j => eI (hof w.1 (B (336 + k))) j) m.f := by
    have hj := hj
    unfold j48 at hj
    rw [hl0, hs0, hz0, hy0, hf0] at hj
    exact hj
  have h60 : ∀ x, x < 4 → (m.z x).toInt ≤ 60 := by
    intro x hx
    rcases hj' x hx with ⟨-, c2⟩ | ⟨⟨-, -, -, -, c5⟩, -⟩
    · omega
    · exact c5
  have s2 := s2 ((m, q), k, i, o, j, n) (by unfold cp_F; rw [mp]) ⟨hm, hh, h60⟩
  have s2 : Q12_copy m q k i o j n (hof w1.1) rv2 (hof w2.1) := s2
  unfold Q12_copy at s2
  have un : ∀ e e' : va_E, hof w1.1 = hset (hof w.1) d.p e → hof w2.1 = hset (hof w1.1) m.p e' → j48 B (hof w2.1) := by
    intro e e' f1 f2
    unfold j48
    rw [f2, mp, hset_ne (hB.ne hd bl_340 bl_343 (by decide)), hset_ne (hB.ne hd bl_341 bl_343 (by decide)), hset_ne (hB.ne hd bl_381 bl_343 (by decide)), hset_ne (hB.ne hd bl_382 bl_343 (by decide)), hset_ne (hB.ne hd bl_383 bl_343 (by decide)), f1, dp, hset_ne (hB.ne hd bl_340 bl_0 (by decide)), hset_ne (hB.ne hd bl_341 bl_0 (by decide)), hset_ne (hB.ne hd bl_381 bl_0 (by decide)), hset_ne (hB.ne hd bl_382 bl_0 (by decide)), hset_ne (hB.ne hd bl_383 bl_0 (by decide))]
    refine c48.r hj (fun k j hk4 => ?_)
    unfold rowsB
    rw [hset_ne (hB.ne hd (bl_R hk4) bl_343 (by omega)), hset_ne (hB.ne hd (bl_R hk4) bl_0 (by omega))]
  by_cases hk : (0 ≤ k.toInt ∧ k.toInt < 4) ∧ (0 ≤ o.toInt ∧ o.toInt < 4)
  · rw [if_pos hk] at s1 s2
    have k4 : k.toInt.toNat < 4 := by omega
    have o4 : o.toInt.toNat < 4 := by omega
    have ck := hj' k.toInt.toNat k4
    have co := hj' o.toInt.toNat o4
    by_cases hx : (d.l k.toInt.toNat).toInt = -1 ∨ (d.l o.toInt.toNat).toInt = -1
    · rw [if_pos hx] at s1
      rw [if_pos (by omega)] at s2
      exact ⟨by rw [s1.1, s2.1], hd2, hB2, un _ _ s1.2 s2.2⟩
    · rw [if_neg hx] at s1
      rw [if_neg (by omega)] at s2
      rcases ck with ⟨c1, -⟩ | ⟨⟨c1, cy, c3, c4, c5⟩, c6⟩
      · exact absurd (Or.inl c1) hx
      rcases co with ⟨q1, -⟩ | ⟨⟨q1, qy, q3, q4, q5⟩, q6⟩
      · exact absurd (Or.inr q1) hx
      rw [cy, qy] at s2
      rw [c3, q3] at s1
      by_cases hl : (d.l k.toInt.toNat).toInt = (d.l o.toInt.toNat).toInt
      · rw [if_pos hl] at s1 s2
        have sb : ∀ z : Int32, 0 ≤ z.toInt → z.toInt ≤ 60 → 0 ≤ n.toInt → (z - n).toInt = z.toInt - n.toInt := by
          intro z z1 z2 hn
          have n2 := Int32.toInt_lt n
          rw [Int32.toInt_sub]
          exact Int.bmod_eq_of_le (by omega) (by omega)
        by_cases hc : (0 ≤ i.toInt ∧ 0 ≤ j.toInt ∧ 0 ≤ n.toInt) ∧ (i.toInt + n.toInt ≤ (m.z k.toInt.toNat).toInt ∧ j.toInt + n.toInt ≤ (m.z o.toInt.toNat).toInt)
        · have b1 := sb _ c4 c5 hc.1.2.2
          have b2 := sb _ q4 q5 hc.1.2.2
          rw [if_pos ⟨hc.1, by rw [b1]; omega, by rw [b2]; omega⟩] at s1
          rw [if_pos hc] at s2
          obtain ⟨e1, f1⟩ := s1
          obtain ⟨e2, g, f, hf, f2⟩ := s2
          rw [dR _ o4, dp] at f1
          unfold cp_w at f2
          rw [mC, mp, mH] at f2
          refine ⟨by rw [e1, e2], hd2, hB2, ?_⟩
          unfold j48
          rw [f2, hset_ne (hB.ne hd bl_340 bl_343 (by decide)), hset_ne (hB.ne hd bl_341 bl_343 (by decide)), hset_ne (hB.ne hd bl_381 bl_343 (by decide)), hset_ne (hB.ne hd bl_382 bl_343 (by decide)), hset_ne (hB.ne hd bl_383 bl_343 (by decide)), hset_ne (hB.ne hd bl_340 bl_383 (by decide)), hset_ne (hB.ne hd bl_341 bl_383 (by decide)), hset_ne (hB.ne hd bl_381 bl_383 (by decide)), hset_ne (hB.ne hd bl_382 bl_383 (by decide)), hset_at, hset_ne (hB.ne hd bl_340 bl_384 (by decide)), hset_ne (hB.ne hd bl_341 bl_384 (by decide)), hset_ne (hB.ne hd bl_381 bl_384 (by decide)), hset_ne (hB.ne hd bl_382 bl_384 (by decide)), f1, hset_ne (hB.ne hd bl_340 (bl_R o4) (by omega)), hset_ne (hB.ne hd bl_341 (bl_R o4) (by omega)), hset_ne (hB.ne hd bl_381 (bl_R o4) (by omega)), hset_ne (hB.ne hd bl_382 (bl_R o4) (by omega)), hset_ne (hB.ne hd bl_340 bl_0 (by decide)), hset_ne (hB.ne hd bl_341 bl_0 (by decide)), hset_ne (hB.ne hd bl_381 bl_0 (by decide)), hset_ne (hB.ne hd bl_382 bl_0 (by decide))]
          rw [hl0, hs0, hz0, hy0]
          show c48 d.l d.z m.z m.l _ f
          refine hj'.copy (k := k.toInt.toNat) (o := o.toInt.toNat) (i := i.toInt.toNat) (j := j.toInt.toNat) (n := n.toInt.toNat) k4 c4 (by omega) (by omega) hf (fun x y hx => ?_)
          unfold rowsB
          rw [hset_ne (hB.ne hd (bl_R hx) bl_343 (by omega)), hset_ne (hB.ne hd (bl_R hx) bl_383 (by omega)), hset_ne (hB.ne hd (bl_R hx) bl_384 (by omega))]
          by_cases e : x = o.toInt.toNat
          · rw [e, if_pos rfl, hset_at]
            show va_cpy (d.R k.toInt.toNat).2.2 (d.R o.toInt.toNat).2.2 i.toInt.toNat j.toInt.toNat n.toInt.toNat y = va_cpy (fun y => eI (hof w.1 (B (336 + k.toInt.toNat))) y) (fun y => eI (hof w.1 (B (336 + o.toInt.toNat))) y) i.toInt.toNat j.toInt.toNat n.toInt.toNat y
            rw [hr0 _ k4, hr0 _ o4]
            rfl
          · rw [if_neg e, hset_ne (hB.ne hd (bl_R hx) (bl_R o4) (by omega)), hset_ne (hB.ne hd (bl_R hx) bl_0 (by omega))]
        · have nc : ¬ ((0 ≤ i.toInt ∧ 0 ≤ j.toInt ∧ 0 ≤ n.toInt) ∧ (i.toInt ≤ (m.z k.toInt.toNat - n).toInt ∧ j.toInt ≤ (m.z o.toInt.toNat - n).toInt)) := by
            rintro ⟨z1, z2, z3⟩
            rw [sb _ c4 c5 z1.2.2] at z2
            rw [sb _ q4 q5 z1.2.2] at z3
            exact hc ⟨z1, by omega, by omega⟩
          rw [if_neg nc] at s1
          rw [if_neg hc] at s2
          exact ⟨by rw [s1.1, s2.1], hd2, hB2, un _ _ s1.2 s2.2⟩
      · rw [if_neg hl] at s1 s2
        exact ⟨by rw [s1.1, s2.1], hd2, hB2, un _ _ s1.2 s2.2⟩
  · rw [if_neg hk] at s1 s2
    exact ⟨by rw [s1.1, s2.1], hd2, hB2, un _ _ s1.2 s2.2⟩
