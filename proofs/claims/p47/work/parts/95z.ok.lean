/-! the invariant of the two: a sheet is there on one side exactly when it is on the other -/
theorem dk_of {B : Nat → Nat} {tys : List (ClassId × FieldType)} {ws : va_W} {sh : List Nat} (h : Bs B ws sh) (hd : f_dj ws) (hw : ck_wo tys cw_TT cw_SG ws sh) : ∃ d : dk_, d.p = B 0 ∧ d.aL = B 340 ∧ d.aS = B 341 ∧ d.aC = B 335 ∧ (∀ i, i < 4 → ∃ (r : Nat) (c : mk_C), r < 340 ∧ lp_L2[r]? = some c ∧ (d.R i).1 = B r) ∧ dk_at d (hof ws) := by
  obtain ⟨fs, h0, -, hr⟩ := h.ov hd hw bl_0 bt_0 (show cw_TT[11]? = some (0, 11, _, _) from rfl)
  obtain ⟨cL, l, h1⟩ := h.iv hd hw bl_340 bt_340 (show cw_TT[22]? = some (1, 4, _, _) from rfl)
  obtain ⟨cS, z, h2⟩ := h.iv hd hw bl_341 bt_341 (show cw_TT[23]? = some (1, 4, _, _) from rfl)
  obtain ⟨cC, g, h3, h4⟩ := h.rv hd hw bl_335 bt_335 (show cw_TT[21]? = some (5, 4, _, _) from rfl)
  obtain ⟨c0, f0, r0⟩ := h.iv hd hw bl_336 bt_336 (show cw_TT[20]? = some (1, 60, _, _) from rfl)
  obtain ⟨c1, f1, r1⟩ := h.iv hd hw bl_337 bt_337 (show cw_TT[20]? = some (1, 60, _, _) from rfl)
  obtain ⟨c2, f2, r2⟩ := h.iv hd hw bl_338 bt_338 (show cw_TT[20]? = some (1, 60, _, _) from rfl)
  obtain ⟨c3, f3, r3⟩ := h.iv hd hw bl_339 bt_339 (show cw_TT[20]? = some (1, 60, _, _) from rfl)
  refine ⟨⟨B 0, fs, B 340, cL, l, B 341, cS, z, B 335, cC, g, fun i => match i with
    | 0 => (B 336, c0, f0)
    | 1 => (B 337, c1, f1)
    | 2 => (B 338, c2, f2)
    | _ => (B 339, c3, f3)⟩, rfl, rfl, rfl, rfl, fun i hi => ?_, h0, ⟨hr 11 340 rfl, h1⟩, ⟨hr 12 341 rfl, h2⟩, ⟨hr 10 335 rfl, h3⟩, h.ne hd bl_340 bl_341 (by decide), fun i hi => ?_⟩
  · rcases (show i = 0 ∨ i = 1 ∨ i = 2 ∨ i = 3 by omega) with rfl | rfl | rfl | rfl
    · exact ⟨336, _, by decide, bl_336, rfl⟩
    · exact ⟨337, _, by decide, bl_337, rfl⟩
    · exact ⟨338, _, by decide, bl_338, rfl⟩
    · exact ⟨339, _, by decide, bl_339, rfl⟩
  · rcases (show i = 0 ∨ i = 1 ∨ i = 2 ∨ i = 3 by omega) with rfl | rfl | rfl | rfl
    · exact ⟨h4 0 336 rfl, r0, h.ne hd bl_336 bl_340 (by decide), h.ne hd bl_336 bl_341 (by decide)⟩
    · exact ⟨h4 1 337 rfl, r1, h.ne hd bl_337 bl_340 (by decide), h.ne hd bl_337 bl_341 (by decide)⟩
    · exact ⟨h4 2 338 rfl, r2, h.ne hd bl_338 bl_340 (by decide), h.ne hd bl_338 bl_341 (by decide)⟩
    · exact ⟨h4 3 339 rfl, r3, h.ne hd bl_339 bl_340 (by decide), h.ne hd bl_339 bl_341 (by decide)⟩
theorem md_of {B : Nat → Nat} {tys : List (ClassId × FieldType)} {ws : va_W} {sh : List Nat} (h : Bs B ws sh) (hd : f_dj ws) (hw : ck_wo tys cw_TT cw_SG ws sh) : ∃ d : md_, d.p = B 343 ∧ d.aZ = B 381 ∧ d.aL = B 382 ∧ d.aC = B 383 ∧ md_at d (hof ws) := by
  obtain ⟨fs, h0, -, hr⟩ := h.ov hd hw bl_343 bt_343 (show cw_TT[17]? = some (0, 12, _, _) from rfl)
  obtain ⟨cZ, z, h1⟩ := h.iv hd hw bl_381 bt_381 (show cw_TT[82]? = some (1, 4, _, _) from rfl)
  obtain ⟨cL, l, h2⟩ := h.iv hd hw bl_382 bt_382 (show cw_TT[83]? = some (1, 4, _, _) from rfl)
  obtain ⟨cC, f, h3⟩ := h.iv hd hw bl_383 bt_383 (show cw_TT[84]? = some (1, 240, _, _) from rfl)
  exact ⟨⟨B 343, fs, B 381, cZ, z, B 382, cL, l, B 383, cC, f⟩, rfl, rfl, rfl, rfl, h0, ⟨hr 64 381 rfl, h1⟩, ⟨hr 65 382 rfl, h2⟩, ⟨hr 66 383 rfl, h3⟩, h.ne hd bl_381 bl_382 (by decide), h.ne hd bl_381 bl_383 (by decide), h.ne hd bl_382 bl_383 (by decide)⟩
/-- what the two say of their sheets -/
def c47 (l s z y : Nat → Int32) : Prop := ∀ k, k < 4 → ((l k).toInt = -1 ∧ (z k).toInt < 0) ∨ (0 ≤ (l k).toInt ∧ y k = l k ∧ s k = z k ∧ 0 ≤ (z k).toInt ∧ (z k).toInt ≤ 60)
theorem c47.lose {l s z y : Nat → Int32} (h : c47 l s z y) (k : Nat) : c47 (upd l k (-1)) s (upd z k (-1)) y := by
  intro i hi
  by_cases e : i = k
  · rw [e, upd_at, upd_at]
    exact Or.inl (by decide)
  · rw [upd_ne e, upd_ne e]
    exact h i hi
theorem c47.sheet {l s z y : Nat → Int32} (h : c47 l s z y) (k : Nat) {lane n : Int32} (h1 : 0 ≤ lane.toInt) (h2 : 0 ≤ n.toInt) (h3 : n.toInt ≤ 60) : c47 (upd l k lane) (upd s k n) (upd z k n) (upd y k lane) := by
  intro i hi
  by_cases e : i = k
  · rw [e, upd_at, upd_at, upd_at, upd_at]
    exact Or.inr ⟨h1, rfl, rfl, h2, h3⟩
  · rw [upd_ne e, upd_ne e, upd_ne e, upd_ne e]
    exact h i hi
def j47 (B : Nat → Nat) (h : fH) : Prop := c47 (eI (h (B 340))) (eI (h (B 341))) (eI (h (B 381))) (eI (h (B 382)))
def J47 (B : Nat → Nat) : lW → Prop := fun w => f_dj w.1 ∧ Bs B w.1 w.2 ∧ j47 B (hof w.1)
theorem fr47 {B : Nat → Nat} {rt : Nat} {Wr : List (Nat × Nat)} {T : fT} {cc : ByteArray} {As : List Value} {w w' : lW} {rv : Option Value} (h : fLr (fq cw_TT cw_SG rt Wr T cc) As w rv w') (hJ : J47 B w) (hk : bs_K.all (fun x => !(Wr.contains x)) = true) (hw : (22, 0) ∉ Wr ∧ (23, 0) ∉ Wr ∧ (82, 0) ∉ Wr ∧ (83, 0) ∉ Wr) : J47 B w' := by
  obtain ⟨-, hd, hd', hx, -, -⟩ := (show fq cw_TT cw_SG rt Wr T cc As w.1 w.2 rv w'.1 w'.2 from h)
  refine ⟨hd', hJ.2.1.ex hx hk, ?_⟩
  unfold j47
  rw [hJ.2.1.same hd hd' hx bl_340 bt_340 (by decide) hw.1, hJ.2.1.same hd hd' hx bl_341 bt_341 (by decide) hw.2.1, hJ.2.1.same hd hd' hx bl_381 bt_381 (by decide) hw.2.2.1, hJ.2.1.same hd hd' hx bl_382 bt_382 (by decide) hw.2.2.2]
  exact hJ.2.2
theorem pj_lose {B : Nat → Nat} : pq_lose (B 0) (B 343) (J47 B) := by
  intro w w1 w2 rv1 rv2 k hJ h1 h2
  obtain ⟨hd, hB, hj⟩ := hJ
  have h1 : r_X11_lose [.ref (B 0), .int k] w.1 w.2 rv1 w1.1 w1.2 := h1
  have h2 : r_X12_lose [.ref (B 343), .int k] w1.1 w1.2 rv2 w2.1 w2.2 := h2
  obtain ⟨hd1, s1⟩ := s_X11_lose _ _ _ _ _ _ h1
  obtain ⟨hd2, s2⟩ := s_X12_lose _ _ _ _ _ _ h2
  obtain ⟨tys, hw, -⟩ := h1.2.2.2.2.1
  obtain ⟨tys1, hw1, -⟩ := h2.2.2.2.2.1
  have hB1 := hB.ex h1.2.2.2.1 (by decide)
  have hB2 := hB1.ex h2.2.2.2.1 (by decide)
  obtain ⟨d, dp, dL, -, -, -, hp⟩ := dk_of hB hd hw
  obtain ⟨m, mp, mZ, -, -, hm⟩ := md_of hB1 hd1 hw1
  have s1 := s1 (d.p, k, d.fs, d.aL, d.cL, d.l) (by rw [dp]) ⟨hp.1, hp.2.1.1, hp.2.1.2⟩
  have s2 := s2 (m.p, k, m.fs, m.aZ, m.cZ, m.z) (by rw [mp]) ⟨hm.1, hm.2.1.1, hm.2.1.2⟩
  dsimp only at s1 s2
  by_cases hk : 0 ≤ k.toInt ∧ k.toInt < 4
  · rw [if_pos hk] at s1 s2
    obtain ⟨-, f1⟩ := s1
    obtain ⟨-, f2⟩ := s2
    rw [dL] at f1
    rw [mZ] at f2
    have hz0 := hm.2.1.2
    rw [mZ] at hz0
    have hl0 := hp.2.1.2
    rw [dL] at hl0
    rw [f1, hset_ne (hB.ne hd bl_381 bl_340 (by decide))] at hz0
    refine ⟨hd2, hB2, ?_⟩
    unfold j47 at hj ⊢
    rw [hl0, hz0] at hj
    rw [f2, hset_at, hset_ne (hB.ne hd bl_340 bl_381 (by decide)), hset_ne (hB.ne hd bl_341 bl_381 (by decide)), hset_ne (hB.ne hd bl_382 bl_381 (by decide)), f1, hset_at, hset_ne (hB.ne hd bl_341 bl_340 (by decide)), hset_ne (hB.ne hd bl_382 bl_340 (by decide))]
    have hj : c47 d.l (eI (hof w.1 (B 341))) m.z (eI (hof w.1 (B 382))) := hj
    exact hj.lose k.toInt.toNat
  · rw [if_neg hk] at s1 s2
    refine ⟨hd2, hB2, ?_⟩
    rw [s2.2, s1.2]
    exact hj
theorem pj_sheet {B : Nat → Nat} : pq_sheet (B 0) (B 343) (J47 B) := by
  intro w w1 w2 rv1 rv2 k lane n hJ h1 h2
  obtain ⟨hd, hB, hj⟩ := hJ
  have h1 : r_X11_sheet [.ref (B 0), .int k, .int lane, .int n] w.1 w.2 rv1 w1.1 w1.2 := h1
  have h2 : r_X12_sheet [.ref (B 343), .int k, .int lane, .int n] w1.1 w1.2 rv2 w2.1 w2.2 := h2
  obtain ⟨hd1, s1⟩ := s_X11_sheet _ _ _ _ _ _ h1
  obtain ⟨hd2, s2⟩ := s_X12_sheet _ _ _ _ _ _ h2
  obtain ⟨tys, hw, -⟩ := h1.2.2.2.2.1
  obtain ⟨tys1, hw1, -⟩ := h2.2.2.2.2.1
  have hB1 := hB.ex h1.2.2.2.1 (by decide)
  have hB2 := hB1.ex h2.2.2.2.1 (by decide)
  obtain ⟨d, dp, dL, dS, -, dR, hp⟩ := dk_of hB hd hw
  obtain ⟨m, mp, mZ, mL, mC, hm⟩ := md_of hB1 hd1 hw1
  have s1 := s1 (d, k, lane, n) (by rw [dp]) hp
  have s2 := s2 (m, k, lane, n) (by rw [mp]) hm
  dsimp only at s1 s2
  unfold Q11_sheet at s1
  unfold Q12_sheet at s2
  have un : ∀ e e' : va_E, hof w1.1 = hset (hof w.1) d.p e → hof w2.1 = hset (hof w1.1) m.p e' → j47 B (hof w2.1) := by
    intro e e' f1 f2
    unfold j47
    rw [f2, mp, hset_ne (hB.ne hd bl_340 bl_343 (by decide)), hset_ne (hB.ne hd bl_341 bl_343 (by decide)), hset_ne (hB.ne hd bl_381 bl_343 (by decide)), hset_ne (hB.ne hd bl_382 bl_343 (by decide)), f1, dp, hset_ne (hB.ne hd bl_340 bl_0 (by decide)), hset_ne (hB.ne hd bl_341 bl_0 (by decide)), hset_ne (hB.ne hd bl_381 bl_0 (by decide)), hset_ne (hB.ne hd bl_382 bl_0 (by decide))]
    exact hj
  by_cases hk : 0 ≤ k.toInt ∧ k.toInt < 4
  · rw [if_pos hk] at s1 s2
    by_cases hl : (0 ≤ lane.toInt ∧ lane.toInt < 3) ∧ n.toInt ≤ 60
    · rw [if_pos hl] at s1 s2
      by_cases hn : 0 ≤ n.toInt
      · rw [if_pos hn] at s1 s2
        obtain ⟨-, f, -, f1⟩ := s1
        obtain ⟨-, g, -, f2⟩ := s2
        obtain ⟨r, c, r1, r2, r3⟩ := dR k.toInt.toNat (by omega)
        rw [r3, dS, dL, dp] at f1
        unfold md_w at f2
        rw [mp, mC, mL, mZ] at f2
        have hl0 := hp.2.1.2
        rw [dL] at hl0
        have hs0 := hp.2.2.1.2
        rw [dS] at hs0
        have hz0 := hm.2.1.2
        rw [mZ, f1, hset_ne (hB.ne hd bl_381 r2 (by omega)), hset_ne (hB.ne hd bl_381 bl_341 (by decide)), hset_ne (hB.ne hd bl_381 bl_340 (by decide)), hset_ne (hB.ne hd bl_381 bl_0 (by decide))] at hz0
        have hy0 := hm.2.2.1.2
        rw [mL, f1, hset_ne (hB.ne hd bl_382 r2 (by omega)), hset_ne (hB.ne hd bl_382 bl_341 (by decide)), hset_ne (hB.ne hd bl_382 bl_340 (by decide)), hset_ne (hB.ne hd bl_382 bl_0 (by decide))] at hy0
        refine ⟨hd2, hB2, ?_⟩
        unfold j47 at hj ⊢
        rw [hl0, hs0, hz0, hy0] at hj
        rw [f2, hset_ne (hB.ne hd bl_340 bl_343 (by decide)), hset_ne (hB.ne hd bl_341 bl_343 (by decide)), hset_ne (hB.ne hd bl_381 bl_343 (by decide)), hset_ne (hB.ne hd bl_382 bl_343 (by decide)), hset_ne (hB.ne hd bl_340 bl_383 (by decide)), hset_ne (hB.ne hd bl_341 bl_383 (by decide)), hset_ne (hB.ne hd bl_381 bl_383 (by decide)), hset_ne (hB.ne hd bl_382 bl_383 (by decide)), hset_ne (hB.ne hd bl_340 bl_382 (by decide)), hset_ne (hB.ne hd bl_341 bl_382 (by decide)), hset_ne (hB.ne hd bl_381 bl_382 (by decide)), hset_at, hset_ne (hB.ne hd bl_340 bl_381 (by decide)), hset_ne (hB.ne hd bl_341 bl_381 (by decide)), hset_at, f1, hset_ne (hB.ne hd bl_340 r2 (by omega)), hset_ne (hB.ne hd bl_341 r2 (by omega)), hset_ne (hB.ne hd bl_340 bl_341 (by decide)), hset_at, hset_at]
        have hj : c47 d.l d.z m.z m.l := hj
        exact hj.sheet k.toInt.toNat hl.1.1 hn hl.2
      · rw [if_neg hn] at s1 s2
        exact ⟨hd2, hB2, un _ _ s1.2 s2.2⟩
    · rw [if_neg hl] at s1 s2
      exact ⟨hd2, hB2, un _ _ s1.2 s2.2⟩
  · rw [if_neg hk] at s1 s2
    exact ⟨hd2, hB2, un _ _ s1.2 s2.2⟩
theorem pj_put {B : Nat → Nat} : pq_put (B 0) (B 343) (J47 B) := by
  intro w w1 w2 rv1 rv2 k i v hJ h1 h2
  have hJ1 : J47 B w1 := fr47 h1 hJ (by decide) (by decide)
  have hJ2 : J47 B w2 := fr47 h2 hJ1 (by decide) (by decide)
  refine ⟨?_, hJ2⟩
  have hj1 := hJ1.2.2
  obtain ⟨hd, hB, hj⟩ := hJ
  have h1 : r_X11_put [.ref (B 0), .int k, .int i, .int v] w.1 w.2 rv1 w1.1 w1.2 := h1
  have h2 : r_X12_put [.ref (B 343), .int k, .int i, .int v] w1.1 w1.2 rv2 w2.1 w2.2 := h2
  obtain ⟨hd1, s1⟩ := s_X11_put _ _ _ _ _ _ h1
  obtain ⟨hd2, s2⟩ := s_X12_put _ _ _ _ _ _ h2
  obtain ⟨tys, hw, -⟩ := h1.2.2.2.2.1
  obtain ⟨tys1, hw1, -⟩ := h2.2.2.2.2.1
  obtain ⟨d, dp, dL, dS, -, -, hp⟩ := dk_of hB hd hw
  obtain ⟨m, mp, mZ, mL, -, hm⟩ := md_of hJ1.2.1 hd1 hw1
  have s1 := s1 (d, k, i, v) (by rw [dp]) hp
  have s2 := s2 (m, k, i, v) (by rw [mp]) hm
  dsimp only at s1 s2
  unfold Q11_put at s1
  unfold Q12_put at s2
  by_cases hk : 0 ≤ k.toInt ∧ k.toInt < 4
  · rw [if_pos hk] at s1 s2
    have hx := h1.2.2.2.1
    have e340 := hB.same hd hd1 hx bl_340 bt_340 (by decide) (by decide)
    have e341 := hB.same hd hd1 hx bl_341 bt_341 (by decide) (by decide)
    have hl0 := hp.2.1.2
    rw [dL] at hl0
    have hs0 := hp.2.2.1.2
    rw [dS] at hs0
    have hz0 := hm.2.1.2
    rw [mZ] at hz0
    have hy0 := hm.2.2.1.2
    rw [mL] at hy0
    unfold j47 at hj1
    rw [e340, e341, hl0, hs0, hz0, hy0] at hj1
    have c := hj1 k.toInt.toNat (by omega)
    have c : ((d.l k.toInt.toNat).toInt = -1 ∧ (m.z k.toInt.toNat).toInt < 0) ∨ (0 ≤ (d.l k.toInt.toNat).toInt ∧ m.l k.toInt.toNat = d.l k.toInt.toNat ∧ d.z k.toInt.toNat = m.z k.toInt.toNat ∧ 0 ≤ (m.z k.toInt.toNat).toInt ∧ (m.z k.toInt.toNat).toInt ≤ 60) := c
    rcases c with ⟨c1, c2⟩ | ⟨c1, -, c3, c4, -⟩
    · have en : ncell (m.z k.toInt.toNat) i = 1 := if_pos c2
      rw [en, if_pos (by decide)] at s2
      rw [if_pos c1] at s1
      rw [s1.1, s2.1]
      rfl
    · rw [if_neg (by omega), c3] at s1
      by_cases hi : 0 ≤ i.toInt ∧ i.toInt < (m.z k.toInt.toNat).toInt
      · have en : ncell (m.z k.toInt.toNat) i = 0 := by
          unfold ncell
          rw [if_neg (by omega), if_pos hi]
        rw [en, if_neg (by decide)] at s2
        rw [if_pos hi] at s1
        rw [s1.1, s2.1]
      · have en : ncell (m.z k.toInt.toNat) i = 3 := by
          unfold ncell
          rw [if_neg (by omega), if_neg hi]
        rw [en, if_pos (by decide)] at s2
        rw [if_neg hi] at s1
        rw [s1.1, s2.1]
        rfl
  · rw [if_neg hk] at s1 s2
    rw [s1.1, s2.1]
theorem ini_iv {tys : List (ClassId × FieldType)} {ws : va_W} (hwo : mk_wo tys ws lp_L2) (hd : f_dj ws) {q x n : Nat} {vals : List mk_V} (hc : lp_L2[q]? = some (1, x, n, vals)) {i : Nat} {v : Int} (hv : vals[i]? = some (1, v, 0)) : (eI (hof ws (bs_B ws q)) i).toInt = v := by
  obtain ⟨a, e, hq, hco⟩ := hwo.get hc
  obtain ⟨cA, f, -, rfl, h2⟩ := hco
  rw [bs_Be hq, hof_at hd hq]
  have h3 := h2 i
  rw [mk_at_of (c := (1, x, n, vals)) hv] at h3
  obtain ⟨w, h4, h5⟩ := (show ∃ w : Int32, Value.int (f i) = .int w ∧ w.toInt = v from h3)
  injection h4 with h4
  show (f i).toInt = v
  rw [h4]
  exact h5
theorem J_ini {tys : List (ClassId × FieldType)} {ws : va_W} (hwo : mk_wo tys ws lp_L2) (hd : f_dj ws) : J47 (bs_B ws) (ws, lp_sh) := by
  refine ⟨hd, Bs.mk hwo, fun k hk => Or.inl ?_⟩
  rcases (show k = 0 ∨ k = 1 ∨ k = 2 ∨ k = 3 by omega) with rfl | rfl | rfl | rfl
  · rw [ini_iv hwo hd bl_340 (v := -1) rfl, ini_iv hwo hd bl_381 (v := -1) rfl]; decide
  · rw [ini_iv hwo hd bl_340 (v := -1) rfl, ini_iv hwo hd bl_381 (v := -1) rfl]; decide
  · rw [ini_iv hwo hd bl_340 (v := -1) rfl, ini_iv hwo hd bl_381 (v := -1) rfl]; decide
  · rw [ini_iv hwo hd bl_340 (v := -1) rfl, ini_iv hwo hd bl_381 (v := -1) rfl]; decide
theorem pj_read {B : Nat → Nat} : pq_read (B 0) (B 343) (J47 B) := fun _ _ _ _ _ _ _ _ _ hJ h1 h2 => fr47 h2 (fr47 h1 hJ (by decide) (by decide)) (by decide) (by decide)
theorem pj_make {B : Nat → Nat} : pq_make (B 0) (B 343) (J47 B) := fun _ _ _ _ _ _ _ _ hJ h1 h2 => fr47 h2 (fr47 h1 hJ (by decide) (by decide)) (by decide) (by decide)
theorem pj_worlds {B : Nat → Nat} : pq_worlds (B 0) (B 343) (J47 B) := fun _ _ _ _ _ _ hJ h1 h2 => fr47 h2 (fr47 h1 hJ (by decide) (by decide)) (by decide) (by decide)
theorem pj_truth {B : Nat → Nat} : pq_truth (B 0) (B 343) (J47 B) := fun _ _ _ _ _ _ _ hJ h1 h2 => fr47 h2 (fr47 h1 hJ (by decide) (by decide)) (by decide) (by decide)
theorem pj_compare {B : Nat → Nat} : pq_compare (B 0) (B 343) (J47 B) := fun _ _ _ _ _ _ _ hJ h1 h2 => fr47 h2 (fr47 h1 hJ (by decide) (by decide)) (by decide) (by decide)
theorem pj_trust {B : Nat → Nat} : pq_trust (B 0) (B 343) (J47 B) := fun _ _ _ _ _ _ _ hJ h1 h2 => fr47 h2 (fr47 h1 hJ (by decide) (by decide)) (by decide) (by decide)
theorem pj_hold {B : Nat → Nat} : pq_hold (B 0) (B 343) (J47 B) := fun _ _ _ _ _ _ _ _ _ _ hJ h1 h2 => fr47 h2 (fr47 h1 hJ (by decide) (by decide)) (by decide) (by decide)
theorem pj_view {B : Nat → Nat} : pq_view (B 0) (B 343) (J47 B) := fun _ _ _ _ _ _ _ hJ h1 h2 => fr47 h2 (fr47 h1 hJ (by decide) (by decide)) (by decide) (by decide)
theorem pj_entry {B : Nat → Nat} : pq_entry (B 0) (B 343) (J47 B) := fun _ _ _ _ _ _ _ hJ h1 h2 => fr47 h2 (fr47 h1 hJ (by decide) (by decide)) (by decide) (by decide)
theorem pj_drop {B : Nat → Nat} : pq_drop (B 0) (B 343) (J47 B) := fun _ _ _ _ _ _ _ hJ h1 h2 => fr47 h2 (fr47 h1 hJ (by decide) (by decide)) (by decide) (by decide)
theorem pj_weight {B : Nat → Nat} : pq_weight (B 0) (B 343) (J47 B) := fun _ _ _ _ _ _ hJ h1 h2 => fr47 h2 (fr47 h1 hJ (by decide) (by decide)) (by decide) (by decide)
theorem pj_together {B : Nat → Nat} : pq_together (B 0) (B 343) (J47 B) := fun _ _ _ _ _ _ hJ h1 h2 => fr47 h2 (fr47 h1 hJ (by decide) (by decide)) (by decide) (by decide)
theorem pj_reasons {B : Nat → Nat} : pq_reasons (B 0) (B 343) (J47 B) := fun _ _ _ _ _ _ _ hJ h1 h2 => fr47 h2 (fr47 h1 hJ (by decide) (by decide)) (by decide) (by decide)
theorem pj_reason {B : Nat → Nat} : pq_reason (B 0) (B 343) (J47 B) := fun _ _ _ _ _ _ _ _ hJ h1 h2 => fr47 h2 (fr47 h1 hJ (by decide) (by decide)) (by decide) (by decide)
theorem pj_harmonies {B : Nat → Nat} : pq_harmonies (B 0) (B 343) (J47 B) := fun _ _ _ _ _ _ hJ h1 h2 => fr47 h2 (fr47 h1 hJ (by decide) (by decide)) (by decide) (by decide)
theorem pj_harmony {B : Nat → Nat} : pq_harmony (B 0) (B 343) (J47 B) := fun _ _ _ _ _ _ _ hJ h1 h2 => fr47 h2 (fr47 h1 hJ (by decide) (by decide)) (by decide) (by decide)
theorem pj_held {B : Nat → Nat} : pq_held (B 0) (B 343) (J47 B) := fun _ _ _ _ _ _ _ hJ h1 h2 => fr47 h2 (fr47 h1 hJ (by decide) (by decide)) (by decide) (by decide)
theorem pj_cuts {B : Nat → Nat} : pq_cuts (B 0) (B 343) (J47 B) := fun _ _ _ _ _ _ hJ h1 h2 => fr47 h2 (fr47 h1 hJ (by decide) (by decide)) (by decide) (by decide)
theorem pj_cutOf {B : Nat → Nat} : pq_cutOf (B 0) (B 343) (J47 B) := fun _ _ _ _ _ _ _ hJ h1 h2 => fr47 h2 (fr47 h1 hJ (by decide) (by decide)) (by decide) (by decide)
theorem pj_least {B : Nat → Nat} : pq_least (B 0) (B 343) (J47 B) := fun _ _ _ _ _ _ hJ h1 h2 => fr47 h2 (fr47 h1 hJ (by decide) (by decide)) (by decide) (by decide)
theorem pj_giveUp {B : Nat → Nat} : pq_giveUp (B 0) (B 343) (J47 B) := fun _ _ _ _ _ _ hJ h1 h2 => fr47 h2 (fr47 h1 hJ (by decide) (by decide)) (by decide) (by decide)
theorem pj_news {B : Nat → Nat} : pq_news (B 0) (B 343) (J47 B) := fun _ _ _ _ _ _ _ hJ h1 h2 => fr47 h2 (fr47 h1 hJ (by decide) (by decide)) (by decide) (by decide)
theorem pj_postulate {B : Nat → Nat} : pq_postulate (B 0) (B 343) (J47 B) := fun _ _ _ _ _ _ _ hJ h1 h2 => fr47 h2 (fr47 h1 hJ (by decide) (by decide)) (by decide) (by decide)
theorem pj_rule {B : Nat → Nat} : pq_rule (B 0) (B 343) (J47 B) := fun _ _ _ _ _ _ _ _ _ _ hJ h1 h2 => fr47 h2 (fr47 h1 hJ (by decide) (by decide)) (by decide) (by decide)
theorem pj_ruled {B : Nat → Nat} : pq_ruled (B 0) (B 343) (J47 B) := fun _ _ _ _ _ _ _ hJ h1 h2 => fr47 h2 (fr47 h1 hJ (by decide) (by decide)) (by decide) (by decide)
theorem pj_extensions {B : Nat → Nat} : pq_extensions (B 0) (B 343) (J47 B) := fun _ _ _ _ _ _ hJ h1 h2 => fr47 h2 (fr47 h1 hJ (by decide) (by decide)) (by decide) (by decide)
theorem pj_extension {B : Nat → Nat} : pq_extension (B 0) (B 343) (J47 B) := fun _ _ _ _ _ _ _ hJ h1 h2 => fr47 h2 (fr47 h1 hJ (by decide) (by decide)) (by decide) (by decide)
theorem pj_concluded {B : Nat → Nat} : pq_concluded (B 0) (B 343) (J47 B) := fun _ _ _ _ _ _ _ hJ h1 h2 => fr47 h2 (fr47 h1 hJ (by decide) (by decide)) (by decide) (by decide)
theorem pj_claim {B : Nat → Nat} : pq_claim (B 0) (B 343) (J47 B) := fun _ _ _ _ _ _ _ hJ h1 h2 => fr47 h2 (fr47 h1 hJ (by decide) (by decide)) (by decide) (by decide)
theorem pj_strikes {B : Nat → Nat} : pq_strikes (B 0) (B 343) (J47 B) := fun _ _ _ _ _ _ _ hJ h1 h2 => fr47 h2 (fr47 h1 hJ (by decide) (by decide)) (by decide) (by decide)
theorem pj_claimed {B : Nat → Nat} : pq_claimed (B 0) (B 343) (J47 B) := fun _ _ _ _ _ _ _ hJ h1 h2 => fr47 h2 (fr47 h1 hJ (by decide) (by decide)) (by decide) (by decide)
theorem pj_sets {B : Nat → Nat} : pq_sets (B 0) (B 343) (J47 B) := fun _ _ _ _ _ _ hJ h1 h2 => fr47 h2 (fr47 h1 hJ (by decide) (by decide)) (by decide) (by decide)
theorem pj_setOf {B : Nat → Nat} : pq_setOf (B 0) (B 343) (J47 B) := fun _ _ _ _ _ _ _ hJ h1 h2 => fr47 h2 (fr47 h1 hJ (by decide) (by decide)) (by decide) (by decide)
theorem pj_parts {B : Nat → Nat} : pq_parts (B 0) (B 343) (J47 B) := fun _ _ _ _ _ hJ h1 h2 => fr47 h2 (fr47 h1 hJ (by decide) (by decide)) (by decide) (by decide)
theorem pj_far {B : Nat → Nat} : pq_far (B 0) (B 343) (J47 B) := fun _ _ _ _ _ _ _ hJ h1 h2 => fr47 h2 (fr47 h1 hJ (by decide) (by decide)) (by decide) (by decide)
theorem pj_merged {B : Nat → Nat} : pq_merged (B 0) (B 343) (J47 B) := fun _ _ _ _ _ _ hJ h1 h2 => fr47 h2 (fr47 h1 hJ (by decide) (by decide)) (by decide) (by decide)
theorem pj_mergedWorld {B : Nat → Nat} : pq_mergedWorld (B 0) (B 343) (J47 B) := fun _ _ _ _ _ _ _ hJ h1 h2 => fr47 h2 (fr47 h1 hJ (by decide) (by decide)) (by decide) (by decide)
theorem pj_agreed {B : Nat → Nat} : pq_agreed (B 0) (B 343) (J47 B) := fun _ _ _ _ _ _ _ hJ h1 h2 => fr47 h2 (fr47 h1 hJ (by decide) (by decide)) (by decide) (by decide)
theorem pj_take {B : Nat → Nat} : pq_take (B 0) (B 343) (J47 B) := fun _ _ _ _ _ _ _ _ hJ h1 h2 => fr47 h2 (fr47 h1 hJ (by decide) (by decide)) (by decide) (by decide)
theorem pj_loose {B : Nat → Nat} : pq_loose (B 0) (B 343) (J47 B) := fun _ _ _ _ _ _ hJ h1 h2 => fr47 h2 (fr47 h1 hJ (by decide) (by decide)) (by decide) (by decide)
theorem pj_as {B : Nat → Nat} : pq_as (B 0) (B 343) (J47 B) := fun _ _ _ _ _ _ _ hJ h1 h2 => fr47 h2 (fr47 h1 hJ (by decide) (by decide)) (by decide) (by decide)
theorem pj_tell {B : Nat → Nat} : pq_tell (B 0) (B 343) (J47 B) := fun _ _ _ _ _ _ hJ h1 h2 => fr47 h2 (fr47 h1 hJ (by decide) (by decide)) (by decide) (by decide)
theorem pj_show {B : Nat → Nat} : pq_show (B 0) (B 343) (J47 B) := fun _ _ _ _ _ _ hJ h1 h2 => fr47 h2 (fr47 h1 hJ (by decide) (by decide)) (by decide) (by decide)
theorem pj_cell {B : Nat → Nat} : pq_cell (B 0) (B 343) (J47 B) := fun _ _ _ _ _ _ _ _ hJ h1 h2 => fr47 h2 (fr47 h1 hJ (by decide) (by decide)) (by decide) (by decide)
theorem pj_copy {B : Nat → Nat} : pq_copy (B 0) (B 343) (J47 B) := fun _ _ _ _ _ _ _ _ _ _ hJ h1 h2 => fr47 h2 (fr47 h1 hJ (by decide) (by decide)) (by decide) (by decide)
theorem pj_trace {B : Nat → Nat} : pq_trace (B 0) (B 343) (J47 B) := fun _ _ _ _ _ hJ h1 h2 => fr47 h2 (fr47 h1 hJ (by decide) (by decide)) (by decide) (by decide)
theorem pj_fault {B : Nat → Nat} : pq_fault (B 0) (B 343) (J47 B) := fun _ _ _ _ _ hJ h1 h2 => fr47 h2 (fr47 h1 hJ (by decide) (by decide)) (by decide) (by decide)
theorem pj_many {B : Nat → Nat} : pq_many (B 0) (B 343) (J47 B) := fun _ _ _ _ _ _ hJ h1 h2 => fr47 h2 (fr47 h1 hJ (by decide) (by decide)) (by decide) (by decide)
theorem law_ok {tys : List (ClassId × FieldType)} {ws : va_W} {q1 q2 b L : Nat} {xs : Nat → Int32} (hwo : mk_wo tys ws lp_L2) (_ : ck_wo tys cw_TT cw_SG ws lp_sh) (hd : f_dj ws) (_ : f_out ws b) (h1 : ∃ e, ws[0]? = some (q1, e)) (h2 : ∃ e, ws[343]? = some (q2, e)) : lw_one (18, [(3, .int 0), (2, .ref q2), (1, .ref q1), (0, .ref b)], [], ws, lp_sh) b L xs := by
  obtain ⟨e1, h1⟩ := h1
  obtain ⟨e2, h2⟩ := h2
  rw [← bs_Be h1, ← bs_Be h2]
  exact law_walk pj_read pj_make pj_worlds pj_truth pj_compare pj_trust pj_hold pj_view pj_entry pj_drop pj_weight pj_together pj_reasons pj_reason pj_harmonies pj_harmony pj_held pj_cuts pj_cutOf pj_least pj_giveUp pj_news pj_postulate pj_rule pj_ruled pj_extensions pj_extension pj_concluded pj_claim pj_strikes pj_claimed pj_sets pj_setOf pj_parts pj_far pj_merged pj_mergedWorld pj_agreed pj_take pj_loose pj_as pj_tell pj_show pj_sheet pj_lose pj_put pj_cell pj_copy pj_trace pj_fault pj_many hd (J_ini hwo hd)
