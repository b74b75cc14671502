/-! read and make keep the two's sentences alike -/
theorem rdQ_gd {k lane i n c : Int32} {lo di : Bool} {Z t : Int} {v c' ft : Int32} (h : rdQ k lane i n c lo di Z t v c' ft) (hc : c'.toInt = c.toInt + 1) : (0 ≤ k.toInt ∧ k.toInt < 4) ∧ lo = false ∧ 0 ≤ n.toInt ∧ 0 ≤ i.toInt ∧ i.toInt + n.toInt ≤ Z := by
  unfold rdQ at h
  have no : ∀ {p : Prop}, c' = c → p := fun e => absurd hc (by rw [e]; omega)
  by_cases hk : 0 ≤ k.toInt ∧ k.toInt < 4
  · rw [if_pos hk] at h
    by_cases hl : 0 ≤ lane.toInt ∧ lane.toInt < 3
    · rw [if_pos hl] at h
      cases lo with
      | true => exact no h.2.1
      | false =>
        cases di with
        | true => exact no h.2.1
        | false =>
          dsimp only at h
          by_cases hn : n.toInt < 0
          · rw [if_pos hn] at h
            exact no h.2.1
          · rw [if_neg hn] at h
            by_cases hi : 0 ≤ i.toInt ∧ i.toInt + n.toInt ≤ Z
            · exact ⟨hk, rfl, by omega, hi.1, hi.2⟩
            · rw [if_neg hi] at h
              exact no h.2.1
    · rw [if_neg hl] at h
      exact no h.2.1
  · rw [if_neg hk] at h
    exact no h.2.1
theorem mkQ_gd {how a b c v c' : Int32} (h : mkQ how a b c v c') (hc : c'.toInt = c.toInt + 1) : (0 ≤ a.toInt ∧ a.toInt < c.toInt) ∧ (how.toInt = 0 ∨ (0 ≤ b.toInt ∧ b.toInt < c.toInt)) := by
  unfold mkQ at h
  have no : ∀ {p : Prop}, c' = c → p := fun e => absurd hc (by rw [e]; omega)
  split at h
  · split at h
    · rename_i a2
      exact a2
    · exact no h.2
  · exact no h.2
theorem pk6_read {B : Nat → Nat} : ∀ (w w1 w2 : lW) (rv1 rv2 : Option Value) (k lane i n : Int32), J6 B w → fLr r_X11_read [.ref (B 0), .int k, .int lane, .int i, .int n] w rv1 w1 → fLr r_X12_read [.ref (B 343), .int k, .int lane, .int i, .int n] w1 rv2 w2 → rv1 = rv2 ∧ J6 B w2 := by
  intro w w1 w2 rv1 rv2 k lane i n hJ h1 h2
  obtain ⟨h4, c, W, g, hc, hW, hg, hE⟩ := hJ
  have hb := h4.b
  have hb1 : bI B w1 := hb.keep h1 (by decide)
  obtain ⟨tys, hw, -⟩ := h1.2.2.2.2.1
  have e2 := pk2_read w w1 w2 rv1 rv2 k lane i n h4.1 h1 h2
  refine ⟨e2.1, up2 h4 h1 h2 (by decide) (by decide) (by decide) e2.2, ?_⟩
  obtain ⟨c0, hc0, hm⟩ := h4.1.2
  have ec : c0 = c := hc0.uni hc
  subst ec
  obtain ⟨l, s, z, y, r, f, al, as, ar, az, ay, af, hj⟩ := sh_of h4.1.1 hw
  have hr := rng_0 hb hw hc
  obtain ⟨fs, hp, hlen⟩ := ln_0 hb hw
  have hm1 := hm.keep hb h1 bl_343 bt_343 (by decide)
  have hg1 := hg.keep hb h1 bl_344 bt_344 (by decide) (by decide)
  have P1 : rd_P (B, c0, l, s, r, k, lane, i, n) w := ⟨⟨hb, sN.of hb hw, rI.of hb hw, hc, al, as, ar⟩, ⟨_, ⟨fs, hp, by omega, rfl⟩⟩, hr, fun k hk => (hj k hk).imp (fun z => z.1) (fun z => by rw [z.1.2.2.1]; exact ⟨z.1.2.2.2.1, z.1.2.2.2.2⟩)⟩
  have P2 : rm_P (B, c0, y, z, f, k, lane, i, n) w1 := ⟨⟨hb1, hm1, az.keep hb h1 bl_381 bt_381 (by decide) (by decide), ay.keep hb h1 bl_382 bt_382 (by decide) (by decide), af.keep hb h1 bl_383 bt_383 (by decide) (by decide)⟩, hr, fun k hk => by rcases hj k hk with z | z <;> omega⟩
  obtain ⟨v1, d1, f1, -, a1, -, q1⟩ := s_X11_read (B, c0, l, s, r, k, lane, i, n) w w1 rv1 h1 P1
  obtain ⟨c1, W1, b1, b2, b3⟩ := s6_X11_read ((B, c0, l, s, r, k, lane, i, n), W) w w1 rv1 h1 ⟨P1, hW⟩
  obtain ⟨c2, g2, b4, b5, b6⟩ := s7_X12_read ((B, c0, y, z, f, k, lane, i, n), g) w1 w2 rv2 h2 ⟨P2, hg1⟩
  obtain ⟨cx, n1, n2⟩ := e2.2.2
  have o1 : oF B 0 11 1 (.int c1) w2 := b1.keep hb1 h2 bl_0 bt_0 (by decide)
  have e12 : c1.toInt = c2.toInt := by rw [o1.uni n1, b4.uni n2]
  refine j6_step hr.1 hE e12 o1 (b2.keep hb1 h2 (by decide)) b5 b3 b6 (fun hx x hx4 => ?_)
  obtain ⟨hk, hlo, n0, i0, hin⟩ := rdQ_gd q1 (by rw [a1.uni b1]; exact hx)
  have hlo : decide ((l k.toInt.toNat).toInt = -1) = false := hlo
  have hin : i.toInt + n.toInt ≤ (s k.toInt.toNat).toInt := hin
  rcases hj k.toInt.toNat (by omega) with ⟨z1, z2⟩ | ⟨⟨z1, z2, z3, z4, z5⟩, z6⟩
  · rw [decide_eq_true z1] at hlo
    cases hlo
  · rw [z3] at hin
    have e6 : (60 : Int32).toInt = 60 := by decide
    have m1 : (60 * k).toInt = 60 * k.toInt := by
      rw [i_mul (by rw [e6]; omega) (by rw [e6]; omega), e6]
    have m2 : (60 * k + i).toInt = 60 * k.toInt + i.toInt := by
      rw [i_add (by rw [m1]; omega) (by rw [m1]; omega), m1]
    have er : runA (vo_g i (r k.toInt.toNat)) n.toInt.toNat = runA (vo_g (60 * k + i) f) n.toInt.toNat := runA_eq (fun u hu => by
      show r k.toInt.toNat (i.toInt.toNat + u) = f ((60 * k + i).toInt.toNat + u)
      rw [z6 _ (by omega), m2]
      exact congrArg f (by omega))
    show (bdS 1 (runA (vo_g i (r k.toInt.toNat)) n.toInt.toNat)).2.2 0 x = (bdS 1 (runA (vo_g (60 * k + i) f) n.toInt.toNat)).2.2 0 x
    rw [er]
theorem pk6_make {B : Nat → Nat} : ∀ (w w1 w2 : lW) (rv1 rv2 : Option Value) (how a b : Int32), J6 B w → fLr r_X11_make [.ref (B 0), .int how, .int a, .int b] w rv1 w1 → fLr r_X12_make [.ref (B 343), .int how, .int a, .int b] w1 rv2 w2 → rv1 = rv2 ∧ J6 B w2 := by
  intro w w1 w2 rv1 rv2 how a b hJ h1 h2
  obtain ⟨h4, c, W, g, hc, hW, hg, hE⟩ := hJ
  have hb := h4.b
  have hb1 : bI B w1 := hb.keep h1 (by decide)
  obtain ⟨tys, hw, -⟩ := h1.2.2.2.2.1
  have e2 := pk2_make w w1 w2 rv1 rv2 how a b h4.1 h1 h2
  refine ⟨e2.1, up2 h4 h1 h2 (by decide) (by decide) (by decide) e2.2, ?_⟩
  obtain ⟨c0, hc0, hm⟩ := h4.1.2
  have ec : c0 = c := hc0.uni hc
  subst ec
  have hr := rng_0 hb hw hc
  have hm1 := hm.keep hb h1 bl_343 bt_343 (by decide)
  obtain ⟨cT, hT⟩ := hg.keep hb h1 bl_344 bt_344 (by decide) (by decide)
  obtain ⟨fs, hp, hl, hv⟩ := id hm1
  obtain ⟨fs2, hp2, -, hA⟩ := hm1.ref hb1 bl_343 (show _ = some (2, 0, 344) from rfl) (k' := 2)
  have e : fs = fs2 := congrArg Prod.snd (Sum.inr.inj (Option.some.inj (hp.symm.trans hp2)))
  subst e
  obtain ⟨v1, c1, W1, -, b1, b2, q1, b3⟩ := s6_X11_make ((B, c0, W), how, a, b) w w1 rv1 h1 ⟨⟨hb, sN.of hb hw, hc⟩, hW, hr⟩
  obtain ⟨v2, c2, g2, -, ⟨fs', p1, p2, p3⟩, p4, q2, b6⟩ := (s7_X12_make _ _ _ _ _ _ h2).2 ((B 343, fs, c0), (B 344, cT, g), how, a, b) rfl ⟨hp, ⟨hv, hA, hl⟩, hT, hr⟩
  have b4 : oF B 343 12 1 (.int c2) w2 := ⟨fs', p1, p2, p3⟩
  obtain ⟨cx, n1, n2⟩ := e2.2.2
  have o1 : oF B 0 11 1 (.int c1) w2 := b1.keep hb1 h2 bl_0 bt_0 (by decide)
  have e12 : c1.toInt = c2.toInt := by rw [o1.uni n1, b4.uni n2]
  refine j6_step (V := fun x => opV how (W a.toInt.toNat x) (W b.toInt.toNat x)) (V2 := fun u => opV how (g (4 * a.toInt.toNat + u)) (g (4 * b.toInt.toNat + u))) hr.1 hE e12 o1 (b2.keep hb1 h2 (by decide)) p4 b3 b6 (fun hx x hx4 => ?_)
  obtain ⟨ga, gb⟩ := mkQ_gd q1 hx
  show opV how (W a.toInt.toNat x) (W b.toInt.toNat x) = opV how (g (4 * a.toInt.toNat + x)) (g (4 * b.toInt.toNat + x))
  rw [hE a.toInt.toNat (by omega) x hx4]
  rcases gb with g0 | gb
  · unfold opV
    rw [if_pos g0, if_pos g0]
  · rw [hE b.toInt.toNat (by omega) x hx4]
section
variable {B : Nat → Nat} {rt1 rt2 : Nat} {Wr1 Wr2 : List (Nat × Nat)} {T1 T2 : fT} {cc1 cc2 : ByteArray} {As1 As2 : List Value} {w w1 w2 : lW} {rv1 rv2 : Option Value}
theorem up4 (hJ : J6 B w) (h1 : fLr (fq cw_TT cw_SG rt1 Wr1 T1 cc1) As1 w rv1 w1) (h2 : fLr (fq cw_TT cw_SG rt2 Wr2 T2 cc2) As2 w1 rv2 w2) (k1 : bs_K.all (fun x => !(Wr1.contains x)) = true) (a1 : (11, 1) ∉ Wr1 ∧ (87, 0) ∉ Wr1 ∧ (45, 0) ∉ Wr1) (a2 : (11, 1) ∉ Wr2 ∧ (87, 0) ∉ Wr2 ∧ (45, 0) ∉ Wr2) (hJ4 : J4 B w2) : J6 B w2 :=
  ⟨hJ4, kp6 h2 (hJ.1.b.keep h1 k1) (kp6 h1 hJ.1.b hJ.2 a1) a2⟩
end
