/-! the two's counts of sentences agree -/
def j2 (B : Nat → Nat) (w : lW) : Prop := ∃ c : Int32, oF B 0 11 1 (.int c) w ∧ oF B 343 12 1 (.int c) w
def J2 (B : Nat → Nat) : lW → Prop := fun w => J48 B w ∧ j2 B w
section
variable {B : Nat → Nat} {rt : Nat} {Wr : List (Nat × Nat)} {T : fT} {cc : ByteArray} {As : List Value} {w w' : lW} {rv : Option Value}
theorem kp2 (h : fLr (fq cw_TT cw_SG rt Wr T cc) As w rv w') (hb : bI B w) (hJ : j2 B w) (hw : (11, 1) ∉ Wr ∧ (17, 1) ∉ Wr) : j2 B w' := by
  obtain ⟨c, h1, h2⟩ := hJ
  exact ⟨c, h1.keep hb h bl_0 bt_0 hw.1, h2.keep hb h bl_343 bt_343 hw.2⟩
theorem fr2 (h : fLr (fq cw_TT cw_SG rt Wr T cc) As w rv w') (hJ : J2 B w) (hk : bs_K.all (fun x => !(Wr.contains x)) = true) (hw : (20, 0) ∉ Wr ∧ (22, 0) ∉ Wr ∧ (23, 0) ∉ Wr ∧ (82, 0) ∉ Wr ∧ (83, 0) ∉ Wr ∧ (84, 0) ∉ Wr) (hw2 : (11, 1) ∉ Wr ∧ (17, 1) ∉ Wr) : J2 B w' :=
  ⟨fr48 h hJ.1 hk hw, kp2 h ⟨hJ.1.1, hJ.1.2.1⟩ hJ.2 hw2⟩
theorem rng_0 (hb : bI B w) {tys : List (ClassId × FieldType)} (hw : ck_wo tys cw_TT cw_SG w.1 w.2) {c : Int32} (hc : oF B 0 11 1 (.int c) w) : 0 ≤ c.toInt ∧ c.toInt ≤ 60 := by
  obtain ⟨e, h1, h2, -⟩ := hb.2.h hb.1 bl_0
  obtain ⟨td, d1, d2⟩ := hw.2.1 0 _ e 11 h1 (hb.2.1 0 11 bt_0)
  obtain ⟨fs, hp, hl, hv⟩ := hc
  rw [hp] at h2
  have h2 : .inr (11, fs) = e := Option.some.inj h2
  subst h2
  have e1 : td = _ := Option.some.inj (d1.symm.trans (show cw_TT[11]? = some (0, 11, _, _) from rfl))
  subst e1
  obtain ⟨vs, ev, -, hf⟩ := d2
  have ev : fs = vs := congrArg Prod.snd (Sum.inr.inj ev)
  subst ev
  obtain ⟨v, g1, g2⟩ := hf 1 (0, 0, 60, []) rfl
  obtain ⟨x, rfl, x0, x1⟩ := (show ∃ x : Int32, v = .int x ∧ (0 : Int) ≤ x.toInt ∧ x.toInt ≤ 60 from g2)
  rw [List.getD_eq_getElem?_getD, g1] at hv
  have hv : Value.int x = .int c := hv
  injection hv with hv
  subst hv
  exact ⟨x0, x1⟩
end
theorem rdQ_eq {k lane i n c : Int32} {lo lo' di di' : Bool} {Z Z' t t' : Int} {v v2 c' c2 ft f2 : Int32} (h1 : rdQ k lane i n c lo di Z t v c' ft) (h2 : rdQ k lane i n c lo' di' Z' t' v2 c2 f2) (he : (0 ≤ k.toInt ∧ k.toInt < 4) → lo = lo' ∧ (lo = false → di = di' ∧ (di = false → Z = Z' ∧ (0 ≤ n.toInt → 0 ≤ i.toInt → i.toInt + n.toInt ≤ Z → t = t')))) : v = v2 ∧ c' = c2 ∧ ft = f2 := by
  unfold rdQ at h1 h2
  by_cases hk : 0 ≤ k.toInt ∧ k.toInt < 4
  · rw [if_pos hk] at h1 h2
    obtain ⟨rfl, he1⟩ := he hk
    by_cases hl : 0 ≤ lane.toInt ∧ lane.toInt < 3
    · rw [if_pos hl] at h1 h2
      cases lo with
      | true =>
        obtain ⟨rfl, rfl, rfl⟩ := h1
        obtain ⟨rfl, rfl, rfl⟩ := h2
        exact ⟨rfl, rfl, rfl⟩
      | false =>
        obtain ⟨rfl, he2⟩ := he1 rfl
        cases di with
        | true =>
          obtain ⟨rfl, rfl, rfl⟩ := h1
          obtain ⟨rfl, rfl, rfl⟩ := h2
          exact ⟨rfl, rfl, rfl⟩
        | false =>
          obtain ⟨rfl, ht⟩ := he2 rfl
          dsimp only at h1 h2
          by_cases hn : n.toInt < 0
          · rw [if_pos hn] at h1 h2
            obtain ⟨rfl, rfl, rfl⟩ := h1
            obtain ⟨rfl, rfl, rfl⟩ := h2
            exact ⟨rfl, rfl, rfl⟩
          · rw [if_neg hn] at h1 h2
            by_cases hi : 0 ≤ i.toInt ∧ i.toInt + n.toInt ≤ Z
            · rw [if_pos hi] at h1 h2
              obtain rfl := ht (by omega) hi.1 hi.2
              by_cases hc : c.toInt = 60
              · rw [if_pos hc] at h1 h2
                obtain ⟨rfl, rfl, rfl⟩ := h1
                obtain ⟨rfl, rfl, rfl⟩ := h2
                exact ⟨rfl, rfl, rfl⟩
              · rw [if_neg hc] at h1 h2
                by_cases h0 : 0 ≤ t
                · rw [if_pos h0] at h1 h2
                  obtain ⟨e1, rfl, rfl⟩ := h1
                  obtain ⟨e2, rfl, rfl⟩ := h2
                  exact ⟨Int32.toInt_inj.mp (e1.trans e2.symm), rfl, rfl⟩
                · rw [if_neg h0] at h1 h2
                  obtain ⟨rfl, rfl, rfl⟩ := h1
                  obtain ⟨e2, e3, rfl⟩ := h2
                  exact ⟨e2.symm, e3.symm, rfl⟩
            · rw [if_neg hi] at h1 h2
              obtain ⟨rfl, rfl, rfl⟩ := h1
              obtain ⟨rfl, rfl, rfl⟩ := h2
              exact ⟨rfl, rfl, rfl⟩
    · rw [if_neg hl] at h1 h2
      obtain ⟨rfl, rfl, rfl⟩ := h1
      obtain ⟨rfl, rfl, rfl⟩ := h2
      exact ⟨rfl, rfl, rfl⟩
  · rw [if_neg hk] at h1 h2
    obtain ⟨rfl, rfl, rfl⟩ := h1
    obtain ⟨rfl, rfl, rfl⟩ := h2
    exact ⟨rfl, rfl, rfl⟩
theorem mkQ_eq {how a b c v v2 c' c2 : Int32} (h1 : mkQ how a b c v c') (h2 : mkQ how a b c v2 c2) : v = v2 ∧ c' = c2 := by
  unfold mkQ at h1 h2
  split at h1
  · rename_i a1
    rw [if_pos a1] at h2
    split at h1
    · rename_i a2
      rw [if_pos a2] at h2
      split at h1
      · rename_i a3
        rw [if_pos a3] at h2
        exact ⟨h1.1.trans h2.1.symm, h1.2.trans h2.2.symm⟩
      · rename_i a3
        rw [if_neg a3] at h2
        exact ⟨h1.1.trans h2.1.symm, h1.2.trans h2.2.symm⟩
    · rename_i a2
      rw [if_neg a2] at h2
      exact ⟨h1.1.trans h2.1.symm, h1.2.trans h2.2.symm⟩
  · rename_i a1
    rw [if_neg a1] at h2
    exact ⟨h1.1.trans h2.1.symm, h1.2.trans h2.2.symm⟩
/-- what both hold of the sheets -/
theorem sh_of {B : Nat → Nat} {w : lW} (hJ : J48 B w) {tys : List (ClassId × FieldType)} (hw : ck_wo tys cw_TT cw_SG w.1 w.2) : ∃ (l s z y : Nat → Int32) (r : Nat → Nat → Int32) (f : Nat → Int32), aI B 340 4 l w ∧ aI B 341 4 s w ∧ (∀ i, i < 4 → aI B (336 + i) 60 (r i) w) ∧ aI B 381 4 z w ∧ aI B 382 4 y w ∧ aI B 383 240 f w ∧ c48 l s z y r f := by
  obtain ⟨hd, hB, hj⟩ := hJ
  obtain ⟨d, dp, dL, dS, dR, hp⟩ := dk_of hB hd hw
  obtain ⟨m, q, mp, mZ, mL, mC, mH, hm, hh⟩ := md_of hB hd hw
  have hl0 := hp.2.1.2
  rw [dL] at hl0
  have hs0 := hp.2.2.1.2
  rw [dS] at hs0
  have hz0 := hm.2.1.2
  rw [mZ] at hz0
  have hy0 := hm.2.2.1.2
  rw [mL] at hy0
  have hf0 := hm.2.2.2.1.2
  rw [mC] at hf0
  have hr0 : ∀ i, i < 4 → hof w.1 (B (336 + i)) = some (.inl ((d.R i).2.1, 60, .inl (d.R i).2.2)) := fun i hi => by
    rw [← dR i hi]
    exact (hp.2.2.2.2.2 i hi).2.1
  refine ⟨d.l, d.z, m.z, m.l, fun i => (d.R i).2.2, m.f, ⟨_, hl0⟩, ⟨_, hs0⟩, fun i hi => ⟨_, hr0 i hi⟩, ⟨_, hz0⟩, ⟨_, hy0⟩, ⟨_, hf0⟩, ?_⟩
  unfold j48 at hj
  rw [hl0, hs0, hz0, hy0, hf0] at hj
  refine c48.r (r := rowsB B (hof w.1)) hj (fun k j hk => ?_)
  unfold rowsB
  rw [hr0 k hk]
  rfl
theorem pk2_read {B : Nat → Nat} : ∀ (w w1 w2 : lW) (rv1 rv2 : Option Value) (k lane i n : Int32), J2 B w → fLr r_X11_read [.ref (B 0), .int k, .int lane, .int i, .int n] w rv1 w1 → fLr r_X12_read [.ref (B 343), .int k, .int lane, .int i, .int n] w1 rv2 w2 → rv1 = rv2 ∧ J2 B w2 := by
  intro w w1 w2 rv1 rv2 k lane i n hJ h1 h2
  obtain ⟨hJ, c, hc, hm⟩ := hJ
  have hb : bI B w := ⟨hJ.1, hJ.2.1⟩
  have hJ1 := fr48 h1 hJ (by decide) (by decide)
  have hJ2 := fr48 h2 hJ1 (by decide) (by decide)
  have hb1 : bI B w1 := hb.keep h1 (by decide)
  have hm1 := hm.keep hb h1 bl_343 bt_343 (by decide)
  obtain ⟨tys, hw, -⟩ := h1.2.2.2.2.1
  obtain ⟨l, s, z, y, r, f, al, as, ar, az, ay, af, hj⟩ := sh_of hJ hw
  have hr := rng_0 hb hw hc
  obtain ⟨fs, hp, hlen⟩ := ln_0 hb hw
  have s1 := s_X11_read (B, c, l, s, r, k, lane, i, n) w w1 rv1 h1 ⟨⟨hb, sN.of hb hw, rI.of hb hw, hc, al, as, ar⟩, ⟨_, ⟨fs, hp, by omega, rfl⟩⟩, hr, fun k hk => (hj k hk).imp (fun z => z.1) (fun z => by rw [z.1.2.2.1]; exact ⟨z.1.2.2.2.1, z.1.2.2.2.2⟩)⟩
  have s2 := s_X12_read (B, c, y, z, f, k, lane, i, n) w1 w2 rv2 h2 ⟨⟨hb1, hm1, az.keep hb h1 bl_381 bt_381 (by decide) (by decide), ay.keep hb h1 bl_382 bt_382 (by decide) (by decide), af.keep hb h1 bl_383 bt_383 (by decide) (by decide)⟩, hr, fun k hk => by rcases hj k hk with z | z <;> omega⟩
  obtain ⟨v1, c1, f1, rfl, a1, b1, q1⟩ := s1
  obtain ⟨v2, c2, f2, rfl, a2, b2, q2⟩ := s2
  obtain ⟨rfl, rfl, -⟩ := rdQ_eq q1 q2 (fun hk => by
    rcases hj k.toInt.toNat (by omega) with ⟨z1, z2⟩ | ⟨⟨z1, z2, z3, z4, z5⟩, z6⟩
    · rw [decide_eq_true z1, decide_eq_true z2]
      exact ⟨rfl, fun e => by cases e⟩
    · rw [decide_eq_false (show ¬ (l k.toInt.toNat).toInt = -1 by omega), decide_eq_false (show ¬ (z k.toInt.toNat).toInt < 0 by omega), z2, z3]
      refine ⟨rfl, fun _ => ⟨rfl, fun _ => ⟨rfl, fun n0 i0 hin => ?_⟩⟩⟩
      refine acA_eq (fun x hx0 hx => ?_)
      show r k.toInt.toNat (i.toInt.toNat + x) = f (60 * k.toInt.toNat + i.toInt.toNat + x)
      rw [z6 _ (by omega), Nat.add_assoc])
  exact ⟨rfl, hJ2, c1, a1.keep hb1 h2 bl_0 bt_0 (by decide), a2⟩
theorem pk2_make {B : Nat → Nat} : ∀ (w w1 w2 : lW) (rv1 rv2 : Option Value) (how a b : Int32), J2 B w → fLr r_X11_make [.ref (B 0), .int how, .int a, .int b] w rv1 w1 → fLr r_X12_make [.ref (B 343), .int how, .int a, .int b] w1 rv2 w2 → rv1 = rv2 ∧ J2 B w2 := by
  intro w w1 w2 rv1 rv2 how a b hJ h1 h2
  obtain ⟨hJ, c, hc, hm⟩ := hJ
  have hb : bI B w := ⟨hJ.1, hJ.2.1⟩
  have hJ1 := fr48 h1 hJ (by decide) (by decide)
  have hJ2 := fr48 h2 hJ1 (by decide) (by decide)
  have hb1 : bI B w1 := hb.keep h1 (by decide)
  have hm1 := hm.keep hb h1 bl_343 bt_343 (by decide)
  obtain ⟨tys, hw, -⟩ := h1.2.2.2.2.1
  obtain ⟨tys1, hw1, -⟩ := h2.2.2.2.2.1
  have hr := rng_0 hb hw hc
  have s1 := s_X11_make (B, c, how, a, b) w w1 rv1 h1 ⟨⟨hb, sN.of hb hw, hc⟩, hr⟩
  obtain ⟨fs, hp, hl, hv⟩ := id hm1
  obtain ⟨fs2, hp2, -, hT⟩ := hm1.ref hb1 bl_343 (show _ = some (2, 0, 344) from rfl) (k' := 2)
  have e : fs = fs2 := congrArg Prod.snd (Sum.inr.inj (Option.some.inj (hp.symm.trans hp2)))
  subst e
  obtain ⟨e0, t1, t2, -⟩ := hb1.2.h hb1.1 bl_344
  obtain ⟨td, d1, d2⟩ := hw1.2.1 344 _ e0 45 t1 (hb1.2.1 344 45 bt_344)
  have e1 : td = _ := Option.some.inj (d1.symm.trans (show cw_TT[45]? = some (2, 240, _, _) from rfl))
  subst e1
  obtain ⟨cT, g, -, rfl⟩ := d2
  obtain ⟨v2, c2, rfl, ⟨fs', p1, p2, p3⟩, q2⟩ := (s_X12_make _ _ _ _ _ _ h2).2 ((B 343, fs, c), (B 344, cT, g), how, a, b) rfl ⟨hp, ⟨hv, hT, hl⟩, t2, hr⟩
  obtain ⟨v1, c1, rfl, a1, q1⟩ := s1
  obtain ⟨rfl, rfl⟩ := mkQ_eq q1 q2
  exact ⟨rfl, hJ2, c1, a1.keep hb1 h2 bl_0 bt_0 (by decide), ⟨fs', p1, p2, p3⟩⟩
