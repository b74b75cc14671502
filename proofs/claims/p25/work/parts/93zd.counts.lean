/-! the two's counts of claims and of rules agree -/
theorem rng_of {B : Nat → Nat} {w : lW} (hb : bI B w) {tys : List (ClassId × FieldType)} (hw : ck_wo tys cw_TT cw_SG w.1 w.2) {q ci k t k0 : Nat} {lo hi : Int} {l : List ck_T} {c : mk_C} {x : Int32} (hc : lp_L2[q]? = some c) (ht : lp_sh[q]? = some t) (hT : cw_TT[t]? = some (0, ci, k0, l)) (hk : l[k]? = some (0, lo, hi, [])) (ho : oF B q ci k (.int x) w) : lo ≤ x.toInt ∧ x.toInt ≤ hi := by
  obtain ⟨e, h1, h2, -⟩ := hb.2.h hb.1 hc
  obtain ⟨td, d1, d2⟩ := hw.2.1 q _ e t h1 (hb.2.1 q t ht)
  obtain ⟨fs, hp, hl, hv⟩ := ho
  rw [hp] at h2
  have h2 : .inr (ci, fs) = e := Option.some.inj h2
  subst h2
  have e1 : td = _ := Option.some.inj (d1.symm.trans hT)
  subst e1
  obtain ⟨vs, ev, -, hf⟩ := d2
  have ev : fs = vs := congrArg Prod.snd (Sum.inr.inj ev)
  subst ev
  obtain ⟨v, g1, g2⟩ := hf k (0, lo, hi, []) hk
  obtain ⟨y, rfl, y0, y1⟩ := (show ∃ y : Int32, v = .int y ∧ lo ≤ y.toInt ∧ y.toInt ≤ hi from g2)
  rw [List.getD_eq_getElem?_getD, g1] at hv
  have hv : Value.int y = .int x := hv
  injection hv with hv
  subst hv
  exact ⟨y0, y1⟩
/-- an array of ints there for good -/
theorem aI.of {B : Nat → Nat} {w : lW} (hb : bI B w) {tys : List (ClassId × FieldType)} (hw : ck_wo tys cw_TT cw_SG w.1 w.2) {q n t k0 : Nat} {l : List ck_T} {c : mk_C} (hc : lp_L2[q]? = some c) (ht : lp_sh[q]? = some t) (hT : cw_TT[t]? = some (1, n, k0, l)) : ∃ f, aI B q n f w := by
  obtain ⟨cA, f, h⟩ := hb.2.iv hb.1 hw hc ht hT
  exact ⟨f, cA, h⟩
theorem bl_366 : lp_L2[366]? = some (1, 0, 12, []) := lp_at_ok (by decide +kernel)
theorem bl_367 : lp_L2[367]? = some (1, 0, 12, []) := lp_at_ok (by decide +kernel)
theorem bl_357 : lp_L2[357]? = some (1, 0, 10, []) := lp_at_ok (by decide +kernel)
theorem bl_358 : lp_L2[358]? = some (1, 0, 10, []) := lp_at_ok (by decide +kernel)
theorem bl_359 : lp_L2[359]? = some (1, 0, 10, []) := lp_at_ok (by decide +kernel)
theorem bl_360 : lp_L2[360]? = some (1, 0, 10, []) := lp_at_ok (by decide +kernel)
theorem bl_361 : lp_L2[361]? = some (1, 0, 10, []) := lp_at_ok (by decide +kernel)
def j4c (B : Nat → Nat) (w : lW) : Prop := ∃ m : Int32, oF B 282 3 0 (.int m) w ∧ oF B 343 12 40 (.int m) w
def j4r (B : Nat → Nat) (w : lW) : Prop := ∃ m : Int32, oF B 207 9 1 (.int m) w ∧ oF B 343 12 27 (.int m) w
def j4 (B : Nat → Nat) (w : lW) : Prop := j4c B w ∧ j4r B w
def J4 (B : Nat → Nat) : lW → Prop := fun w => J2 B w ∧ j4 B w
theorem J4.b {B : Nat → Nat} {w : lW} (h : J4 B w) : bI B w := ⟨h.1.1.1, h.1.1.2.1⟩
section
variable {B : Nat → Nat} {rt : Nat} {Wr : List (Nat × Nat)} {T : fT} {cc : ByteArray} {As : List Value} {w w' : lW} {rv : Option Value}
theorem kp4c (h : fLr (fq cw_TT cw_SG rt Wr T cc) As w rv w') (hb : bI B w) (hJ : j4c B w) (hw : (15, 0) ∉ Wr ∧ (17, 40) ∉ Wr) : j4c B w' := by
  obtain ⟨c, h1, h2⟩ := hJ
  exact ⟨c, h1.keep hb h bl_282 bt_282 hw.1, h2.keep hb h bl_343 bt_343 hw.2⟩
theorem kp4r (h : fLr (fq cw_TT cw_SG rt Wr T cc) As w rv w') (hb : bI B w) (hJ : j4r B w) (hw : (14, 1) ∉ Wr ∧ (17, 27) ∉ Wr) : j4r B w' := by
  obtain ⟨c, h1, h2⟩ := hJ
  exact ⟨c, h1.keep hb h bl_207 bt_207 hw.1, h2.keep hb h bl_343 bt_343 hw.2⟩
theorem kp4 (h : fLr (fq cw_TT cw_SG rt Wr T cc) As w rv w') (hb : bI B w) (hJ : j4 B w) (hw : ((15, 0) ∉ Wr ∧ (17, 40) ∉ Wr) ∧ (14, 1) ∉ Wr ∧ (17, 27) ∉ Wr) : j4 B w' :=
  ⟨kp4c h hb hJ.1 hw.1, kp4r h hb hJ.2 hw.2⟩
theorem fr4 (h : fLr (fq cw_TT cw_SG rt Wr T cc) As w rv w') (hJ : J4 B w) (hk : bs_K.all (fun x => !(Wr.contains x)) = true) (hw : (20, 0) ∉ Wr ∧ (22, 0) ∉ Wr ∧ (23, 0) ∉ Wr ∧ (82, 0) ∉ Wr ∧ (83, 0) ∉ Wr ∧ (84, 0) ∉ Wr) (hw2 : (11, 1) ∉ Wr ∧ (17, 1) ∉ Wr) (hw4 : ((15, 0) ∉ Wr ∧ (17, 40) ∉ Wr) ∧ (14, 1) ∉ Wr ∧ (17, 27) ∉ Wr) : J4 B w' :=
  ⟨fr2 h hJ.1 hk hw hw2, kp4 h hJ.b hJ.2 hw4⟩
end
theorem pk4_claim {B : Nat → Nat} : ∀ (w w1 w2 : lW) (rv1 rv2 : Option Value) (s source : Int32), J4 B w → fLr r_X11_claim [.ref (B 0), .int s, .int source] w rv1 w1 → fLr r_X12_claim [.ref (B 343), .int s, .int source] w1 rv2 w2 → rv1 = rv2 ∧ J4 B w2 := by
  intro w w1 w2 rv1 rv2 s source hJ h1 h2
  have hb := hJ.b
  have hJ1 := fr2 h1 hJ.1 (by decide) (by decide) (by decide)
  have hJ2 := fr2 h2 hJ1 (by decide) (by decide) (by decide)
  have hrr := kp4r h2 (hb.keep h1 (by decide)) (kp4r h1 hb hJ.2.2 (by decide)) (by decide)
  obtain ⟨⟨-, c, hc, hm⟩, ⟨m, hq, hn⟩, -⟩ := hJ
  have hb1 : bI B w1 := hb.keep h1 (by decide)
  have hm1 := hm.keep hb h1 bl_343 bt_343 (by decide)
  have hn1 := hn.keep hb h1 bl_343 bt_343 (by decide)
  obtain ⟨tys, hw, -⟩ := h1.2.2.2.2.1
  obtain ⟨tys1, hw1, -⟩ := h2.2.2.2.2.1
  have hr := rng_0 hb hw hc
  have hr2 := rng_of hb hw bl_282 bt_282 (show cw_TT[15]? = some (0, 3, _, _) from rfl) (show _ = some (0, 0, 12, []) from rfl) hq
  obtain ⟨f, hf⟩ := aI.of hb hw bl_283 bt_283 (show cw_TT[34]? = some (1, 12, _, _) from rfl)
  obtain ⟨v1, m1, rfl, a1, q1⟩ := s_X11_claim (B, c, m, s, source) w w1 rv1 h1 ⟨⟨hb, sN.of hb hw, hc⟩, ⟨hb, hq⟩, hr, hr2.2, f, hf⟩
  obtain ⟨fs, hp, hlen⟩ := ln_343 hb1 hw1
  have get : ∀ {k : Nat} {v : Value}, oF B 343 12 k v w1 → fs.getD k .null = v := fun {k v} ⟨fs2, g1, _, g3⟩ => by
    have e : fs = fs2 := congrArg Prod.snd (Sum.inr.inj (Option.some.inj (hp.symm.trans g1)))
    rw [e]
    exact g3
  have r1 := get (hm1.ref hb1 bl_343 (show _ = some (2, 0, 366) from rfl) (k' := 41))
  have r2 := get (hm1.ref hb1 bl_343 (show _ = some (2, 0, 367) from rfl) (k' := 42))
  obtain ⟨v2, m2, rfl, a2, q2⟩ := (s_X12_claim _ _ _ _ _ _ h2).2 ((B 343, fs, c, m), (B 366, B 367), s, source) rfl ⟨hp, ⟨get hm1, get hn1, r1, r2, hlen⟩, hb1.2.ne hb1.1 bl_343 bl_366 (by decide), hb1.2.ne hb1.1 bl_343 bl_367 (by decide)⟩
  obtain ⟨rfl, rfl⟩ := clQ_eq q1 q2
  exact ⟨rfl, hJ2, ⟨m1, a1.keep hb1 h2 bl_282 bt_282 (by decide), a2⟩, hrr⟩
theorem pk4_rule {B : Nat → Nat} : ∀ (w w1 w2 : lW) (rv1 rv2 : Option Value) (kind s th un rank : Int32), J4 B w → fLr r_X11_rule [.ref (B 0), .int kind, .int s, .int th, .int un, .int rank] w rv1 w1 → fLr r_X12_rule [.ref (B 343), .int kind, .int s, .int th, .int un, .int rank] w1 rv2 w2 → rv1 = rv2 ∧ J4 B w2 := by
  intro w w1 w2 rv1 rv2 kind s th un rank hJ h1 h2
  have hb := hJ.b
  have hJ1 := fr2 h1 hJ.1 (by decide) (by decide) (by decide)
  have hJ2 := fr2 h2 hJ1 (by decide) (by decide) (by decide)
  have hcc := kp4c h2 (hb.keep h1 (by decide)) (kp4c h1 hb hJ.2.1 (by decide)) (by decide)
  obtain ⟨⟨-, c, hc, hm⟩, -, ⟨m, hq, hn⟩⟩ := hJ
  have hb1 : bI B w1 := hb.keep h1 (by decide)
  have hm1 := hm.keep hb h1 bl_343 bt_343 (by decide)
  have hn1 := hn.keep hb h1 bl_343 bt_343 (by decide)
  obtain ⟨tys, hw, -⟩ := h1.2.2.2.2.1
  obtain ⟨tys1, hw1, -⟩ := h2.2.2.2.2.1
  have hr := rng_0 hb hw hc
  have hr2 := rng_of hb hw bl_207 bt_207 (show cw_TT[14]? = some (0, 9, _, _) from rfl) (show _ = some (0, 0, 10, []) from rfl) hq
  obtain ⟨v1, m1, rfl, a1, q1⟩ := s_X11_rule (B, (c, m), kind, s, th, un, rank) w w1 rv1 h1 ⟨⟨hb, sN.of hb hw, hc⟩, ⟨hb, hq, tI.of hb hw⟩, hr, hr2.2⟩
  obtain ⟨fs, hp, hlen⟩ := ln_343 hb1 hw1
  have get : ∀ {k : Nat} {v : Value}, oF B 343 12 k v w1 → fs.getD k .null = v := fun {k v} ⟨fs2, g1, _, g3⟩ => by
    have e : fs = fs2 := congrArg Prod.snd (Sum.inr.inj (Option.some.inj (hp.symm.trans g1)))
    rw [e]
    exact g3
  have hA : ∀ i, 28 ≤ i → i ≤ 32 → fs.getD i .null = .ref (B (329 + i)) ∧ B 343 ≠ B (329 + i) := by
    intro i h28 h32
    rcases (show i = 28 ∨ i = 29 ∨ i = 30 ∨ i = 31 ∨ i = 32 by omega) with rfl | rfl | rfl | rfl | rfl
    · exact ⟨get (hm1.ref hb1 bl_343 (show _ = some (2, 0, 357) from rfl) (k' := 28)), hb1.2.ne hb1.1 bl_343 bl_357 (by decide)⟩
    · exact ⟨get (hm1.ref hb1 bl_343 (show _ = some (2, 0, 358) from rfl) (k' := 29)), hb1.2.ne hb1.1 bl_343 bl_358 (by decide)⟩
    · exact ⟨get (hm1.ref hb1 bl_343 (show _ = some (2, 0, 359) from rfl) (k' := 30)), hb1.2.ne hb1.1 bl_343 bl_359 (by decide)⟩
    · exact ⟨get (hm1.ref hb1 bl_343 (show _ = some (2, 0, 360) from rfl) (k' := 31)), hb1.2.ne hb1.1 bl_343 bl_360 (by decide)⟩
    · exact ⟨get (hm1.ref hb1 bl_343 (show _ = some (2, 0, 361) from rfl) (k' := 32)), hb1.2.ne hb1.1 bl_343 bl_361 (by decide)⟩
  obtain ⟨v2, m2, rfl, a2, q2⟩ := (s_X12_rule _ _ _ _ _ _ h2).2 ((B 343, fs, c, m), fun i => B (329 + i), kind, s, th, un, rank) rfl ⟨⟨hp, ⟨get hm1, get hn1, hlen⟩, hA⟩, hr2.2⟩
  obtain ⟨rfl, rfl⟩ := ruQ_eq q1 q2
  exact ⟨rfl, hJ2, hcc, m1, a1.keep hb1 h2 bl_207 bt_207 (by decide), a2⟩
section
variable {B : Nat → Nat} {rt1 rt2 : Nat} {Wr1 Wr2 : List (Nat × Nat)} {T1 T2 : fT} {cc1 cc2 : ByteArray} {As1 As2 : List Value} {w w1 w2 : lW} {rv1 rv2 : Option Value}
theorem up2 (hJ : J4 B w) (h1 : fLr (fq cw_TT cw_SG rt1 Wr1 T1 cc1) As1 w rv1 w1) (h2 : fLr (fq cw_TT cw_SG rt2 Wr2 T2 cc2) As2 w1 rv2 w2) (k1 : bs_K.all (fun x => !(Wr1.contains x)) = true) (a1 : ((15, 0) ∉ Wr1 ∧ (17, 40) ∉ Wr1) ∧ (14, 1) ∉ Wr1 ∧ (17, 27) ∉ Wr1) (a2 : ((15, 0) ∉ Wr2 ∧ (17, 40) ∉ Wr2) ∧ (14, 1) ∉ Wr2 ∧ (17, 27) ∉ Wr2) (hJ2 : J2 B w2) : J4 B w2 :=
  ⟨hJ2, kp4 h2 (hJ.b.keep h1 k1) (kp4 h1 hJ.b hJ.2 a1) a2⟩
theorem up48 (hJ : J4 B w) (h1 : fLr (fq cw_TT cw_SG rt1 Wr1 T1 cc1) As1 w rv1 w1) (h2 : fLr (fq cw_TT cw_SG rt2 Wr2 T2 cc2) As2 w1 rv2 w2) (k1 : bs_K.all (fun x => !(Wr1.contains x)) = true) (a1 : ((15, 0) ∉ Wr1 ∧ (17, 40) ∉ Wr1) ∧ (14, 1) ∉ Wr1 ∧ (17, 27) ∉ Wr1) (a2 : ((15, 0) ∉ Wr2 ∧ (17, 40) ∉ Wr2) ∧ (14, 1) ∉ Wr2 ∧ (17, 27) ∉ Wr2) (b1 : (11, 1) ∉ Wr1 ∧ (17, 1) ∉ Wr1) (b2 : (11, 1) ∉ Wr2 ∧ (17, 1) ∉ Wr2) (h48 : J48 B w2) : J4 B w2 :=
  up2 hJ h1 h2 k1 a1 a2 ⟨h48, kp2 h2 (hJ.b.keep h1 k1) (kp2 h1 hJ.b hJ.1.2 b1) b2⟩
end
