/-! the pairs: strikes, claim, trust, read, make -/
theorem skV_zb {A : zW} {x y : Int32} (h0 : 0 ≤ x.toInt) (h1 : x.toInt < 12) : skV A x y = zb (zbi (zI A 285 y.toInt.toNat) x.toInt.toNat) := by
  have ex : x = Int32.ofNat x.toInt.toNat := n32_of (by omega)
  have h := zbt_c (x := zI A 285 y.toInt.toNat) (e := x.toInt.toNat) (by omega)
  rw [← ex] at h
  refine Int32.toInt_inj.mp ?_
  show (zI A 285 y.toInt.toNat >>> (x &&& 31) &&& Int32.ofInt 1).toInt = _
  rw [h]
  cases zbi (zI A 285 y.toInt.toNat) x.toInt.toNat with
  | false => rfl
  | true => rfl
theorem jcl_tr {A : zW} {q sc c : Int32} (h : jcl A q sc c) (ht : ∀ i, i < 6 → zI A 319 i = zI A 194 i) {k : Nat} (hk : (k : Int) < q.toInt) : trC A k = cmT A k := by
  obtain ⟨⟨-, d2⟩, -, ⟨d5, d6⟩, -⟩ := h.2.2.2.1 k hk
  unfold trC cmT
  rw [d2, if_pos ⟨d5, d6⟩, ht _ (by omega), h.2.2.1 _ (by omega)]
theorem jcl_st {A : zW} {q sc c : Int32} (h : jcl A q sc c) (ht : ∀ i, i < 6 → zI A 319 i = zI A 194 i) {a b : Nat} (ha : (a : Int) < q.toInt) (hb : (b : Int) < q.toInt) : stC A q a b = dsM A a b := by
  unfold stC dsM
  rw [decide_eq_true (show (a : Int) < q.toInt ∧ (b : Int) < q.toInt from ⟨ha, hb⟩), Bool.true_and, jcl_tr h ht ha, jcl_tr h ht hb, Bool.and_comm]
  rw [apB_eq (fun x hx => (h.2.2.2.1 a ha).2.2.2 x hx) (fun x hx => (h.2.2.2.1 b hb).2.2.2 x hx)]
theorem jcl_ss {A : zW} {q c : Int32} (h : jcl A q q c) (ht : ∀ i, i < 6 → zI A 319 i = zI A 194 i) {a b : Nat} (ha : (a : Int) < q.toInt) (hb : (b : Int) < q.toInt) : zbi (zI A 285 b) a = dsM A a b := by
  have q0 := h.1.1.2.1
  have q1 := h.1.1.2.2
  rw [h.2.2.2.2 q0 b (by omega), n32_zbi (by omega)]
  unfold ssC
  rw [vwN_b, decide_eq_true (show a < 12 by omega), Bool.true_and, prC_t.mpr (Or.inl (by omega)), Bool.and_true]
  exact jcl_st h ht ha hb
theorem jcl_cm {A : zW} {q sc c : Int32} (h : jcl A q sc c) : cmR A q := ⟨h.1.2.2.1, h.1.1.2.2, fun k hk => by
  have h1 := (h.2.2.2.1 k hk).2.1
  have h2 := h.2.1.2
  omega⟩
theorem pk9_strikes {B : Nat → Nat} : ∀ (w w1 w2 : lW) (rv1 rv2 : Option Value) (x y : Int32), J9 B w → fLr r_X11_strikes [.ref (B 0), .int x, .int y] w rv1 w1 → fLr r_X12_strikes [.ref (B 343), .int x, .int y] w1 rv2 w2 → rv1 = rv2 ∧ j9 w2 := by
  intro w w1 w2 rv1 rv2 x y hJ h1 h2
  have hb := hJ.1.1.1.b
  have hb1 : bI B w1 := hb.keep h1 (by decide)
  obtain ⟨A, hA, q, sc, c, hj⟩ := hJ.2
  obtain ⟨A1, u1, hA1, hv1, hQ1⟩ := zrun zc_X11_strikes h1 hA (zargs hb (by decide) (s := [.int x, .int y]) ⟨rfl, rfl, trivial⟩) (K := fun rv A' => (¬ (clP q x ∧ clP q y) ∧ rv = some (.int (-1)) ∧ A' = A) ∨ ((clP q x ∧ clP q y) ∧ seQ (q, sc) A A' ∧ rv = some (.int (skV A' x y)))) ⟨((q, sc), x, y), rfl, ⟨hj.1.1, hj.1.2.1⟩, fun _ _ h => h⟩
  have run2 : cmR A1 q → ∃ (A2 : zW) (u2 : Option Value), zA A2 w2.1 w2.2 ∧ zvs w2.1 rv2.toList u2.toList ∧ u2 = some (.int (skM A1 q x y)) ∧ A2 = A1 := fun hm => zrun zc_X12_strikes h2 hA1 (zargs hb1 (by decide) (s := [.int x, .int y]) ⟨rfl, rfl, trivial⟩) (K := fun rv A' => rv = some (.int (skM A1 q x y)) ∧ A' = A1) ⟨(q, x, y), rfl, hm, rfl, rfl⟩
  rcases hQ1 with ⟨hn, e1, e2⟩ | ⟨hcl, hs, e1⟩
  · rw [e2] at run2
    obtain ⟨A2, u2, hA2, hv2, e3, e4⟩ := run2 (jcl_cm hj)
    refine ⟨(zv_int hv1 e1).trans ?_, A2, hA2, ?_⟩
    · rw [zv_int hv2 e3]
      unfold skM
      rw [if_neg hn]
      rfl
    · rw [e4]
      exact ⟨q, sc, c, hj⟩
  · obtain ⟨hj1, ht⟩ := jcl_settle hj hs
    obtain ⟨A2, u2, hA2, hv2, e3, e4⟩ := run2 (jcl_cm hj1)
    obtain ⟨⟨x0, x1⟩, y0, y1⟩ := id hcl
    have q1 : q.toInt ≤ 12 := hj.1.1.2.2
    refine ⟨(zv_int hv1 e1).trans ?_, A2, hA2, ?_⟩
    · rw [zv_int hv2 e3]
      unfold skM
      rw [if_pos hcl, skV_zb x0 (by omega), jcl_ss hj1 ht (by omega) (by omega)]
    · rw [e4]
      exact ⟨q, q, c, hj1⟩
/-- a claim more -/
theorem jcl_plus {A : zW} {m sc c s u : Int32} (h : jcl A m sc c) (hm : m.toInt < 12) (hs : 0 ≤ s.toInt ∧ s.toInt < c.toInt) (hu : 0 ≤ u.toInt ∧ u.toInt < 6) (hw : ∀ x, x < 4 → zJ A (2 + 2 * s.toInt.toNat + 1) x = zsw A s.toInt.toNat x) : jcl (zcm (zkCl A s u (2 + 2 * s.toInt.toNat)) s u) (m + Int32.ofInt 1) sc c := by
  obtain ⟨⟨⟨a1, m0, m1⟩, a2, a3, a4⟩, ⟨b1, b2⟩, t, d, e⟩ := h
  have m0 : 0 ≤ m.toInt := m0
  have b2 : c.toInt ≤ 60 := b2
  have em := m_p1 m0 hm
  obtain ⟨A', eA⟩ : ∃ A', A' = zcm (zkCl A s u (2 + 2 * s.toInt.toNat)) s u := ⟨_, rfl⟩
  have Ik : ∀ p i, i ≠ m.toInt.toNat → zI A' p i = zI A p i := fun p i h => by
    rw [eA]
    exact cc_ik a1 a3 h
  have I6 : ∀ p i, p ≠ 367 → p ≠ 366 → p ≠ 284 → p ≠ 283 → zI A' p i = zI A p i := fun p i h1 h2 h3 h4 => by
    rw [eA]
    exact cc_i6 a1 a3 h1 h2 h3 h4
  have J : ∀ p x, p ≠ 295 + 2 * m.toInt.toNat + 1 → zJ A' p x = zJ A p x := fun p x h => by
    rw [eA]
    exact cc_j a1 h
  have j344 : ∀ x, zJ A' 344 x = zJ A 344 x := fun x => J 344 x (by omega)
  have f0 : zF A' 282 0 = .int (m + Int32.ofInt 1) := by
    rw [eA]
    exact cc_0 a1 a3
  have f3 : zF A' 343 40 = .int (m + Int32.ofInt 1) := by
    rw [eA]
    exact cc_3 a1 a3
  have f15 : zF A' 282 15 = .int sc := by
    rw [eA, cc_f a1 a3 (fun z => absurd z.1 (by decide)) (fun z => absurd z.1 (by decide)) (fun z => absurd z.2 (by decide))]
    exact a2
  have f1 : zF A' 343 1 = .int c := by
    rw [eA, cc_f a1 a3 (fun z => absurd z.2 (by decide)) (fun z => absurd z.2 (by decide)) (fun z => absurd z.1 (by decide))]
    exact a4
  have vs : zI A' 366 m.toInt.toNat = s ∧ zI A' 283 m.toInt.toNat = s := by
    rw [eA]
    exact cc_s a1 a3
  have vu : zI A' 367 m.toInt.toNat = u ∧ zI A' 284 m.toInt.toNat = u := by
    rw [eA]
    exact cc_u a1 a3
  have vw : ∀ x, x < 4 → zJ A' (295 + 2 * m.toInt.toNat + 1) x = zJ A (2 + 2 * s.toInt.toNat + 1) x := fun x hx => by
    rw [eA]
    exact cc_w a1 hx
  rw [← eA]
  clear eA
  refine ⟨⟨⟨f0, by omega, (show (m + Int32.ofInt 1).toInt ≤ 12 by omega)⟩, f15, f3, f1⟩, ⟨by omega, b2⟩, fun i hi => ?_, fun k hk => ?_, fun hs y hy => ?_⟩
  · rw [I6 194 i (by decide) (by decide) (by decide) (by decide), I6 345 i (by decide) (by decide) (by decide) (by decide)]
    exact t i hi
  · by_cases ek : k = m.toInt.toNat
    · subst ek
      have es : cmS A' m.toInt.toNat = s.toInt.toNat := by
        unfold cmS
        rw [vs.1]
      refine ⟨⟨by rw [vs.1, vs.2], by rw [vu.1, vu.2]⟩, by rw [vs.1]; exact hs, by rw [vu.1]; exact hu, fun x hx => ?_⟩
      rw [vw x hx, es, hw x hx]
      exact (j344 _).symm
    · obtain ⟨⟨d1, d2⟩, d3, d5, d6⟩ := d k (by omega)
      have es : cmS A' k = cmS A k := by
        unfold cmS
        rw [Ik _ _ ek]
      refine ⟨⟨by rw [Ik _ _ ek, Ik _ _ ek]; exact d1, by rw [Ik _ _ ek, Ik _ _ ek]; exact d2⟩, by rw [Ik _ _ ek]; exact d3, by rw [Ik _ _ ek]; exact d5, fun x hx => ?_⟩
      rw [J _ x (by omega), d6 x hx, es]
      exact (j344 _).symm
  · rw [I6 285 y (by decide) (by decide) (by decide) (by decide), e hs y hy]
    exact congrArg Int32.ofNat (ssC_congr (A := A) (A' := A') (q := sc) (fun k hk => Ik _ _ (by omega)) (fun i _ => I6 319 i (by decide) (by decide) (by decide) (by decide)) (fun k hk x _ => J _ x (by omega)) sc.toInt.toNat 0 y).symm
theorem pk9_claim {B : Nat → Nat} : ∀ (w w1 w2 : lW) (rv1 rv2 : Option Value) (s u : Int32), J9 B w → fLr r_X11_claim [.ref (B 0), .int s, .int u] w rv1 w1 → fLr r_X12_claim [.ref (B 343), .int s, .int u] w1 rv2 w2 → j9 w2 := by
  intro w w1 w2 rv1 rv2 s u hJ h1 h2
  have hb := hJ.1.1.1.b
  have hb1 : bI B w1 := hb.keep h1 (by decide)
  obtain ⟨tys, hw, -⟩ := h1.2.2.2.2.1
  obtain ⟨A, hA, m, sc, c, hj⟩ := hJ.2
  obtain ⟨c2, hc, hc', c0, c60⟩ := j7_c hJ.1.1 hA hw
  obtain ⟨c3, hc3, hw3⟩ := j7_w hJ.1.1 hA
  have ec : c2 = c := by
    have h := hj.1.2.2.2
    rw [hc'] at h
    injection h
  have ec3 : c3 = c2 := by
    rw [hc] at hc3
    injection hc3 with z
    exact z.symm
  subst ec
  subst ec3
  obtain ⟨A1, u1, hA1, hv1, hQ1⟩ := zrun za_X11_claim h1 hA (zargs hb (by decide) (s := [.int s, .int u]) ⟨rfl, rfl, trivial⟩) (K := fun rv A' => zhdQ (zclV c3 m s u) m (fun A' => A' = zkCl A s u (2 + 2 * s.toInt.toNat)) A rv A') ⟨((c3, m), s, u), rfl, ⟨⟨hc, c60⟩, hj.1.1⟩, fun _ _ h => h⟩
  have hpre : zF A1 343 1 = .int c3 ∧ zF A1 343 40 = .int m := by
    unfold zhdQ at hQ1
    split at hQ1
    · rw [hQ1.2]
      exact ⟨hc', hj.1.2.2.1⟩
    · have e2 := hQ1.2
      rw [e2]
      unfold zkCl
      rw [zuF_x, if_neg (by decide), zuF_x, if_neg (by decide)]
      exact ⟨hc', hj.1.2.2.1⟩
  obtain ⟨A2, u2, hA2, hv2, hQ2⟩ := zrun za_X12_claim h2 hA1 (zargs hb1 (by decide) (s := [.int s, .int u]) ⟨rfl, rfl, trivial⟩) (K := fun rv A' => zhdQ (zclV c3 m s u) m (fun A' => A' = zcm A1 s u) A1 rv A') ⟨((c3, m), s, u), rfl, ⟨hpre.1, hpre.2, hj.1.1.2⟩, fun _ _ h => h⟩
  unfold zhdQ at hQ1 hQ2
  cases hV : zclV c3 m s u with
  | some v =>
    rw [hV] at hQ1 hQ2
    obtain ⟨-, e2⟩ := hQ1
    obtain ⟨-, e4⟩ := hQ2
    refine ⟨A2, hA2, m, sc, c3, ?_⟩
    rw [e4, e2]
    exact hj
  | none =>
    rw [hV] at hQ1 hQ2
    obtain ⟨-, e2⟩ := hQ1
    obtain ⟨-, e4⟩ := hQ2
    have e2 : A1 = zkCl A s u (2 + 2 * s.toInt.toNat) := e2
    have e4 : A2 = zcm A1 s u := e4
    obtain ⟨⟨hs, hu⟩, hm⟩ := zcl_g hV
    refine ⟨A2, hA2, m + Int32.ofInt 1, sc, c3, ?_⟩
    rw [e4, e2]
    exact jcl_plus hj hm hs hu (fun x hx => hw3 s.toInt.toNat (by omega) (by omega) x hx)
theorem pk9_trust {B : Nat → Nat} : ∀ (w w1 w2 : lW) (rv1 rv2 : Option Value) (u x : Int32), J9 B w → fLr r_X11_trust [.ref (B 0), .int u, .int x] w rv1 w1 → fLr r_X12_trust [.ref (B 343), .int u, .int x] w1 rv2 w2 → j9 w2 := by
  intro w w1 w2 rv1 rv2 u x hJ h1 h2
  have hb := hJ.1.1.1.b
  have hb1 : bI B w1 := hb.keep h1 (by decide)
  obtain ⟨A, hA, q, sc, c, hj⟩ := hJ.2
  obtain ⟨A1, u1, hA1, hv1, hQ1⟩ := zrun za_X11_trust h1 hA (zargs hb (by decide) (s := [.int u, .int x]) ⟨rfl, rfl, trivial⟩) (K := fun rv A' => zhdQ (ztrV u x) (zI A 194 u.toInt.toNat) (ztr_G u x A) A rv A') ⟨(u, x), rfl, trivial, fun _ _ h => h⟩
  obtain ⟨A2, u2, hA2, hv2, hQ2⟩ := zrun za_X12_trust h2 hA1 (zargs hb1 (by decide) (s := [.int u, .int x]) ⟨rfl, rfl, trivial⟩) (K := fun rv A' => zhdQ (ztrV u x) (zI A1 345 u.toInt.toNat) (ztr_H u x A1) A1 rv A') ⟨(u, x), rfl, trivial, fun _ _ h => h⟩
  unfold zhdQ at hQ1 hQ2
  cases hV : ztrV u x with
  | some v =>
    rw [hV] at hQ1 hQ2
    obtain ⟨-, e2⟩ := hQ1
    obtain ⟨-, e4⟩ := hQ2
    refine ⟨A2, hA2, q, sc, c, ?_⟩
    rw [e4, e2]
    exact hj
  | none =>
    rw [hV] at hQ1 hQ2
    obtain ⟨-, e2⟩ := hQ1
    obtain ⟨-, e4⟩ := hQ2
    have e2 : A1 = zuI A 194 u.toInt.toNat x := e2
    have e4 : A2 = zuF (zov (zuI A1 345 u.toInt.toNat x)) 343 43 (.int (Int32.ofInt 0)) := e4
    rw [e2] at e4
    have gT : agj S_T9 A2 A := by
      rw [e4]
      exact agj.tr (agj.tr (agj.tr (agj.nI (by decide) (by decide +kernel)) (agj.nI (by decide) (by decide +kernel))) (agj_ov (by decide))) (agj.nF (by decide) (by decide +kernel))
    have iI : ∀ p i, zI A2 p i = if p = 345 ∧ i = u.toInt.toNat then x else if p = 194 ∧ i = u.toInt.toNat then x else zI A p i := fun p i => by
      rw [e4]
      show zI (zuI (zuI A 194 u.toInt.toNat x) 345 u.toInt.toNat x) p i = _
      rw [zuI_x, zuI_x]
    refine ⟨A2, hA2, q, sc, c, jcl_gen hj gT (fun i hi => ?_) ?_ (Int.le_refl _) hj.2.1.2 (fun i _ => ?_)⟩
    · by_cases cu : i = u.toInt.toNat
      · rw [iI 194, iI 345, if_neg (fun z => absurd z.1 (by decide)), if_pos ⟨rfl, cu⟩, if_pos ⟨rfl, cu⟩]
      · rw [iI 194, iI 345, if_neg (fun z => cu z.2), if_neg (fun z => cu z.2), if_neg (fun z => cu z.2), if_neg (fun z => cu z.2)]
        exact hj.2.2.1 i hi
    · rw [e4, zuF_x, if_neg (by decide), zov_F (by omega)]
      exact hj.1.2.2.2
    · rw [e4]
      rfl
/-- out of what the reference's sentences have come to -/
theorem j9_more {B : Nat → Nat} {w w1 w2 : lW} {rt1 rt2 : Nat} {Wr1 Wr2 : List (Nat × Nat)} {T1 T2 : fT} {cc1 cc2 : ByteArray} {As1 As2 : List Value} {rv1 rv2 : Option Value} {c0 c2 : Int32} {g g2 : Nat → Int64} (hJ : J9 B w) (h1 : fLr (fq cw_TT cw_SG rt1 Wr1 T1 cc1) As1 w rv1 w1) (h2 : fLr (fq cw_TT cw_SG rt2 Wr2 T2 cc2) As2 w1 rv2 w2) (k1 : bs_K.all (fun x => !(Wr1.contains x)) = true) (k2 : bs_K.all (fun x => !(Wr2.contains x)) = true) (a1 : nW S_9 Wr1 = true) (a2 : nW S_V9 Wr2 = true) (hc : oF B 343 12 1 (.int c0) w1) (hg : aJ B 344 240 g w1) (hc2 : oF B 343 12 1 (.int c2) w2) (hg2 : aJ B 344 240 g2 w2) (hle : c0.toInt ≤ c2.toInt) (h60 : c2.toInt ≤ 60) (hgg : ∀ u, u < 4 * c0.toInt.toNat → g2 u = g u) : j9 w2 := by
  have hb := hJ.1.1.1.b
  have hb1 : bI B w1 := hb.keep h1 k1
  have hb2 : bI B w2 := hb1.keep h2 k2
  obtain ⟨A, hA, q, sc, c, hj⟩ := kp9 h1 hJ.2 k1 a1
  obtain ⟨X, hN, hA2⟩ := z_fr h2 hA k2
  have gV : agj S_V9 (zhv Wr2 A X) A := agj.hv a2 hN
  have e1 := zo_F hA hb1 (by decide) (by decide +kernel) hc
  have ec : c = c0 := by
    have h := hj.1.2.2.2
    rw [e1] at h
    injection h with z
    exact z.symm
  subst ec
  refine ⟨_, hA2, q, sc, c2, jcl_gen hj (gV.sub sT_V9) (fun i hi => ?_) (zo_F hA2 hb2 (by decide) (by decide +kernel) hc2) hle h60 (fun i hi => ?_)⟩
  · rw [(gV.1.2.1 194 i (by decide) (by decide +kernel)).1, (gV.1.2.1 345 i (by decide) (by decide +kernel)).1]
    exact hj.2.2.1 i hi
  · rw [za_J hA2 hb2 (by decide) hg2 i, za_J hA hb1 (by decide) hg i]
    exact hgg i hi
theorem pk9_read {B : Nat → Nat} : ∀ (w w1 w2 : lW) (rv1 rv2 : Option Value) (k lane i n : Int32), J9 B w → fLr r_X11_read [.ref (B 0), .int k, .int lane, .int i, .int n] w rv1 w1 → fLr r_X12_read [.ref (B 343), .int k, .int lane, .int i, .int n] w1 rv2 w2 → j9 w2 := by
  intro w w1 w2 rv1 rv2 k lane i n hJ h1 h2
  have hJ9 := hJ
  have hJ := hJ9.1.1
  have e6 := pk6_read w w1 w2 rv1 rv2 k lane i n hJ h1 h2
  obtain ⟨h4, c, W, g, hc, hW, hg, hE⟩ := hJ
  have hb := h4.b
  have hb1 : bI B w1 := hb.keep h1 (by decide)
  obtain ⟨tys, hw, -⟩ := h1.2.2.2.2.1
  have e2 := pk2_read w w1 w2 rv1 rv2 k lane i n h4.1 h1 h2
  obtain ⟨c0, hc0, hm⟩ := h4.1.2
  have ec : c0 = c := hc0.uni hc
  subst ec
  obtain ⟨l, s, z, y, r, f, al, as, ar, az, ay, af, hj⟩ := sh_of h4.1.1 hw
  have hr := rng_0 hb hw hc
  have hm1 := hm.keep hb h1 bl_343 bt_343 (by decide)
  have hg1 := hg.keep hb h1 bl_344 bt_344 (by decide) (by decide)
  have P2 : rm_P (B, c0, y, z, f, k, lane, i, n) w1 := ⟨⟨hb1, hm1, az.keep hb h1 bl_381 bt_381 (by decide) (by decide), ay.keep hb h1 bl_382 bt_382 (by decide) (by decide), af.keep hb h1 bl_383 bt_383 (by decide) (by decide)⟩, hr, fun k hk => by rcases hj k hk with z | z <;> omega⟩
  obtain ⟨c2, g2, b4, b5, b6⟩ := s7_X12_read ((B, c0, y, z, f, k, lane, i, n), g) w1 w2 rv2 h2 ⟨P2, hg1⟩
  have hb2 : bI B w2 := hb1.keep h2 (by decide)
  obtain ⟨tysz, -, hwz⟩ := h2.2.2.2.2.1
  obtain ⟨AZ, hAZ⟩ := zA_ini hb2.1 hwz hb2.2
  obtain ⟨cz, -, hz, -, hz60⟩ := j7_c e6.2 hAZ hwz
  have ez : cz = c2 := by
    have h := zo_F hAZ hb2 (by decide) (by decide +kernel) b4
    rw [hz] at h
    injection h
  subst ez
  refine j9_more hJ9 h1 h2 (by decide) (by decide) (by decide +kernel) (by decide +kernel) hm1 hg1 b4 b5 ?_ hz60 (fun u hu => ?_)
  · rcases b6 with ⟨z, -⟩ | ⟨z, -⟩ <;> omega
  · rcases b6 with ⟨-, z⟩ | ⟨-, z, -⟩
    · exact z u
    · exact z u (Or.inl hu)
theorem pk9_make {B : Nat → Nat} : ∀ (w w1 w2 : lW) (rv1 rv2 : Option Value) (how a b : Int32), J9 B w → fLr r_X11_make [.ref (B 0), .int how, .int a, .int b] w rv1 w1 → fLr r_X12_make [.ref (B 343), .int how, .int a, .int b] w1 rv2 w2 → j9 w2 := by
  intro w w1 w2 rv1 rv2 how a b hJ h1 h2
  have hJ9 := hJ
  have hJ := hJ9.1.1
  have e6 := pk6_make w w1 w2 rv1 rv2 how a b hJ h1 h2
  obtain ⟨h4, c, W, g, hc, hW, hg, hE⟩ := hJ
  have hb := h4.b
  have hb1 : bI B w1 := hb.keep h1 (by decide)
  obtain ⟨tys, hw, -⟩ := h1.2.2.2.2.1
  have e2 := pk2_make w w1 w2 rv1 rv2 how a b h4.1 h1 h2
  obtain ⟨c0, hc0, hm⟩ := h4.1.2
  have ec : c0 = c := hc0.uni hc
  subst ec
  have hr := rng_0 hb hw hc
  have hm1 := hm.keep hb h1 bl_343 bt_343 (by decide)
  obtain ⟨cT, hT⟩ := hg.keep hb h1 bl_344 bt_344 (by decide) (by decide)
  obtain ⟨fs, hp, hl, hv⟩ := id hm1
  obtain ⟨fs2, hp2, -, hA⟩ := hm1.ref hb1 bl_343 (show _ = some (2, 0, 344) from rfl) (k' := 2)
  have e : fs = fs2 := congrArg Prod.snd (Sum.inr.inj (Option.some.inj (hp.symm.trans hp2)))
  subst e
  obtain ⟨v2, c2, g2, -, ⟨fs', p1, p2, p3⟩, p4, q2, b6⟩ := (s7_X12_make _ _ _ _ _ _ h2).2 ((B 343, fs, c0), (B 344, cT, g), how, a, b) rfl ⟨hp, ⟨hv, hA, hl⟩, hT, hr⟩
  have b4 : oF B 343 12 1 (.int c2) w2 := ⟨fs', p1, p2, p3⟩
  have hb2 : bI B w2 := hb1.keep h2 (by decide)
  obtain ⟨tysz, -, hwz⟩ := h2.2.2.2.2.1
  obtain ⟨AZ, hAZ⟩ := zA_ini hb2.1 hwz hb2.2
  obtain ⟨cz, -, hz, -, hz60⟩ := j7_c e6.2 hAZ hwz
  have ez : cz = c2 := by
    have h := zo_F hAZ hb2 (by decide) (by decide +kernel) b4
    rw [hz] at h
    injection h
  subst ez
  refine j9_more hJ9 h1 h2 (by decide) (by decide) (by decide +kernel) (by decide +kernel) hm1 (hg.keep hb h1 bl_344 bt_344 (by decide) (by decide)) b4 p4 ?_ hz60 (fun u hu => ?_)
  · rcases b6 with ⟨z, -⟩ | ⟨z, -⟩ <;> omega
  · rcases b6 with ⟨-, z⟩ | ⟨-, z, -⟩
    · exact z u
    · exact z u (Or.inl hu)
