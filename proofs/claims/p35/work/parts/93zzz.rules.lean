/-! rule, claim: what they leave, and the pairs -/
section
variable {A : zW} {D : Nat → Value} {ci ty : Nat} {m s th un rk kd : Int32}
theorem zI_be {q p n a b : Nat} : zI (zbe A q p n) a b = zI A a b := rfl
theorem zF_be {q p n a b : Nat} : zF (zbe A q p n) a b = zF A a b := rfl
theorem zR_be {q p n a b : Nat} : zR (zbe A q p n) a b = zR A a b := rfl
theorem zK_be {q p n a : Nat} : zK (zbe A q p n) a = zK A a := rfl
theorem zN_be {q p n : Nat} : zN (zbe A q p n) = zN A := rfl
theorem zI_rul {p a b : Nat} : zI (zrul A p ci m s th un rk) a b = zI A a b := by
  unfold zrul
  rw [zI_uF, zI_uF, zI_uF, zI_uF, zI_uF]
theorem zR_rul {p a b : Nat} : zR (zrul A p ci m s th un rk) a b = zR A a b := by
  unfold zrul
  rw [zR_uF, zR_uF, zR_uF, zR_uF, zR_uF]
theorem zK_rul {p a : Nat} : zK (zrul A p ci m s th un rk) a = zK A a := by
  unfold zrul
  rw [zK_uF, zK_uF, zK_uF, zK_uF, zK_uF]
theorem zN_rul {p : Nat} : zN (zrul A p ci m s th un rk) = zN A := by
  unfold zrul
  rw [zN_uF, zN_uF, zN_uF, zN_uF, zN_uF]
theorem znR_N : zN (znR A D ci ty m s th un rk) = zN A + 1 := by
  unfold znR zkR
  rw [zN_uF, zN_be, zN_be, zN_be, zN_uR, zN_rul]
  rfl
theorem znR_I {q i : Nat} : zI (znR A D ci ty m s th un rk) q i = zI A q i := by
  unfold znR zkR
  rw [zI_uF, zI_be, zI_be, zI_be, zI_uR, zI_rul, zI_uN]
theorem znR_K {j : Nat} (h : j ≠ zN A) : zK (znR A D ci ty m s th un rk) j = zK A j := by
  unfold znR zkR
  rw [zK_uF, zK_be, zK_be, zK_be, zK_uR, zK_rul, zuN_K h]
theorem znR_Kn : zK (znR A D ci ty m s th un rk) (zN A) = (ci, ty) := by
  unfold znR zkR
  rw [zK_uF, zK_be, zK_be, zK_be, zK_uR, zK_rul, zuN_k]
theorem znR_F {q i : Nat} (hN : 385 ≤ zN A) (hq : q < 385) (h : ¬ (q = 207 ∧ i = 1)) : zF (znR A D ci ty m s th un rk) q i = zF A q i := by
  unfold znR zkR
  rw [zuF_x, if_neg h, zF_be, zF_be, zF_be, zF_uR, zrul_ne (znN hN hq), zuN_f (znN hN hq)]
theorem znR_c (hN : 385 ≤ zN A) (hm : zF A 207 1 = .int m) : iv (zF (zrul (zuN A ci ty D) (zN A) ci m s th un rk) 207 1) = m := by
  rw [zrul_ne (znN hN (by decide)), zuN_f (znN hN (by decide)), hm]
  rfl
theorem znR_1 (hN : 385 ≤ zN A) (hm : zF A 207 1 = .int m) : zF (znR A D ci ty m s th un rk) 207 1 = .int (m + 1) := by
  unfold znR zkR
  rw [zuF_x, if_pos ⟨rfl, rfl⟩, znR_c hN hm]
  rfl
theorem znR_R {q i : Nat} (hN : 385 ≤ zN A) (hm : zF A 207 1 = .int m) : zR (znR A D ci ty m s th un rk) q i = if q = 210 ∧ i = m.toInt.toNat then .ref (zN A) else zR A q i := by
  unfold znR zkR
  rw [zR_uF, zR_be, zR_be, zR_be, zuR_x, znR_c hN hm, zR_rul, zR_uN]
  rfl
theorem znR_d {j i : Nat} (h : j ≠ zN A) (h2 : 385 ≤ j) : zF (znR A D ci ty m s th un rk) j i = zF A j i := by
  unfold znR zkR
  rw [zuF_ne (by omega), zF_be, zF_be, zF_be, zF_uR, zrul_ne h, zuN_f h]
theorem znR_n {i : Nat} (hN : 385 ≤ zN A) : zF (znR A D ci ty m s th un rk) (zN A) i = zF (zrul (zuN A ci ty D) (zN A) ci m s th un rk) (zN A) i := by
  unfold znR zkR
  rw [zuF_ne (by omega), zF_be, zF_be, zF_be, zF_uR]
theorem agl_nR {S : List (Nat × Nat)} (hN : 385 ≤ zN A) (h1 : ¬ (30, 0) ∈ S) (h2 : ¬ (14, 1) ∈ S) : agl S (znR A D ci ty m s th un rk) A := by
  have e1 : zn lp_sh 210 = 30 := by decide +kernel
  have e2 : zn lp_sh 207 = 14 := by decide +kernel
  have g : agl S (zrul (zuN A ci ty D) (zN A) ci m s th un rk) A := by
    unfold zrul
    exact agl.dF (agl.dF (agl.dF (agl.dF (agl.dF (agl.new hN) (Nat.le_refl _) hN) (Nat.le_refl _) hN) (Nat.le_refl _) hN) (Nat.le_refl _) hN) (Nat.le_refl _) hN
  unfold znR zkR
  exact agl.tr g (agl.tr (agl.tr (agl.tr (agl.tr (agl.nR (by decide) (by rw [e1]; exact h1)) agl_be) agl_be) agl_be) (agl.nF (by decide) (by rw [e2]; exact h2)))
/-! the reference's -/
theorem zrm_F {q i : Nat} (h : ¬ (q = 343 ∧ (i = 27 ∨ i = 33))) : zF (zrm A kd s th un rk) q i = zF A q i := by
  unfold zrm
  rw [zuF_x, if_neg (fun z => h ⟨z.1, by omega⟩), zuF_x, if_neg (fun z => h ⟨z.1, by omega⟩), zF_uI, zF_uI, zF_uI, zF_uI, zF_uI]
theorem zrm_27 (hm : zF A 343 27 = .int m) : zF (zrm A kd s th un rk) 343 27 = .int (m + 1) := by
  unfold zrm
  rw [zuF_x, if_neg (fun z => by cases z.2), zuF_x, if_pos ⟨rfl, rfl⟩, hm]
  rfl
theorem zrm_I {q i : Nat} (h : q < 357 ∨ 361 < q) : zI (zrm A kd s th un rk) q i = zI A q i := by
  unfold zrm
  rw [zI_uF, zI_uF, zuI_ne (by omega), zuI_ne (by omega), zuI_ne (by omega), zuI_ne (by omega), zuI_ne (by omega)]
theorem zrm_at (hm : zF A 343 27 = .int m) (r : Nat) : zI (zrm A kd s th un rk) 357 r = (if r = m.toInt.toNat then kd else zI A 357 r) ∧ zI (zrm A kd s th un rk) 358 r = (if r = m.toInt.toNat then s else zI A 358 r) ∧ zI (zrm A kd s th un rk) 359 r = (if r = m.toInt.toNat then th else zI A 359 r) ∧ zI (zrm A kd s th un rk) 360 r = (if r = m.toInt.toNat then un else zI A 360 r) ∧ zI (zrm A kd s th un rk) 361 r = (if r = m.toInt.toNat then rk else zI A 361 r) := by
  have en : (iv (zF A 343 27)).toNatClampNeg = m.toInt.toNat := by
    rw [hm]
    rfl
  have one : ∀ (A : zW) (q : Nat) (v : Int32), zI (zuI A q m.toInt.toNat v) q r = if r = m.toInt.toNat then v else zI A q r := fun A q v => by
    rw [zuI_x]
    by_cases h : r = m.toInt.toNat
    · rw [if_pos ⟨rfl, h⟩, if_pos h]
    · rw [if_neg (fun z => h z.2), if_neg h]
  unfold zrm
  refine ⟨?_, ?_, ?_, ?_, ?_⟩
  · rw [zI_uF, zI_uF, en, zuI_ne (by decide), zuI_ne (by decide), zuI_ne (by decide), zuI_ne (by decide), one]
  · rw [zI_uF, zI_uF, en, zuI_ne (by decide), zuI_ne (by decide), zuI_ne (by decide), one, zuI_ne (by decide)]
  · rw [zI_uF, zI_uF, en, zuI_ne (by decide), zuI_ne (by decide), one, zuI_ne (by decide), zuI_ne (by decide)]
  · rw [zI_uF, zI_uF, en, zuI_ne (by decide), one, zuI_ne (by decide), zuI_ne (by decide), zuI_ne (by decide)]
  · rw [zI_uF, zI_uF, en, one, zuI_ne (by decide), zuI_ne (by decide), zuI_ne (by decide), zuI_ne (by decide)]
theorem zrm_R {q i : Nat} : zR (zrm A kd s th un rk) q i = zR A q i := by
  unfold zrm
  rw [zR_uF, zR_uF, zR_uI, zR_uI, zR_uI, zR_uI, zR_uI]
theorem zrm_K {j : Nat} : zK (zrm A kd s th un rk) j = zK A j := by
  unfold zrm
  rw [zK_uF, zK_uF, zK_uI, zK_uI, zK_uI, zK_uI, zK_uI]
theorem zrm_N : zN (zrm A kd s th un rk) = zN A := by
  unfold zrm
  rw [zN_uF, zN_uF, zN_uI, zN_uI, zN_uI, zN_uI, zN_uI]
theorem agl_rm {S : List (Nat × Nat)} (h : ∀ y ∈ [(17, 27), (17, 33), (58, 0), (59, 0), (60, 0), (61, 0), (62, 0)], ¬ y ∈ S) : agl S (zrm A kd s th un rk) A := by
  have a1 : ¬ (zn lp_sh 357, 0) ∈ S := h _ (by decide +kernel)
  have a2 : ¬ (zn lp_sh 358, 0) ∈ S := h _ (by decide +kernel)
  have a3 : ¬ (zn lp_sh 359, 0) ∈ S := h _ (by decide +kernel)
  have a4 : ¬ (zn lp_sh 360, 0) ∈ S := h _ (by decide +kernel)
  have a5 : ¬ (zn lp_sh 361, 0) ∈ S := h _ (by decide +kernel)
  have a6 : ¬ (zn lp_sh 343, 27) ∈ S := h _ (by decide +kernel)
  have a7 : ¬ (zn lp_sh 343, 33) ∈ S := h _ (by decide +kernel)
  unfold zrm
  exact agl.tr (agl.tr (agl.tr (agl.tr (agl.tr (agl.tr (agl.nI (by decide) a1) (agl.nI (by decide) a2)) (agl.nI (by decide) a3)) (agl.nI (by decide) a4)) (agl.nI (by decide) a5)) (agl.nF (by decide) a6)) (agl.nF (by decide) a7)
end
theorem jR_add {A : zW} {D : Nat → Value} {m kd s th un rk : Int32} (h : jR A m) (hm : m.toInt < 10) (hN : 385 ≤ zN A) (hk : 0 ≤ kd.toInt ∧ kd.toInt ≤ 2) : jR (zrm (znR A D (zkC kd) (zkY kd) m s th un rk) kd s th un rk) (m + 1) := by
  obtain ⟨⟨a1, a2, a2'⟩, a3, a4⟩ := h
  have hm7 : zF (znR A D (zkC kd) (zkY kd) m s th un rk) 343 27 = .int m := (znR_F hN (by decide) (by decide)).trans a3
  have hi := n_inc a2 (by omega)
  refine ⟨⟨?_, by omega, by omega⟩, zrm_27 hm7, fun r hr => ?_⟩
  · rw [zrm_F (by decide)]
    exact znR_1 hN a1
  · obtain ⟨g1, g2, g3, g4, g5⟩ := zrm_at (kd := kd) (s := s) (th := th) (un := un) (rk := rk) hm7 r
    by_cases ee : r = m.toInt.toNat
    · have d0 : ∀ i, zF (zrm (znR A D (zkC kd) (zkY kd) m s th un rk) kd s th un rk) (zN A) i = zF (zrul (zuN A (zkC kd) (zkY kd) D) (zN A) (zkC kd) m s th un rk) (zN A) i := fun i => by
        rw [zrm_F (by omega), znR_n hN]
      obtain ⟨r1, r2, r3, r4, r5⟩ := zrul_at (A := zuN A (zkC kd) (zkY kd) D) (p := zN A) (m := m) (s := s) (th := th) (un := un) (rk := rk) (zkS_k hk)
      rw [if_pos ee] at g1 g2 g3 g4 g5
      refine ⟨zN A, ?_, ⟨by rw [zrm_N, znR_N]; omega, by rw [g1]; exact hk⟩, ⟨hN, ?_, ?_, ?_, ?_⟩, ?_, ?_⟩
      · rw [zrm_R, znR_R hN a1, if_pos ⟨rfl, ee⟩]
      · rw [zrm_K, znR_Kn, g1]
      · rw [g1, d0, r1, ee]
        have en : m = Int32.ofNat m.toInt.toNat := n32_of (by omega)
        exact congrArg Value.int en
      · rw [g1, g3, d0, r3]
      · rw [g1, g4, d0, r4]
      · rw [g1, g2, d0, r2]
      · rw [g1, g5, d0, r5]
    · obtain ⟨j, b0, ⟨b1, b2⟩, ⟨c1, c2, c3, c4, c5⟩, c6, c7⟩ := a4 r (by omega)
      have nj : j ≠ zN A := by omega
      have d0 : ∀ i, zF (zrm (znR A D (zkC kd) (zkY kd) m s th un rk) kd s th un rk) j i = zF A j i := fun i => by
        rw [zrm_F (by omega), znR_d nj c1]
      rw [if_neg ee, znR_I] at g1 g2 g3 g4 g5
      refine ⟨j, ?_, ⟨by rw [zrm_N, znR_N]; omega, by rw [g1]; exact b2⟩, ⟨c1, ?_, ?_, ?_, ?_⟩, ?_, ?_⟩
      · rw [zrm_R, znR_R hN a1, if_neg (fun z => ee z.2)]
        exact b0
      · rw [zrm_K, znR_K nj, g1]; exact c2
      · rw [g1, d0]; exact c3
      · rw [g1, g3, d0]; exact c4
      · rw [g1, g4, d0]; exact c5
      · rw [g1, g2, d0]; exact c6
      · rw [g1, g5, d0]; exact c7
theorem jx_rul {A : zW} {D : Nat → Value} {n m q kd s th un rk : Int32} (h1 : jE A n) (h2 : jR A m) (h3 : jC A q) (h4 : jT A) (h5 : jV A) (h6 : jH A n m) (h7 : jL A) (hm : m.toInt < 10) (hN : 385 ≤ zN A) (hk : 0 ≤ kd.toInt ∧ kd.toInt ≤ 2) : jx (zrm (znR A D (zkC kd) (zkY kd) m s th un rk) kd s th un rk) := by
  have a1 := h2.1.1
  have m0 := h2.1.2.1
  have hi := n_inc m0 (by omega)
  have g : agl (S_E ++ S_C ++ S_T ++ S_V ++ S_L) (zrm (znR A D (zkC kd) (zkY kd) m s th un rk) kd s th un rk) A := agl.tr (agl_nR hN (by decide) (by decide)) (agl_rm (by decide))
  refine ⟨n, m + 1, q, h1.ag g (by decide), jR_add h2 hm hN hk, h3.ag g (by decide), h4.ag g (by decide), h5.ag g (by decide), h6.tr (by omega) (by omega) (fun _ => ?_) (fun _ => ?_) (fun _ => ?_) (fun e _ => ?_) (fun e he => ?_), h7.ag g (by decide)⟩
  · rw [zrm_I (by omega), znR_I]
  · rw [zrm_I (by omega), znR_I]
  · rw [zrm_R, znR_R hN a1, if_neg (fun z => by cases z.1)]
  · rw [zrm_R, znR_R hN a1, if_neg (fun z => by cases z.1)]
  · rw [zrm_R, znR_R hN a1, if_neg (fun z => by omega)]
set_option maxRecDepth 20000 in
theorem pk7_rule {B : Nat → Nat} : ∀ (w w1 w2 : lW) (rv1 rv2 : Option Value) (kd s th un rk : Int32), J7 B w → fLr r_X11_rule [.ref (B 0), .int kd, .int s, .int th, .int un, .int rk] w rv1 w1 → fLr r_X12_rule [.ref (B 343), .int kd, .int s, .int th, .int un, .int rk] w1 rv2 w2 → J6 B w2 → rv1 = rv2 ∧ J7 B w2 := by
  intro w w1 w2 rv1 rv2 kd s th un rk hJ h1 h2 h6
  have hb := hJ.1.1.b
  have hb1 : bI B w1 := hb.keep h1 (by decide)
  obtain ⟨tys, hw, -⟩ := h1.2.2.2.2.1
  obtain ⟨J6w, A, hA, n, m, q, g1, g2, g3, g4, g5, g6, g7⟩ := hJ
  obtain ⟨c, hc, hc', c0, c60⟩ := j7_c J6w hA hw
  have hN : 385 ≤ zN A := hA.2.1.2.2
  obtain ⟨A1, u1, hA1, hv1, hQ1⟩ := zrun za_X11_rule h1 hA (zargs hb (by decide) (s := [.int kd, .int s, .int th, .int un, .int rk]) ⟨rfl, rfl, rfl, rfl, rfl, trivial⟩) (K := fun rv A' => zru_Q ((c, m), kd, s, th, un, rk) A rv A') ⟨((c, m), kd, s, th, un, rk), rfl, ⟨⟨hc, c60⟩, g2.1, hN⟩, fun _ _ h => h⟩
  have hQ1 : zhdQ (zruV c m kd s th un rk) m (fun A' => ∃ D, A' = znR A D (zkC kd) (zkY kd) m s th un rk) A u1 A1 := hQ1
  have hpre : zF A1 343 1 = .int c ∧ zF A1 343 27 = .int m ∧ 0 ≤ m.toInt ∧ m.toInt ≤ 10 := by
    unfold zhdQ at hQ1
    split at hQ1
    · rw [hQ1.2]
      exact ⟨hc', g2.2.1, g2.1.2.1, g2.1.2.2⟩
    · obtain ⟨-, D, rfl⟩ := hQ1
      exact ⟨(znR_F hN (by decide) (by decide)).trans hc', (znR_F hN (by decide) (by decide)).trans g2.2.1, g2.1.2.1, g2.1.2.2⟩
  obtain ⟨A2, u2, hA2, hv2, hQ2⟩ := zrun za_X12_rule h2 hA1 (zargs hb1 (by decide) (s := [.int kd, .int s, .int th, .int un, .int rk]) ⟨rfl, rfl, rfl, rfl, rfl, trivial⟩) (K := fun rv A' => zrm_Q ((c, m), kd, s, th, un, rk) A1 rv A') ⟨((c, m), kd, s, th, un, rk), rfl, hpre, fun _ _ h => h⟩
  have hQ2 : zhdQ (zruV c m kd s th un rk) m (fun A' => A' = zrm A1 kd s th un rk) A1 u2 A2 := hQ2
  unfold zhdQ at hQ1 hQ2
  cases hV : zruV c m kd s th un rk with
  | some v =>
    rw [hV] at hQ1 hQ2
    obtain ⟨e1, e2⟩ := hQ1
    obtain ⟨e3, e4⟩ := hQ2
    refine ⟨(zv_int hv1 e1).trans (zv_int hv2 e3).symm, h6, A2, hA2, ?_⟩
    rw [e4, e2]
    exact ⟨n, m, q, g1, g2, g3, g4, g5, g6, g7⟩
  | none =>
    rw [hV] at hQ1 hQ2
    obtain ⟨e1, D, e2⟩ := hQ1
    obtain ⟨e3, e4⟩ := hQ2
    have e4 : A2 = zrm A1 kd s th un rk := e4
    obtain ⟨hk, -, -, hm⟩ := zru_g hV
    refine ⟨(zv_int hv1 e1).trans (zv_int hv2 e3).symm, h6, A2, hA2, ?_⟩
    rw [e4, e2]
    exact jx_rul g1 g2 g3 g4 g5 g6 g7 hm hN hk
/-! claim -/
set_option maxRecDepth 20000 in
theorem zcl_F' {A : zW} {s u : Int32} {b q i : Nat} (h : ¬ (q = 282 ∧ i = 0)) : zF (zkCl A s u b) q i = zF A q i := by
  unfold zkCl
  rw [zuF_x, if_neg h, zF_be, zF_uI, zF_uI]
set_option maxRecDepth 20000 in
theorem zcl_F0 {A : zW} {s u m : Int32} {b : Nat} (hm : zF A 282 0 = .int m) : zF (zkCl A s u b) 282 0 = .int (m + 1) := by
  unfold zkCl
  rw [zuF_x, if_pos ⟨rfl, rfl⟩, hm]
  rfl
theorem jx_clm {A : zW} {q s u : Int32} {b : Nat} (h : jx A) (hq : zF A 282 0 = .int q) (hm : q.toInt < 12) : jx (zcm (zkCl A s u b) s u) := by
  obtain ⟨n, m, q', h1, h2, h3, h4, h5, h6, h7⟩ := h
  obtain ⟨⟨a1, a2, a2'⟩, a3, a4⟩ := id h3
  have eq : q' = q := by
    rw [hq] at a1
    injection a1 with z
    exact z.symm
  subst eq
  have e1 : zn lp_sh 283 = 34 := by decide +kernel
  have hi := n_inc a2 (by omega)
  have m4 : zF (zkCl A s u b) 343 40 = .int q' := (zcl_F' (by decide)).trans a3
  have en : (iv (zF A 282 0)).toNatClampNeg = q'.toInt.toNat := by
    rw [hq]
    rfl
  have en2 : (iv (zF (zkCl A s u b) 343 40)).toNatClampNeg = q'.toInt.toNat := by
    rw [m4]
    rfl
  have g : agl (S_E ++ S_R ++ S_T ++ S_V ++ S_H ++ S_L) (zcm (zkCl A s u b) s u) A := by
    unfold zcm
    refine agl.tr (B := zkCl A s u b) ?_ (agl.tr (agl.tr (agl.tr (agl.nI (by decide) (by decide +kernel)) (agl.nI (by decide) (by decide +kernel))) (agl.nF (by decide) (by decide +kernel))) (agl.nF (by decide) (by decide +kernel)))
    unfold zkCl
    exact agl.tr (agl.tr (agl.tr (agl.nI (by decide) (by decide +kernel)) (agl.nI (by decide) (by decide +kernel))) agl_be) (agl.nF (by decide) (by decide +kernel))
  refine ⟨n, m, q' + 1, h1.ag g (by decide), h2.ag g (by decide), ⟨⟨?_, by omega, by omega⟩, ?_, fun k hk => ?_⟩, h4.ag g (by decide), h5.ag g (by decide), h6.ag g (by decide), h7.ag g (by decide)⟩
  · unfold zcm
    rw [zuF_x, if_neg (fun z => by cases z.1), zuF_x, if_neg (fun z => by cases z.1), zF_uI, zF_uI]
    exact zcl_F0 hq
  · unfold zcm
    rw [zuF_x, if_neg (fun z => by cases z.2), zuF_x, if_pos ⟨rfl, rfl⟩, m4]
    rfl
  · have one : ∀ (A : zW) (p : Nat) (v : Int32), zI (zuI A p q'.toInt.toNat v) p k = if k = q'.toInt.toNat then v else zI A p k := fun A p v => by
      rw [zuI_x]
      by_cases h : k = q'.toInt.toNat
      · rw [if_pos ⟨rfl, h⟩, if_pos h]
      · rw [if_neg (fun z => h z.2), if_neg h]
    have c1 : zI (zkCl A s u b) 283 k = if k = q'.toInt.toNat then s else zI A 283 k := by
      unfold zkCl
      rw [zI_uF, zI_be, en, zuI_ne (by decide), one]
    have c2 : zI (zkCl A s u b) 284 k = if k = q'.toInt.toNat then u else zI A 284 k := by
      unfold zkCl
      rw [zI_uF, zI_be, en, one, zuI_ne (by decide)]
    have c3 : ∀ p, p ≠ 283 → p ≠ 284 → zI (zkCl A s u b) p k = zI A p k := fun p h1 h2 => by
      unfold zkCl
      rw [zI_uF, zI_be, zuI_ne h2, zuI_ne h1]
    have d1 : zI (zcm (zkCl A s u b) s u) 283 k = zI (zkCl A s u b) 283 k := by
      unfold zcm
      rw [zI_uF, zI_uF, zuI_ne (by decide), zuI_ne (by decide)]
    have d2 : zI (zcm (zkCl A s u b) s u) 284 k = zI (zkCl A s u b) 284 k := by
      unfold zcm
      rw [zI_uF, zI_uF, zuI_ne (by decide), zuI_ne (by decide)]
    have d3 : zI (zcm (zkCl A s u b) s u) 366 k = if k = q'.toInt.toNat then s else zI A 366 k := by
      unfold zcm
      rw [zI_uF, zI_uF, en2, zuI_ne (by decide), one, c3 366 (by decide) (by decide)]
    have d4 : zI (zcm (zkCl A s u b) s u) 367 k = if k = q'.toInt.toNat then u else zI A 367 k := by
      unfold zcm
      rw [zI_uF, zI_uF, en2, one, zuI_ne (by decide), c3 367 (by decide) (by decide)]
    rw [d1, d2, d3, d4, c1, c2]
    by_cases e : k = q'.toInt.toNat
    · rw [if_pos e, if_pos e, if_pos e, if_pos e]
      exact ⟨rfl, rfl⟩
    · rw [if_neg e, if_neg e, if_neg e, if_neg e]
      exact a4 k (by omega)
set_option maxRecDepth 20000 in
theorem pk7_claim {B : Nat → Nat} : ∀ (w w1 w2 : lW) (rv1 rv2 : Option Value) (s u : Int32), J7 B w → fLr r_X11_claim [.ref (B 0), .int s, .int u] w rv1 w1 → fLr r_X12_claim [.ref (B 343), .int s, .int u] w1 rv2 w2 → J6 B w2 → rv1 = rv2 ∧ J7 B w2 := by
  intro w w1 w2 rv1 rv2 s u hJ h1 h2 h6
  have hb := hJ.1.1.b
  have hb1 : bI B w1 := hb.keep h1 (by decide)
  obtain ⟨tys, hw, -⟩ := h1.2.2.2.2.1
  obtain ⟨J6w, A, hA, hj⟩ := hJ
  obtain ⟨n, m, q, g1, g2, g3, g4, g5, g6, g7⟩ := id hj
  obtain ⟨c, hc, hc', c0, c60⟩ := j7_c J6w hA hw
  obtain ⟨A1, u1, hA1, hv1, hQ1⟩ := zrun za_X11_claim h1 hA (zargs hb (by decide) (s := [.int s, .int u]) ⟨rfl, rfl, trivial⟩) (K := fun rv A' => zcl_Q ((c, q), s, u) A rv A') ⟨((c, q), s, u), rfl, ⟨⟨hc, c60⟩, g3.1⟩, fun _ _ h => h⟩
  have hQ1 : zhdQ (zclV c q s u) q (fun A' => A' = zkCl A s u (2 + 2 * s.toInt.toNat)) A u1 A1 := hQ1
  have hpre : zF A1 343 1 = .int c ∧ zF A1 343 40 = .int q ∧ 0 ≤ q.toInt ∧ q.toInt ≤ 12 := by
    unfold zhdQ at hQ1
    split at hQ1
    · rw [hQ1.2]
      exact ⟨hc', g3.2.1, g3.1.2.1, g3.1.2.2⟩
    · obtain ⟨-, e⟩ := hQ1
      rw [e]
      exact ⟨(zcl_F' (by decide)).trans hc', (zcl_F' (by decide)).trans g3.2.1, g3.1.2.1, g3.1.2.2⟩
  obtain ⟨A2, u2, hA2, hv2, hQ2⟩ := zrun za_X12_claim h2 hA1 (zargs hb1 (by decide) (s := [.int s, .int u]) ⟨rfl, rfl, trivial⟩) (K := fun rv A' => zcm_Q ((c, q), s, u) A1 rv A') ⟨((c, q), s, u), rfl, hpre, fun _ _ h => h⟩
  have hQ2 : zhdQ (zclV c q s u) q (fun A' => A' = zcm A1 s u) A1 u2 A2 := hQ2
  unfold zhdQ at hQ1 hQ2
  cases hV : zclV c q s u with
  | some v =>
    rw [hV] at hQ1 hQ2
    obtain ⟨e1, e2⟩ := hQ1
    obtain ⟨e3, e4⟩ := hQ2
    refine ⟨(zv_int hv1 e1).trans (zv_int hv2 e3).symm, h6, A2, hA2, ?_⟩
    rw [e4, e2]
    exact hj
  | none =>
    rw [hV] at hQ1 hQ2
    obtain ⟨e1, e2⟩ := hQ1
    obtain ⟨e3, e4⟩ := hQ2
    have e4 : A2 = zcm A1 s u := e4
    obtain ⟨-, hm⟩ := zcl_g hV
    refine ⟨(zv_int hv1 e1).trans (zv_int hv2 e3).symm, h6, A2, hA2, ?_⟩
    rw [e4, e2]
    exact jx_clm hj g3.1.1 hm
