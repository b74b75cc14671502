/-! news, on both sides, with what is given up -/
def nwE (A : zW) (s : Int32) : zW := zE2 A (leq s)
def nwV (A : zW) (n t k s : Int32) : Int32 := zlcV (122, n, t, k) (nwE A s)
def nwG (A : zW) (n t k s : Int32) : zW := zabF (zcuW (nwE A s) 122 (zcuV (122, n, t, k) (nwE A s))) (nwV A n t k s) (zF A 193 3) n.toInt.toNat
def nwP : znwA → zW → Prop := fun ((c, n, t, k), s, _) A => leP ((c, n, t, k), s) A ∧ 385 ≤ zN A
def nwQ : znwA → zW → Option Value → zW → Prop := fun ((c, n, t, k), s, u) A rv A' => zhdQ (znwV c n s u (znw_e A s)) n (fun A' => ∃ D, A' = znE (nwG A n t k s) D s u t (Int32.ofInt 99) k) A rv A'
def zq_newsC : zQ := zs (znw_F 0) nwP nwQ
theorem zB_122 : zB 122 4 = true := by decide +kernel
theorem nwG_k {A : zW} {n t k s : Int32} (hE : zeV A n) : (∀ q i, q < 385 → zF (nwG A n t k s) q i = zF A q i) ∧ (∀ q i, zR (nwG A n t k s) q i = zR A q i) ∧ (∀ q i, zI (nwG A n t k s) q i = zI A q i) ∧ (∀ q, zK (nwG A n t k s) q = zK A q) ∧ zN (nwG A n t k s) = zN A ∧ ∀ q i, q ≠ 123 → q ≠ 200 → q ≠ 202 → zJ (nwG A n t k s) q i = zJ A q i := by
  obtain ⟨a1, a2, a3, a4, a5, a6, -⟩ := zabF_k (A := zcuW (nwE A s) 122 (zcuV (122, n, t, k) (nwE A s))) (set := nwV A n t k s) (v := zF A 193 3) (e := n.toInt.toNat) (fun i hi => by
    obtain ⟨j, b0, b1, -⟩ := hE.2 i (by omega)
    have h : zR (zcuW (nwE A s) 122 (zcuV (122, n, t, k) (nwE A s))) 195 i = .ref j := b0
    rw [h]
    exact b1)
  refine ⟨fun q i hq => a1 q i hq, fun q i => a2 q i, fun q i => a3 q i, fun q => a5 q, a6, fun q i h1 h2 h3 => ?_⟩
  refine (a4 q i).trans ?_
  unfold zcuW
  rw [zsJ_ne h3, zsJ_ne h2]
  unfold nwE zE2 ztn zbe
  rw [zsJ_ne h1, zsJ_ne h1]
set_option maxRecDepth 20000 in
set_option maxHeartbeats 8000000 in
theorem zc_X11_news : zdo r_X11_news zq_newsC := by
  refine zdo_of _ _ _ [(381, 2, zq_sentenceAt), (487, 1, q_isSource), (840, 1, zq_isEmpty), (513, 1, zq_isFullE), (729, 3, zq_inWay1), (810, 2, zq_leastCut), (831, 2, zq_abandonC), (542, 7, zq_Entry), (549, 3, zq_keepE)] (fun _ _ => []) 100 fo_X11 rfl (zs_cons rfl za_X11_sentenceAt (zs_cons rfl za_X11_isSource (zs_cons rfl za_X1_isEmpty (zs_cons rfl za_X2_isFull (zs_cons rfl za_X11_inWay1 (zs_cons rfl zc_X2_leastCut (zs_cons rfl zc_X2_abandon (zs_cons rfl za_X4_init (zs_cons rfl za_X2_keep zs_nil))))))))) k_X11_news (fun _ _ _ => no_zh) (fun a A hp => ?_)
  obtain ⟨⟨c, n, t, k⟩, s, u⟩ := a
  obtain ⟨hle, hN⟩ := hp
  have hN : 385 ≤ zN A := hN
  obtain ⟨⟨hc, hc60⟩, ⟨hV, hvt, hvk⟩, hT, hS, hW⟩ := id hle
  have hvt : zF A 193 2 = .int t := hvt
  have hvk : zF A 193 3 = .int k := hvk
  have hV : zeV A n := hV
  have hE := hV.1
  have hn : zF A 193 1 = .int n := hE.1
  have hc60 : c.toInt ≤ 60 := hc60
  have no : ∀ v : Int32, znwV c n s u (znw_e A s) = some v → nwQ ((c, n, t, k), s, u) A (some (.int v)) A := fun v h => (zhd_no h : zhdQ (znwV c n s u (znw_e A s)) n (fun A' => ∃ D, A' = znE (nwG A n t k s) D s u t (Int32.ofInt 99) k) A (some (.int v)) A)
  refine ⟨(s, c), rfl, ⟨hc, hc60⟩, fun h => ?_, fun h => ?_⟩
  · exact no _ (znw_1 (fun z => zat_n (fun z => by cases z) h z.1))
  have hs : 0 ≤ s.toInt ∧ s.toInt < c.toInt := zat_y h
  have e1 : zat c s (.ref (2 + 2 * s.toInt.toNat)) = .ref (2 + 2 * s.toInt.toNat) := if_pos hs
  have hB := zB_s (show s.toInt.toNat < 60 by omega)
  refine ⟨u, rfl, trivial, fun h => ?_, fun h => ?_⟩
  rotate_left
  · exact no _ (znw_1 (fun z => zb_n (Classical.not_not.mp h) z.2))
  have hu := zb_y h
  refine ⟨(2 + 2 * s.toInt.toNat, 4), ?_, ⟨hB, (by decide : 4 ≤ 64)⟩, fun h => ?_, fun h => ?_⟩
  · show [zat c s (.ref (2 + 2 * s.toInt.toNat))] = _
    rw [e1]
  rotate_left
  · exact no _ (znw_3 ⟨hs, hu⟩ (zb_t h))
  have he : znw_e A s = false := zb_f h
  refine ⟨n, rfl, hE, fun h => ?_, fun h => ?_⟩
  rotate_left
  · exact no _ (znw_4 ⟨hs, hu⟩ he (zb_y h))
  have hn12 := Classical.not_not.mp (zb_n h)
  refine ⟨(2 + 2 * s.toInt.toNat, Int32.ofInt 1), ?_, ⟨hB, (by decide : (Int32.ofInt 1).toInt = 1)⟩, ?_⟩
  · show [Value.ref 0, zat c s (.ref (2 + 2 * s.toInt.toNat)), .int (Int32.ofInt 1)] = _
    rw [e1]
  refine ⟨(122, n, t, k), rfl, ⟨⟨⟨zB_122, (by decide : 122 ≠ 199)⟩, ⟨hV, hvt, hvk⟩, hT⟩, hS, hW⟩, ?_⟩
  refine ⟨(nwV A n t k s, n), rfl, hV, ?_⟩
  intro D
  obtain ⟨f1, f2, f3, f5, f6, f7⟩ := nwG_k (t := t) (k := k) (s := s) hV
  have hN3 : 385 ≤ zN (nwG A n t k s) := by
    rw [f6]
    exact hN
  have hn3 : zF (nwG A n t k s) 193 1 = .int n := (f1 193 1 (by decide)).trans hn
  have hvt3 : zF (nwG A n t k s) 193 2 = .int t := (f1 193 2 (by decide)).trans hvt
  have hvk3 : zF (nwG A n t k s) 193 3 = .int k := (f1 193 3 (by decide)).trans hvk
  have hE3 : zcE (nwG A n t k s) n := ⟨hn3, hE.2⟩
  refine ⟨(zN (nwG A n t k s), n, s, u, t, Int32.ofInt 99, k), ?_, ⟨hN3, ?_⟩, ?_⟩
  · show [Value.ref (zN (nwG A n t k s)), zF (zuN (nwG A n t k s) 4 7 D) 193 1, .int s, .int u, zF (zuN (nwG A n t k s) 4 7 D) 193 2, .int (Int32.ofInt 99), zF (zuN (nwG A n t k s) 4 7 D) 193 3] = [.ref (zN (nwG A n t k s)), .int n, .int s, .int u, .int t, .int (Int32.ofInt 99), .int k]
    rw [zuN_f (znN hN3 (by decide)), zuN_f (znN hN3 (by decide)), zuN_f (znN hN3 (by decide)), hn3, hvt3, hvk3]
  · show (zK (zuN (nwG A n t k s) 4 7 D) (zN (nwG A n t k s))).1 = 4
    rw [zuN_k]
  have en : iv (zF (nwG A n t k s) 193 1) = n := by
    rw [hn3]
    rfl
  have hE4 := hE3.new (D := D) (s := s) (u := u) (f := t) (t := Int32.ofInt 99) (k := k) hN3
  rw [en] at hE4
  refine ⟨(zN (nwG A n t k s), 2 + 2 * s.toInt.toNat, n, n), ?_, ⟨hE4, hn12, hN3, ?_, zent_0, hB⟩, ?_⟩
  · show [Value.ref 193, Value.ref (zN (nwG A n t k s)), zat c s (.ref (2 + 2 * s.toInt.toNat))] = _
    rw [e1]
  · show (zK (zuN (nwG A n t k s) 4 7 D) (zN (nwG A n t k s))).1 = 4
    rw [zuN_k]
  · show zhdQ (znwV c n s u (znw_e A s)) n (fun A' => ∃ D, A' = znE (nwG A n t k s) D s u t (Int32.ofInt 99) k) A (some (.int n)) (zkp (zent (zuN (nwG A n t k s) 4 7 D) (zN (nwG A n t k s)) n s u t (Int32.ofInt 99) k) (zN (nwG A n t k s)) (2 + 2 * s.toInt.toNat))
    rw [znw_n ⟨hs, hu⟩ he hn12]
    refine ⟨rfl, D, ?_⟩
    unfold znE
    rw [en]
/-- the reference's -/
def nmG (B1 : zW) (n t k s : Int32) : zW := zov (zgF B1 (encM (lmV ((n, t, k), s.toInt.toNat, Int32.ofInt 1) B1)) k n.toInt.toNat)
def nmP : znwA → zW → Prop := fun ((c, n, t, k), s, _) A => lmmP ((c, n, t, k), s) A
def nmQ : znwA → zW → Option Value → zW → Prop := fun ((c, n, t, k), s, u) A rv A' => zhdQ (znwV c n s u (znm_e A s)) n (fun A' => ∃ B1, laQ (n, t, k) A B1 ∧ A' = zae (nmG B1 n t k s) s u t (Int32.ofInt 99) k) A rv A'
def zq_newsMM : zQ := zs (znw_F 343) nmP nmQ
set_option maxRecDepth 20000 in
set_option maxHeartbeats 8000000 in
theorem zc_X12_news : zdo r_X12_news zq_newsMM := by
  refine zdo_of _ _ _ [(669, 2, q_noSentence), (727, 1, q_noSource), (690, 2, zq_countAt), (1032, 3, zq_leastM), (1050, 2, zq_giveAll8), (912, 6, zq_addEntry)] (fun _ _ => []) 100 fo_X12 rfl (zs_cons rfl za_X12_noSentence (zs_cons rfl za_X12_noSource (zs_cons rfl za_X12_countAt (zs_cons rfl zc_X12_leastCut (zs_cons rfl zc_X12_giveAll (zs_cons rfl za_X12_addEntry zs_nil)))))) k_X12_news (fun _ _ _ => no_zh) (fun a A hp => ?_)
  obtain ⟨⟨c, n, t, k⟩, s, u⟩ := a
  obtain ⟨⟨hc, hc60⟩, hla, hw⟩ := id hp
  have hc60 : c.toInt ≤ 60 := hc60
  have hn : zF A 343 8 = .int n := hla.1.1
  have n0 : 0 ≤ n.toInt := hla.1.2.1
  have n1 : n.toInt ≤ 12 := hla.1.2.2
  have e12 : (Int32.ofInt 12).toInt = 12 := by decide
  have no : ∀ v : Int32, znwV c n s u (znm_e A s) = some v → nmQ ((c, n, t, k), s, u) A (some (.int v)) A := fun v h => (zhd_no h : zhdQ (znwV c n s u (znm_e A s)) n (fun A' => ∃ B1, laQ (n, t, k) A B1 ∧ A' = zae (nmG B1 n t k s) s u t (Int32.ofInt 99) k) A (some (.int v)) A)
  refine ⟨(s, c), rfl, hc, fun h => ?_, fun h => ?_⟩
  · exact no _ (znw_1 (fun z => zb_y h z.1))
  have hs : 0 ≤ s.toInt ∧ s.toInt < c.toInt := Classical.not_not.mp (zb_n (Classical.not_not.mp h))
  have es : s = Int32.ofNat s.toInt.toNat := n32_of (by omega)
  refine ⟨u, rfl, trivial, fun h => ?_, fun h => ?_⟩
  rotate_left
  · exact no _ (znw_1 (fun z => zb_y h z.2))
  have hu := Classical.not_not.mp (zb_n h)
  refine ⟨s, rfl, ⟨hs.1, show s.toInt < 60 by omega⟩, fun h => ?_, fun h => ?_⟩
  rotate_left
  · exact no _ (znw_3 ⟨hs, hu⟩ (decide_eq_true (Classical.not_not.mp h)))
  have he : znm_e A s = false := decide_eq_false h
  refine ⟨fun h => ?_, fun h => ?_⟩
  rotate_left
  · have h : ¬ ¬ (iv (zF A 343 8)).toInt = (Int32.ofInt 12).toInt := h
    rw [hn] at h
    have h : ¬ ¬ n.toInt = (Int32.ofInt 12).toInt := h
    exact no _ (znw_4 ⟨hs, hu⟩ he (by omega))
  have h : ¬ (iv (zF A 343 8)).toInt = (Int32.ofInt 12).toInt := h
  rw [hn] at h
  have h : ¬ n.toInt = (Int32.ofInt 12).toInt := h
  refine ⟨((n, t, k), s.toInt.toNat, Int32.ofInt 1), ?_, ⟨hla, (show s.toInt.toNat < 60 by omega), hw⟩, ?_⟩
  · show [Value.ref 343, .int s, .int (Int32.ofInt 1)] = [.ref 343, .int (Int32.ofNat s.toInt.toNat), .int (Int32.ofInt 1)]
    rw [← es]
  rintro rv B1 ⟨hq, rfl⟩
  have hq : laQ (n, t, k) A B1 := hq
  obtain ⟨gq, ⟨⟨q8, -⟩, -, ⟨q15, q16⟩, -⟩, -⟩ := id hq
  have q8 : zF B1 343 8 = .int n := q8
  have q15 : zF B1 343 15 = .int t := q15
  have q16 : zF B1 343 16 = .int k := q16
  refine ⟨(encM (lmV ((n, t, k), s.toInt.toNat, Int32.ofInt 1) B1), n, k), rfl, ⟨⟨q8, n0, n1⟩, q16⟩, ?_⟩
  obtain ⟨z1, z2, z3, -⟩ := zgF_k (A := B1) (set := encM (lmV ((n, t, k), s.toInt.toNat, Int32.ofInt 1) B1)) (k := k) (e := n.toInt.toNat)
  have y8 : zF (nmG B1 n t k s) 343 8 = .int n := by
    unfold nmG
    rw [zov_F (by omega), z3]
    exact q8
  have y15 : zF (nmG B1 n t k s) 343 15 = .int t := by
    unfold nmG
    rw [zov_F (by omega), z3]
    exact q15
  have y16 : zF (nmG B1 n t k s) 343 16 = .int k := by
    unfold nmG
    rw [zov_F (by omega), z3]
    exact q16
  refine ⟨(s, u, t, Int32.ofInt 99, k), ?_, trivial, ?_⟩
  · show [Value.ref 343, .int s, .int u, zF (nmG B1 n t k s) 343 15, .int (Int32.ofInt 99), zF (nmG B1 n t k s) 343 16] = _
    rw [y15, y16]
  · show zhdQ (znwV c n s u (znm_e A s)) n (fun A' => ∃ B1, laQ (n, t, k) A B1 ∧ A' = zae (nmG B1 n t k s) s u t (Int32.ofInt 99) k) A (some (.int (iv (zF (nmG B1 n t k s) 343 8) + Int32.ofInt 1 - Int32.ofInt 1))) (zae (nmG B1 n t k s) s u t (Int32.ofInt 99) k)
    rw [znw_n ⟨hs, hu⟩ he (by omega), y8]
    refine ⟨?_, B1, hq, rfl⟩
    show some (Value.int (n + 1 - 1)) = some (.int n)
    rw [Int32.add_sub_cancel]
/-! the pair -/
theorem O8.turn {A : zW} {n m q t k c : Int32} (o : O8 A n m q t k c) (s : Int32) : O8 (nwE A s) n m q t k c := by
  have g : agj S_8 (nwE A s) A := agj.tr (agj.sJ (q := 123) (by decide +kernel)) (agj.sJ (q := 123) (by decide +kernel))
  refine ⟨o.e, o.r, o.cl, o.tr, o.v, o.h, o.l, ⟨o.y.1.ag (g.sub sB_8), o.y.2.1.ag g, o.y.2.2.ag g⟩, o.vt, o.vk, o.c0, o.cp, fun i hi x hx => ?_⟩
  have h60 := o.y.1.2.1.2
  have h := o.w i hi x hx
  unfold nwE zE2 ztn zbe
  rw [zsJ_ne (by omega), zsJ_ne (by omega), h]
  show zJ A 344 (4 * i + x) = zJ (zsJ (zsJ A 123 _) 123 _) 344 (4 * i + x)
  rw [zsJ_ne (by decide), zsJ_ne (by decide)]
theorem nwE_w {A : zW} {n m q t k c s : Int32} (o : O8 A n m q t k c) (hs : lePs c s) {x : Nat} (hx : x < 4) : zJ (nwE A s) (122 + 1) x = fwW (nwE A s) s.toInt.toNat (Int32.ofInt 1) x ∧ zJ (nwE A s) (122 + 1) x = zJ A (leq s + 1) x ^^^ Int64.ofInt (-1) := by
  have hb : leq s + 1 ≠ 123 := by
    have h60 := o.y.1.2.1.2
    have := hs.1
    have := hs.2
    unfold leq
    omega
  have h1 : zJ (nwE A s) (122 + 1) x = zJ A (leq s + 1) x ^^^ Int64.ofInt (-1) := by
    unfold nwE zE2 ztn
    rw [zsJ_at, if_pos hx]
    unfold zbe
    rw [zsJ_at, if_pos hx]
    rfl
  have h2 : zJ (nwE A s) 344 (4 * s.toInt.toNat + x) = zJ A 344 (4 * s.toInt.toNat + x) := by
    unfold nwE zE2 ztn zbe
    rw [zsJ_ne (by decide), zsJ_ne (by decide)]
  refine ⟨?_, h1⟩
  have h5 : zJ A (leq s + 1) x = zsw A s.toInt.toNat x := o.w s.toInt.toNat (by have := hs.1; have := hs.2; omega) x hx
  rw [h1, h5]
  unfold fwW
  rw [if_neg (by decide), h2]
  rfl
set_option maxRecDepth 20000 in
theorem pk8_news {B : Nat → Nat} : ∀ (w w1 w2 : lW) (rv1 rv2 : Option Value) (s u : Int32), J8 B w → fLr r_X11_news [.ref (B 0), .int s, .int u] w rv1 w1 → fLr r_X12_news [.ref (B 343), .int s, .int u] w1 rv2 w2 → j8 w2 := by
  intro w w1 w2 rv1 rv2 s u hJ h1 h2
  have hb := hJ.1.1.1.b
  have hb1 : bI B w1 := hb.keep h1 (by decide)
  obtain ⟨tys, hw, -⟩ := h1.2.2.2.2.1
  obtain ⟨A, n, m, q, t, k, c, hA, o⟩ := hJ.o hw
  have hN : 385 ≤ zN A := hA.2.1.2.2
  obtain ⟨f1, f2, f3, f5, f6, f7⟩ := nwG_k (t := t) (k := k) (s := s) o.zeV
  have hN3 : 385 ≤ zN (nwG A n t k s) := by
    rw [f6]
    exact hN
  obtain ⟨A1, u1, hA1, hv1, hQ1⟩ := zrun zc_X11_news h1 hA (zargs hb (by decide) (s := [.int s, .int u]) ⟨rfl, rfl, trivial⟩) (K := fun rv A' => nwQ ((c, n, t, k), s, u) A rv A') ⟨((c, n, t, k), s, u), rfl, ⟨o.le, hN⟩, fun _ _ h => h⟩
  have hQ1 : zhdQ (znwV c n s u (znw_e A s)) n (fun A' => ∃ D, A' = znE (nwG A n t k s) D s u t (Int32.ofInt 99) k) A u1 A1 := hQ1
  have gG : agj S_R8 (nwG A n t k s) A := by
    unfold nwG
    refine agj.tr (agj.tr (agj.tr (agj.sJ (q := 123) (by decide +kernel)) (agj.sJ (q := 123) (by decide +kernel))) (agj_cu (by decide))) (agj_ab sY_x (fun i hi => ?_))
    obtain ⟨j, b0, b1, -⟩ := o.zeV.2 i (by omega)
    have h : zR (zcuW (nwE A s) 122 (zcuV (122, n, t, k) (nwE A s))) 195 i = .ref j := b0
    rw [h]
    exact b1
  have g : agj S_R8 A1 A := by
    unfold zhdQ at hQ1
    split at hQ1
    · rw [hQ1.2]
      exact agj.rf
    · obtain ⟨-, D, rfl⟩ := hQ1
      exact gG.tr (agj_znE (by decide) hN3)
  obtain ⟨A2, u2, hA2, hv2, hQ2⟩ := zrun zc_X12_news h2 hA1 (zargs hb1 (by decide) (s := [.int s, .int u]) ⟨rfl, rfl, trivial⟩) (K := fun rv A' => nmQ ((c, n, t, k), s, u) A1 rv A') ⟨((c, n, t, k), s, u), rfl, o.lm g, fun _ _ h => h⟩
  have hQ2 : zhdQ (znwV c n s u (znm_e A1 s)) n (fun A' => ∃ B1, laQ (n, t, k) A1 B1 ∧ A' = zae (nmG B1 n t k s) s u t (Int32.ofInt 99) k) A1 u2 A2 := hQ2
  have ez : ∀ x, zsw A1 s.toInt.toNat x = zsw A s.toInt.toNat x := fun x => g.2 344 _ (by decide) (by decide +kernel)
  have hVV : znwV c n s u (znw_e A s) = znwV c n s u (znm_e A1 s) := by
    by_cases hs : 0 ≤ s.toInt ∧ s.toInt < c.toInt
    · rw [znw_ee (fun x hx => (o.w s.toInt.toNat (by omega) x hx).trans (ez x).symm)]
    · rw [znw_1 (fun z => hs z.1), znw_1 (fun z => hs z.1)]
  rw [← hVV] at hQ2
  unfold zhdQ at hQ1 hQ2
  cases hV : znwV c n s u (znw_e A s) with
  | some v =>
    rw [hV] at hQ1 hQ2
    obtain ⟨-, e2⟩ := hQ1
    obtain ⟨-, e4⟩ := hQ2
    refine ⟨A2, hA2, n, t, k, c, ?_⟩
    rw [e4, e2]
    exact o.y
  | none =>
    rw [hV] at hQ1 hQ2
    obtain ⟨-, D, eA1⟩ := hQ1
    obtain ⟨-, B1, hq, eA2⟩ := hQ2
    obtain ⟨⟨hsc, hu⟩, hne, hn⟩ := znw_g hV
    have n0 := o.n.1
    have h12 := o.n.2
    -- the two's cuts
    have oE := o.turn s
    have gE : agj S_R8 (nwE A s) A := agj.tr (agj.sJ (q := 123) (by decide +kernel)) (agj.sJ (q := 123) (by decide +kernel))
    have gEr : agj S_N A1 (nwE A s) := by
      have gx : agj S_R8 (nwG A n t k s) (nwE A s) := by
        unfold nwG
        refine agj.tr (agj_cu (by decide)) (agj_ab sY_x (fun i hi => ?_))
        obtain ⟨j, b0, b1, -⟩ := o.zeV.2 i (by omega)
        have h : zR (zcuW (nwE A s) 122 (zcuV (122, n, t, k) (nwE A s))) 195 i = .ref j := b0
        rw [h]
        exact b1
      rw [eA1]
      exact (gx.tr (agj_znE (by decide) hN3)).sub sN_R
    obtain ⟨gq, hla, hLw, h20⟩ := id hq
    have gN : agj S_N B1 (nwE A s) := gEr.tr (gq.sub sN_Y)
    have hwd : ∀ x, x < 4 → zJ (nwE A s) (122 + 1) x = fwW (nwE A s) s.toInt.toNat (Int32.ofInt 1) x := fun x hx => (nwE_w o hsc hx).1
    have hout : zaB (zJ (nwE A s) (122 + 1)) 4 = false := by
      cases hz : zaB (zJ (nwE A s) (122 + 1)) 4 with
      | false => rfl
      | true =>
        exfalso
        have hz := zaB_t.mp hz
        have h0 : zzB (zJ A (2 + 2 * s.toInt.toNat + 1)) 4 = true := zzB_t.mpr (fun x hx => by
          have h3 := Int64.toInt_inj.mp (hz x hx)
          rw [(nwE_w o hsc hx).2] at h3
          have h4 : zJ A (leq s + 1) x = Int64.ofNat 0 := by
            refine l_zero.mpr (fun i hi => ?_)
            have h5 := congrArg (fun y : Int64 => y.toBitVec.getLsbD i) h3
            have h5 : (zJ A (leq s + 1) x ^^^ Int64.ofInt (-1)).toBitVec.getLsbD i = (Int64.ofInt (-1)).toBitVec.getLsbD i := h5
            rw [Int64.toBitVec_xor, BitVec.getLsbD_xor, m1_64 i hi, Bool.xor_true, Bool.not_eq_true'] at h5
            exact h5
          exact congrArg Int64.toInt h4)
        have h1 : znw_e A s = true := h0
        rw [hne] at h1
        cases h1
    have e1 := oE.lc hwd gN hLw
    obtain ⟨b, hbs⟩ := oE.some hwd gN hLw hout
    have ev : nwV A n t k s = encM (lmV ((n, t, k), s.toInt.toNat, Int32.ofInt 1) B1) := by
      show (encL (costC (nwE A s) n.toInt.toNat) (lstF (zlcF (122, n, t, k) (nwE A s)) (costC (nwE A s) n.toInt.toNat) 4096)).1 = _
      rw [e1, hbs]
      rfl
    obtain ⟨v, hv⟩ : ∃ v, v = nwV A n t k s := ⟨_, rfl⟩
    rw [← hv] at ev
    obtain ⟨z1, z2, z3, z4, z5, z6, z7⟩ := zgF_k (A := B1) (set := v) (k := k) (e := n.toInt.toNat)
    have eY : nmG B1 n t k s = zov (zgF B1 v k n.toInt.toNat) := by
      unfold nmG
      rw [← ev]
    rw [eY] at eA2
    -- over what the class has
    have a1 : zF (nwG A n t k s) 193 1 = .int n := (f1 193 1 (by decide)).trans o.e.1.1
    have R1 : ∀ e, zR B1 195 e = zR A1 195 e := fun e => (gq.1.2.1 195 e (by decide) (by decide +kernel)).2
    have I1 : ∀ q e, q < 385 → (zn lp_sh q, 0) ∈ S_Y → zI B1 q e = zI A1 q e := fun q e a b => (gq.1.2.1 q e a b).1
    have hNB : zN A1 ≤ zN B1 := gq.1.2.2.1
    have c6 : ∀ e : Nat, (e : Int) < n.toInt → zF (nwG A n t k s) (rv_ (zR A 195 e)) 6 = if zbi v e = true then .int k else zF A (rv_ (zR A 195 e)) 6 := fun e he => by
      have h := zab_6 (A := zcuW (nwE A s) 122 (zcuV (122, n, t, k) (nwE A s))) (set := v) (v := zF A 193 3) (n := n) o.e h12 (m := n.toInt.toNat) (by omega) e he
      have h : zF (zabF (zcuW (nwE A s) 122 (zcuV (122, n, t, k) (nwE A s))) v (zF A 193 3) n.toInt.toNat) (rv_ (zR A 195 e)) 6 = if e < n.toInt.toNat ∧ zbi v e = true then zF A 193 3 else zF A (rv_ (zR A 195 e)) 6 := h
      unfold nwG
      rw [← hv, h, o.vk]
      by_cases d : zbi v e = true
      · rw [if_pos ⟨by omega, d⟩, if_pos d]
      · rw [if_neg (fun z => d z.2), if_neg d]
    have F0 : ∀ i, i ≠ 19 → i ≠ 33 → i ≠ 55 → zF (zov (zgF B1 v k n.toInt.toNat)) 343 i = zF B1 343 i := fun i h1 h2 h3 => by
      rw [zov_F (by omega), z3]
    have i348 : ∀ e, zI (zov (zgF B1 v k n.toInt.toNat)) 348 e = zI A 348 e := fun e => by
      show zI (zgF B1 v k n.toInt.toNat) 348 e = _
      rw [z2 348 e (by decide), I1 348 e (by decide) (by decide +kernel), eA1, znE_I (by decide), f3]
    have j344 : ∀ e, zJ (zov (zgF B1 v k n.toInt.toNat)) 344 e = zJ A 344 e := fun e => by
      show zJ (zgF B1 v k n.toInt.toNat) 344 e = _
      rw [z5, gq.2 344 e (by decide) (by decide +kernel)]
      exact g.2 344 e (by decide) (by decide +kernel)
    have K1 : ∀ j, 385 ≤ j → j < zN A1 → zK A1 j = (4, 7) → zK B1 j = (4, 7) ∧ zF B1 j 6 = zF A1 j 6 := fun j j1 j2 j3 => ⟨(gq.1.2.2.2 j 4 7 j1 j2 j3).1, (gq.1.2.2.2 j 4 7 j1 j2 j3).2 6 (by decide)⟩
    refine ⟨A2, hA2, n + 1, t, k, c, ?_⟩
    rw [eA2]
    refine jy_plus (jn := zN A) ?_ n0 hn ?_ ?_ ?_ o.y.1.2.1 (fun e he => ?_) hsc (fun e he => ?_) ?_ ⟨hN, ?_, ?_⟩ ?_ (jM_plus n0 hn o.y.1.2.2.2.1 (fun w hw2 => ?_) (fun x hx => ?_) (fun w => ?_)) (fun i hi => ?_)
    · rw [F0 8 (by decide) (by decide) (by decide)]
      exact hla.1.1
    · rw [F0 15 (by decide) (by decide) (by decide)]
      exact hla.2.2.1.1
    · rw [F0 16 (by decide) (by decide) (by decide)]
      exact hla.2.2.1.2
    · rw [F0 1 (by decide) (by decide) (by decide), gq.1.1 343 1 (by decide) (by decide +kernel), g.1.1 343 1 (by decide) (by decide +kernel)]
      exact o.y.1.1.2.2.2
    · rw [i348]
      exact o.y.1.2.2.1 e he
    · obtain ⟨⟨j, b0, ⟨b1, b2, b3⟩, b4⟩, h6⟩ := o.y.1.2.2.2.2 e he
      have hr1 : zR A1 195 e = .ref j := by
        rw [eA1, znE_R hN3 a1, if_neg (fun z => by omega), f2]
        exact b0
      have hk1 : zK A1 j = (4, 7) := by
        rw [eA1, znE_K (by rw [f6]; omega), f5]
        exact b3
      have hn1 : j < zN A1 := by
        rw [eA1, znE_N, f6]
        omega
      have h66 := c6 e he
      have ej : rv_ (zR A 195 e) = j := by rw [b0]; rfl
      rw [ej] at h66
      have hf1 : zF A1 j 6 = zF (nwG A n t k s) j 6 := by
        rw [eA1]
        exact znE_d (by rw [f6]; omega) b1
      have hi1 : zI B1 353 e = zI A 353 e := by
        rw [I1 353 e (by decide) (by decide +kernel), eA1, znE_I (by decide), f3]
      have h353 : zI (zov (zgF B1 v k n.toInt.toNat)) 353 e = if zbi v e = true then k else zI A 353 e := by
        show zI (zgF B1 v k n.toInt.toNat) 353 e = _
        rw [z1, hi1]
        by_cases d : zbi v e = true
        · rw [if_pos ⟨by omega, d⟩, if_pos d]
        · rw [if_neg (fun z => d z.2), if_neg d]
      obtain ⟨k1, k2⟩ := K1 j b1 hn1 hk1
      refine ⟨⟨j, ?_, ⟨b1, ?_, ?_⟩, ?_⟩, ?_⟩
      · show zR (zgF B1 v k n.toInt.toNat) 195 e = _
        rw [z4, R1]
        exact hr1
      · show j < zN (zgF B1 v k n.toInt.toNat)
        rw [z7]
        omega
      · show zK (zgF B1 v k n.toInt.toNat) j = _
        rw [z6]
        exact k1
      · rw [h353, zov_F (by
          rintro ⟨z, -⟩
          omega), z3, k2, hf1, h66, b4]
        by_cases d : zbi v e = true
        · rw [if_pos d, if_pos d]
        · rw [if_neg d, if_neg d]
      · rw [h353]
        split
        · exact Or.inr o.y.1.2.1.1
        · exact h6
    · show zR (zgF B1 v k n.toInt.toNat) 195 n.toInt.toNat = _
      rw [z4, R1, eA1, znE_R hN3 a1, if_pos ⟨rfl, rfl⟩, f6]
    · show zN A < zN (zgF B1 v k n.toInt.toNat)
      rw [z7]
      have : zN A1 = zN A + 1 := by rw [eA1, znE_N, f6]
      omega
    · show zK (zgF B1 v k n.toInt.toNat) (zN A) = _
      rw [z6]
      have hk1 : zK A1 (zN A) = (4, 7) := by
        rw [eA1, ← f6]
        exact znE_Kn
      exact (K1 (zN A) hN (by rw [eA1, znE_N, f6]; omega) hk1).1
    · have hk1 : zK A1 (zN A) = (4, 7) := by
        rw [eA1, ← f6]
        exact znE_Kn
      rw [zov_F (by omega), z3, (K1 (zN A) hN (by rw [eA1, znE_N, f6]; omega) hk1).2, eA1, ← f6, znE_n hN3]
      unfold zent
      rw [zuF_x, if_pos ⟨rfl, rfl⟩]
    · show zI (zgF B1 v k n.toInt.toNat) 196 w = _
      rw [z2 196 w (by decide), I1 196 w (by decide) (by decide +kernel), eA1, znE_196 hN3 a1 hw2, f3]
      have e7 : zJ (nwG A n t k s) (2 + 2 * s.toInt.toNat + 1) = zJ A (2 + 2 * s.toInt.toNat + 1) := funext (fun i => f7 _ i (by have := o.y.1.2.1.2; omega) (by have := o.y.1.2.1.2; omega) (by have := o.y.1.2.1.2; omega))
      rw [e7]
    · rw [j344]
      exact o.w s.toInt.toNat (by omega) x hx
    · unfold trN
      refine vwN_eq (fun e he => ?_)
      unfold seb sew ses
      rw [i348, j344]
    · show 1 ≤ (zI (zgF B1 v k n.toInt.toNat) 345 i).toInt ∧ (zI (zgF B1 v k n.toInt.toNat) 345 i).toInt ≤ 9
      rw [z2 345 i (by decide), I1 345 i (by decide) (by decide +kernel), eA1, znE_I (by decide), f3]
      exact o.y.2.1 i hi
