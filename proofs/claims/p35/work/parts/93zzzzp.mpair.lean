/-! merging: both sides alike -/
section
variable {A A' A1 B1 : zW} {n m q t k c : Int32} {V : Nat}
theorem O8.bsm (o : O8 A n m q t k c) {u e : Nat} (he : (e : Int) < n.toInt) : bsP A V (Int32.ofNat u) e = bmP A V (Int32.ofNat u) e := by
  obtain ⟨j, b0, -, -, -, c2, -⟩ := o.e.2.2 e he
  unfold bsP bmP zsr
  rw [b0]
  show (V.testBit e && decide (iv (zF A j 2) = Int32.ofNat u)) = _
  rw [c2]
  rfl
theorem O8.srcm (o : O8 A n m q t k c) (u : Nat) : srcC A V u n = srcM A V u n := vwN_eq (fun e he => o.bsm (by have := o.n; omega))
theorem O8.okm (o : O8 A n m q t k c) {S w : Nat} (hS : S < 2 ^ n.toInt.toNat) (hw : w < 256) : okC A S w = okE A S w := by
  have h2 := p2_le n.toInt.toNat (by have := o.n; omega)
  have et := jM_tr o.y.1.2.2.2.1 o.n.1 o.n.2 hw
  unfold okC
  rw [et, Bool.eq_iff_iff, decide_eq_true_iff, okE_t]
  unfold trN
  constructor
  · intro h e he hb
    have h1 : (dfN S (vwN (seb A w) n.toInt.toNat)).testBit e = (0 : Nat).testBit e := congrArg (fun x => x.testBit e) h
    rw [dfN_b, Nat.zero_testBit, hb, Bool.true_and, Bool.not_eq_false', vwN_b, Bool.and_eq_true] at h1
    exact h1.2
  · intro h
    refine Nat.eq_of_testBit_eq (fun e => ?_)
    rw [dfN_b, Nat.zero_testBit]
    cases hb : S.testBit e with
    | false => rfl
    | true =>
      rw [vwN_b, decide_eq_true (tb_n hS hb), h e (tb_12 (by omega) hb) hb]
      rfl
theorem exN_eq {p p' : Nat → Bool} : ∀ {n : Nat}, (∀ x, x < n → p x = p' x) → exN p n = exN p' n
  | 0, _ => rfl
  | n + 1, h => by
    show (exN p n || p n) = (exN p' n || p' n)
    rw [exN_eq (fun x hx => h x (by omega)), h n (Nat.lt_succ_self n)]
theorem O8.tkm (o : O8 A n m q t k c) : tkC A V n = tkM A V n := funext (fun u => by
  unfold tkC tkM
  rw [o.srcm u, exN_eq (fun w hw => o.okm srcM_lt hw)])
theorem O8.stm (o : O8 A n m q t k c) {u w : Nat} (hw : w < 256) : st9 A (srcC A V u n) w = st9E A (srcM A V u n) w := by
  unfold st9 st9E
  rw [o.srcm u, o.okm srcM_lt hw]
theorem O8.dsm (o : O8 A n m q t k c) {u w : Nat} (hw : w < 256) : dsC A V n w u = spr (st9E A (srcM A V u n)) 8 w := spr_congr (fun x hx => o.stm hx) 8 w (Nat.le_refl 8) hw
theorem O8.dsm2 (o : O8 A n m q t k c) {u w : Nat} (ht : tkM A V n u = true) (hw : w < 256) : dsC A V n w u = dsM2 A V n w u := by
  obtain ⟨w0, h0, h1⟩ := tkM_w ht
  rw [o.dsm hw]
  exact (spr_same (ok := okE A (srcM A V u n)) (f := st99 (okE A) (srcM A V u n)) (g := st9E A (srcM A V u n)) (fun _ => rfl) (fun _ => rfl) h0 h1 hw).1
theorem O8.csm (o : O8 A n m q t k c) {law w : Nat} (hw : w < 256) : csC A V n law w = csM A V n law w := by
  unfold csC csM
  rw [o.tkm]
  refine cst_eq (fun u hu => ?_) (fun u hu hb => ?_) (Nat.le_refl 6)
  · unfold trT trU
    rw [o.tr u hu]
  · rw [tkM_bit hu] at hb
    exact o.dsm2 hb hw
/-- what the class asks -/
theorem O8.ms (o : O8 A n m q t k c) (hm : jmm A n t k) : ∃ sv, msP (n, t, k, sv) A := by
  obtain ⟨⟨sv, a1, a2⟩, -⟩ := hm
  obtain ⟨-, hV, hT, hS, -⟩ := o.le (s := 0)
  refine ⟨sv, hV, hS, hT, a1, fun z => ?_⟩
  obtain ⟨b1, b2, b3⟩ := a2 z
  have z : 0 ≤ sv.toInt := z
  refine ⟨?_, fun x hx ht w hw => ?_⟩
  · show zF A 324 1 = .int (Int32.ofNat (vwN (tkC A sv.toInt.toNat n) 6))
    rw [o.tkm]
    exact b2
  · have ht : tkC A sv.toInt.toNat n x = true := ht
    rw [o.tkm] at ht
    rw [b3 x hx ht w hw]
    exact congrArg Int32.ofNat (o.dsm (V := sv.toInt.toNat) (u := x) hw).symm
theorem O8.trp (o : O8 A n m q t k c) : trP A ∧ trM A := ⟨fun u hu => by
  rw [o.tr u hu]
  exact o.y.2.1 u hu, o.y.2.1⟩
theorem sh_43 : ∀ x, x < 6 → zn lp_sh (326 + x) = 43 := by decide +kernel
theorem mSame.ag {S : List (Nat × Nat)} (hs : ¬ (16, 1) ∈ S ∧ ¬ (16, 3) ∈ S ∧ ¬ (43, 0) ∈ S) (g : mSame A A') : agj S A' A := by
  refine ⟨⟨fun p i hp hm => g.1 p i (fun z => ?_), fun p i hp hm => ⟨g.2.1 p i (fun z => ?_), g.2.2.2.1 p i⟩, by rw [g.2.2.2.2.2]; exact Nat.le_refl _, fun j ci ty h1 h2 hK => ⟨by rw [g.2.2.2.2.1]; exact hK, fun i _ => g.1 j i (by omega)⟩⟩, fun p i _ _ => g.2.2.1 p i⟩
  · have e16 : zn lp_sh 324 = 16 := by decide +kernel
    obtain ⟨rfl, rfl | rfl⟩ := z
    · rw [e16] at hm
      exact hs.1 hm
    · rw [e16] at hm
      exact hs.2.1 hm
  · obtain ⟨x, hx⟩ : ∃ x, p = 326 + x := ⟨p - 326, by omega⟩
    rw [hx, sh_43 x (by omega)] at hm
    exact hs.2.2 hm
def S_M10 : List (Nat × Nat) := [(49, 0), (50, 0), (45, 0), (51, 0), (52, 0), (53, 0), (54, 0), (17, 55), (17, 56), (76, 0)]
theorem jmM_ag (h : jmM A n t k) (g : agj S_M10 A' A) : jmM A' n t k := by
  obtain ⟨m, m1, m2⟩ := h
  have I : ∀ q i, q < 385 → (zn lp_sh q, 0) ∈ S_M10 → zI A' q i = zI A q i := fun q i a b => (g.1.2.1 q i a b).1
  refine ⟨m, (g.1.1 343 55 (by decide) (by decide +kernel)).trans m1, fun z => ?_⟩
  have e : mvP A' t k = mvP A t k := funext (fun e => by
    unfold mvP
    rw [I 350 e (by decide) (by decide +kernel), I 351 e (by decide) (by decide +kernel), I 352 e (by decide) (by decide +kernel), I 353 e (by decide) (by decide +kernel)])
  rw [e]
  exact mm_of (funext (fun u => funext (fun e => by
    unfold bmP
    rw [I 349 e (by decide) (by decide +kernel)]))) (fun w e _ => by
    unfold seb sew ses
    rw [I 348 e (by decide) (by decide +kernel), g.2 344 _ (by decide) (by decide +kernel)]) (g.1.1 343 56 (by decide) (by decide +kernel)) (fun i => I 375 i (by decide) (by decide +kernel)) (m2 z)
/-- behind the class's settling -/
theorem O8.set (o : O8 A n m q t k c) (hm : jmm A n t k) {sv : Int32} (hR : msR A n (msV (n, t, k, sv) A) A1) : jyy A1 n t k c ∧ jmm A1 n t k ∧ mvV (n, t, k) A1 = msV (n, t, k, sv) A ∧ agj S_R8 A1 A := by
  have h2 := p2_le n.toInt.toNat (by have := o.n; omega)
  have eV : msV (n, t, k, sv) A = vwN (mvP A t k) n.toInt.toNat := jv_eq o.e o.y.1.2.2.2.2
  have hVl : msV (n, t, k, sv) A < 2 ^ n.toInt.toNat := vwN_lt
  obtain ⟨g, f3, f1, hr⟩ := hR
  have g8 : agj S_8 A1 A := g.ag (by decide)
  have gR : agj S_R8 A1 A := g.ag (by decide)
  have ho : olds n A A1 := ⟨fun e _ => g.2.1 349 e (by omega), fun w e _ => by
    unfold seb sew ses
    rw [g.2.1 348 e (by omega), g.2.2.1]⟩
  refine ⟨⟨o.y.1.ag (g8.sub sB_8), o.y.2.1.ag g8, o.y.2.2.ag g8⟩, ⟨⟨_, f3, fun _ => ?_⟩, jmM_ag hm.2 (g.ag (by decide))⟩, ?_, gR⟩
  · rw [n32_t (show msV (n, t, k, sv) A < 4096 by omega)]
    refine ⟨hVl, ho.C (B := A1) (Int.le_refl _) o.n.1 hVl rfl (fun _ _ _ => rfl) ⟨?_, fun x hx ht w hw => ?_⟩⟩
    · rw [f1, o.tkm]
      rfl
    · have ht : tkM A (msV (n, t, k, sv) A) n x = true := ht
      rw [← o.tkm] at ht
      rw [hr x hx ht w hw]
      exact congrArg Int32.ofNat (o.dsm hw)
  · rw [eV]
    show vwN (mvP A1 t k) n.toInt.toNat = _
    rw [mvP_b (g8.sub sB_8)]
/-- what the two speak of is the same -/
theorem O8.alike (o : O8 A n m q t k c) (gR : agj S_R8 A1 A) (hq : laQ (n, t, k) A1 B1) : tkM B1 V n = tkM A V n ∧ (∀ w u, dsM2 B1 V n w u = dsM2 A V n w u) ∧ (∀ u, trU B1 u = trU A u) ∧ ∀ s x, zsw B1 s x = zsw A s x := by
  have gY := hq.1
  have gm : agj S_M0 B1 A := (gR.sub sM_R).tr (gY.sub sM_Y)
  have ho : olds n A B1 := ⟨fun e _ => ((gY.1.2.1 349 e (by decide) (by decide +kernel)).1).trans (gR.1.2.1 349 e (by decide) (by decide +kernel)).1, fun w e _ => by
    unfold seb
    rw [sew_m gm]⟩
  have e0 : ∀ u, bmP B1 V u = bmP A V u := fun u => funext (fun e => by
    unfold bmP
    rw [(gY.1.2.1 349 e (by decide) (by decide +kernel)).1, (gR.1.2.1 349 e (by decide) (by decide +kernel)).1])
  have e1 : ∀ u, srcM B1 V u n = srcM A V u n := fun u => by
    unfold srcM
    rw [e0]
  have e2 : ∀ u, okE B1 (srcM A V u n) = okE A (srcM A V u n) := fun u => funext (fun w => ho.ok u w)
  refine ⟨funext (fun u => ?_), fun w u => ?_, fun u => ?_, fun s x => ?_⟩
  · unfold tkM
    rw [e1, e2]
  · unfold dsM2
    rw [e1]
    have e3 : st99 (okE B1) (srcM A V u n) = st99 (okE A) (srcM A V u n) := funext (fun y => by
      unfold st99
      rw [e2])
    rw [e3]
  · unfold trU
    rw [(gY.1.2.1 345 u (by decide) (by decide +kernel)).1, (gR.1.2.1 345 u (by decide) (by decide +kernel)).1]
  · unfold zsw
    rw [gY.2 344 _ (by decide) (by decide +kernel), gR.2 344 _ (by decide) (by decide +kernel)]
theorem O8.csa (o : O8 A n m q t k c) (gR : agj S_R8 A1 A) (hq : laQ (n, t, k) A1 B1) {law w : Nat} (hw : w < 256) : csM B1 V n law w = csC A V n law w := by
  obtain ⟨a1, a2, a3, -⟩ := o.alike (V := V) gR hq
  rw [o.csm hw]
  unfold csM
  rw [a1]
  exact cst_eq (fun u _ => a3 u) (fun u _ _ => a2 w u) (Nat.le_refl 6)
end
theorem mnB_eq {C C' : Nat → Nat} {x : Nat} (h : ∀ y, y < 256 → C y = C' y) (hx : x < 256) : mnB C 256 x = mnB C' 256 x := by
  rw [Bool.eq_iff_iff, mnB_t, mnB_t]
  constructor
  · rintro ⟨a, b⟩
    exact ⟨a, fun y hy => by rw [← h x hx, ← h y hy]; exact b y hy⟩
  · rintro ⟨a, b⟩
    exact ⟨a, fun y hy => by rw [h x hx, h y hy]; exact b y hy⟩
theorem bF_w {f g : Nat → Int64} (h : ∀ x, x < 256 → bF f x = bF g x) : ∀ y, y < 4 → f y = g y := fun y hy => by
  refine Int64.toBitVec_inj.mp (BitVec.eq_of_getLsbD_eq (fun i hi => ?_))
  rw [← bF_at hi, ← bF_at hi]
  exact h _ (by omega)
theorem sz_m4 {f g : Nat → Int64} (h : ∀ y, y < 4 → f y = g y) : szA bcV f 4 = m4 g := by
  show (((0 + bcV (f 0)) + bcV (f 1)) + bcV (f 2)) + bcV (f 3) = cbA (g 0) 64 + cbA (g 1) 64 + cbA (g 2) 64 + cbA (g 3) 64
  rw [Int32.zero_add, h 0 (by decide), h 1 (by decide), h 2 (by decide), h 3 (by decide), bc_cb, bc_cb, bc_cb, bc_cb]
theorem wiB_eq {f f' g g' : Nat → Int64} : ∀ {n : Nat}, (∀ x, x < n → f' x = f x) → (∀ x, x < n → g' x = g x) → wiB f' g' n = wiB f g n
  | 0, _, _ => rfl
  | n + 1, h1, h2 => by
    show (wiB f' g' n && decide (f' n &&& (g' n ^^^ Int64.ofInt (-1)) = Int64.ofNat 0)) = (wiB f g n && decide (f n &&& (g n ^^^ Int64.ofInt (-1)) = Int64.ofNat 0))
    rw [wiB_eq (fun x hx => h1 x (by omega)) (fun x hx => h2 x (by omega)), h1 n (Nat.lt_succ_self n), h2 n (Nat.lt_succ_self n)]
theorem nth_eq {p p' : Nat → Bool} {i : Int} (h : ∀ x, x < 256 → p x = p' x) (S : Nat) : nthP p 256 i S ↔ nthP p' 256 i S := by
  constructor
  · rintro ⟨a, b, d⟩
    exact ⟨a, by rw [← h S a]; exact b, by rw [← cN_eq (fun y hy => h y (by omega))]; exact d⟩
  · rintro ⟨a, b, d⟩
    exact ⟨a, by rw [h S a]; exact b, by rw [cN_eq (fun y hy => h y (by omega))]; exact d⟩
set_option maxRecDepth 20000 in
theorem pk10_parts {B : Nat → Nat} : ∀ (w w1 w2 : lW) (rv1 rv2 : Option Value), J10 B w → fLr r_X11_parts [.ref (B 0)] w rv1 w1 → fLr r_X12_parts [.ref (B 343)] w1 rv2 w2 → rv1 = rv2 ∧ j10 w2 := by
  intro w w1 w2 rv1 rv2 hJ h1 h2
  have hb := hJ.1.1.1.b
  have hb1 : bI B w1 := hb.keep h1 (by decide)
  obtain ⟨tys, hw, -⟩ := h1.2.2.2.2.1
  obtain ⟨A, n, m, q, t, k, c, hA, o, hm⟩ := J10.o hJ hw
  obtain ⟨sv, hms⟩ := o.ms hm
  obtain ⟨A1, u1, hA1, hv1, e1, hR⟩ := zrun zc_X11_parts h1 hA (zargs hb (by decide) (s := []) trivial) (K := fun rv A' => rv = some (.int (icV (Int32.ofNat (vwN (tkC A (msV (n, t, k, sv) A) n) 6)))) ∧ msR A n (msV (n, t, k, sv) A) A') ⟨(n, t, k, sv), rfl, hms, fun _ _ h => h⟩
  obtain ⟨hy1, hm1, eV, gR⟩ := o.set hm hR
  obtain ⟨mg, hp⟩ := jq_mp hy1 hm1
  obtain ⟨A2, u2, hA2, hv2, B1, hW, e2⟩ := zrun zc_X12_parts h2 hA1 (zargs hb1 (by decide) (s := []) trivial) (K := fun rv A' => ∃ B1, mlW ((n, t, k), mg) A1 B1 A' ∧ rv = some (.int (cbA (Int32.ofNat (vwN (tkM B1 (mvV (n, t, k) A1) n) 6)).toInt64 64))) ⟨((n, t, k), mg), rfl, hp, fun _ _ h => h⟩
  obtain ⟨k1, k2⟩ := jq_ml hy1 hm1 ⟨B1, hW⟩
  refine ⟨(zv_int hv1 e1).trans ?_, A2, hA2, n, t, k, c, k1, k2⟩
  rw [zv_int hv2 e2, eV, (o.alike gR hW.1).1, o.tkm, ic_cb (Nat.lt_of_lt_of_le vwN_lt (by decide))]
set_option maxRecDepth 20000 in
theorem pk10_far {B : Nat → Nat} : ∀ (w w1 w2 : lW) (rv1 rv2 : Option Value) (x u : Int32), J10 B w → fLr r_X11_far [.ref (B 0), .int x, .int u] w rv1 w1 → fLr r_X12_far [.ref (B 343), .int x, .int u] w1 rv2 w2 → rv1 = rv2 ∧ j10 w2 := by
  intro w w1 w2 rv1 rv2 x u hJ h1 h2
  have hb := hJ.1.1.1.b
  have hb1 : bI B w1 := hb.keep h1 (by decide)
  obtain ⟨tys, hw, -⟩ := h1.2.2.2.2.1
  obtain ⟨A, n, m, q, t, k, c, hA, o, hm⟩ := J10.o hJ hw
  obtain ⟨sv, hms⟩ := o.ms hm
  obtain ⟨A1, u1, hA1, hv1, hQ1⟩ := zrun zc_X11_far h1 hA (zargs hb (by decide) (s := [.int x, .int u]) ⟨rfl, rfl, trivial⟩) (K := fun rv A' => (¬ wdPs x u ∧ rv = some (.int (-1)) ∧ A' = A) ∨ (wdPs x u ∧ msR A n (msV (n, t, k, sv) A) A' ∧ rv = some (.int (farV (tkC A (msV (n, t, k, sv) A) n u.toInt.toNat) (dsC A (msV (n, t, k, sv) A) n x.toInt.toNat u.toInt.toNat))))) ⟨((n, t, k, sv), x, u), rfl, hms, fun _ _ h => h⟩
  have run2 : ∀ mg, mlP ((n, t, k), mg) A1 → ∃ (A2 : zW) (u2 : Option Value), zA A2 w2.1 w2.2 ∧ zvs w2.1 rv2.toList u2.toList ∧ ((¬ wdPs x u ∧ u2 = some (.int (-1)) ∧ A2 = A1) ∨ (wdPs x u ∧ ∃ B1, mlW ((n, t, k), mg) A1 B1 A2 ∧ u2 = some (.int (farV (tkM B1 (mvV (n, t, k) A1) n u.toInt.toNat) (dsM2 B1 (mvV (n, t, k) A1) n x.toInt.toNat u.toInt.toNat))))) := fun mg hp => zrun zc_X12_far h2 hA1 (zargs hb1 (by decide) (s := [.int x, .int u]) ⟨rfl, rfl, trivial⟩) (K := fun rv A' => (¬ wdPs x u ∧ rv = some (.int (-1)) ∧ A' = A1) ∨ (wdPs x u ∧ ∃ B1, mlW ((n, t, k), mg) A1 B1 A' ∧ rv = some (.int (farV (tkM B1 (mvV (n, t, k) A1) n u.toInt.toNat) (dsM2 B1 (mvV (n, t, k) A1) n x.toInt.toNat u.toInt.toNat))))) ⟨(((n, t, k), mg), x, u), rfl, hp, fun _ _ h => h⟩
  rcases hQ1 with ⟨d1, e1, eA⟩ | ⟨d1, hR, e1⟩
  · obtain ⟨mg, hp⟩ := jq_mp o.y hm
    rw [← eA] at hp
    obtain ⟨A2, u2, hA2, hv2, ⟨-, e2, eA2⟩ | ⟨k1, -⟩⟩ := run2 mg hp
    · refine ⟨(zv_int hv1 e1).trans (zv_int hv2 e2).symm, A2, hA2, n, t, k, c, ?_⟩
      rw [eA2, eA]
      exact ⟨o.y, hm⟩
    · exact absurd k1 d1
  · obtain ⟨hy1, hm1, eV, gR⟩ := o.set hm hR
    obtain ⟨mg, hp⟩ := jq_mp hy1 hm1
    obtain ⟨A2, u2, hA2, hv2, ⟨k1, -⟩ | ⟨-, B1, hW, e2⟩⟩ := run2 mg hp
    · exact absurd d1 k1
    · obtain ⟨k1, k2⟩ := jq_ml hy1 hm1 ⟨B1, hW⟩
      refine ⟨(zv_int hv1 e1).trans ?_, A2, hA2, n, t, k, c, k1, k2⟩
      obtain ⟨a1, a2, -⟩ := o.alike (V := msV (n, t, k, sv) A) gR hW.1
      rw [zv_int hv2 e2, eV, a1, a2, o.tkm]
      unfold farV
      by_cases ht : tkM A (msV (n, t, k, sv) A) n u.toInt.toNat = true
      · rw [if_pos ht, if_pos ht, o.dsm2 ht (by have := d1.1; omega)]
      · rw [if_neg ht, if_neg ht]
/-- the three of them by a law -/
theorem mg_pair {A A1 A2 : zW} {n m q t k c sv mg : Int32} {law : Nat} (o : O8 A n m q t k c) (hm : jmm A n t k) (hc : chQ ((n, t, k, sv), law) A A1) (hg : mgQ (((n, t, k), mg), law) A1 A2) : (∀ x, x < 256 → bF (zJ A1 333) x = bF (zJ A2 378) x) ∧ (jyy A2 n t k c ∧ jmm A2 n t k) ∧ (∀ s, s < 60 → ∀ x, x < 4 → zsw A2 s x = zsw A s x) ∧ ∀ p x, p ≠ 333 → zJ A1 p x = zJ A p x := by
  obtain ⟨A0, f, hR, eA1, hf⟩ := hc
  have hR : msR A n (msV (n, t, k, sv) A) A0 := hR
  have hf : ∀ x, x < 256 → bF f x = mnB (csC A (msV (n, t, k, sv) A) n law) 256 x := hf
  obtain ⟨hy0, hm0, eV0, gR0⟩ := o.set hm hR
  have g1 : ∀ S : List (Nat × Nat), ¬ (2, 0) ∈ S → agj S A1 A0 := fun S hs => by
    rw [eA1]
    refine agj.sJ (q := 333) ?_
    rw [show zn lp_sh 333 = 2 by decide +kernel]
    exact hs
  have g8 := g1 S_8 (by decide)
  have gR : agj S_R8 A1 A := gR0.tr (g1 S_R8 (by decide))
  have hy1 : jyy A1 n t k c := ⟨hy0.1.ag (g8.sub sB_8), hy0.2.1.ag g8, hy0.2.2.ag g8⟩
  have hm1 : jmm A1 n t k := jmm_ag hm0 o.n.1 (g1 S_10 (by decide))
  have eV : mvV (n, t, k) A1 = msV (n, t, k, sv) A := by
    rw [← eV0]
    show vwN (mvP A1 t k) n.toInt.toNat = vwN (mvP A0 t k) n.toInt.toNat
    rw [mvP_b (g8.sub sB_8)]
  obtain ⟨B1, B2, hq, gs, h55, hmm, ge, hx⟩ := hg
  have hq : laQ (n, t, k) A1 B1 := hq
  have hx : ∀ x, x < 256 → bF (zJ A2 378) x = mnB (csM B1 (mvV (n, t, k) A1) n law) 256 x := hx
  obtain ⟨k1, k2⟩ := jq_ml (A' := B2) (m := mg) hy1 hm1 ⟨B1, hq, gs, h55, hmm⟩
  have ge8 : ∀ S : List (Nat × Nat), (¬ (77, 0) ∈ S ∧ ¬ (78, 0) ∈ S ∧ ¬ (79, 0) ∈ S) → agj S A2 B2 := fun S hs => by
    have e7 : zn lp_sh 376 = 77 ∧ zn lp_sh 377 = 78 ∧ zn lp_sh 378 = 79 := by decide +kernel
    refine ⟨⟨fun p i _ _ => ge.1 p i, fun p i hp hm => ⟨ge.2.1 p i (fun z => ?_) (fun z => ?_), ge.2.2.2.1 p i⟩, by rw [ge.2.2.2.2.2]; exact Nat.le_refl _, fun j ci ty h1 h2 hK => ⟨by rw [ge.2.2.2.2.1]; exact hK, fun i _ => ge.1 j i⟩⟩, fun p i hp hm => ge.2.2.1 p i (fun z => ?_)⟩
    · rw [z, e7.1] at hm
      exact hs.1 hm
    · rw [z, e7.2.1] at hm
      exact hs.2.1 hm
    · rw [z, e7.2.2] at hm
      exact hs.2.2 hm
  have h8 := ge8 S_8 (by decide)
  refine ⟨fun x hx2 => ?_, ⟨⟨k1.1.ag (h8.sub sB_8), k1.2.1.ag h8, k1.2.2.ag h8⟩, jmm_ag k2 o.n.1 (ge8 S_10 (by decide))⟩, fun s hs x hx2 => ?_, fun p x hp => ?_⟩
  · rw [hx x hx2, eV, eA1, zJ_s, hf x hx2]
    exact mnB_eq (fun y hy => (o.csa gR hq hy).symm) hx2
  · have h3 := (o.alike (V := 0) gR hq).2.2.2 s x
    rw [← h3]
    show zJ A2 344 (4 * s + x) = zJ B1 344 (4 * s + x)
    rw [ge.2.2.1 344 _ (by decide), gs.2.2.1]
  · rw [eA1, zsJ_ne hp]
    exact hR.1.2.2.1 p x
/-- what the reference asks behind the class's choosing -/
theorem mg_pre {A A0 A1 : zW} {f : Nat → Int64} {n m q t k c sv : Int32} (o : O8 A n m q t k c) (hm : jmm A n t k) (hR : msR A n (msV (n, t, k, sv) A) A0) (eA1 : A1 = zsJ A0 333 f) : (∃ mg, mlP ((n, t, k), mg) A1) ∧ trM A1 := by
  obtain ⟨hy0, hm0, eV0, gR0⟩ := o.set hm hR
  have g1 : ∀ S : List (Nat × Nat), ¬ (2, 0) ∈ S → agj S A1 A0 := fun S hs => by
    rw [eA1]
    refine agj.sJ (q := 333) ?_
    rw [show zn lp_sh 333 = 2 by decide +kernel]
    exact hs
  have g8 := g1 S_8 (by decide)
  have hy1 : jyy A1 n t k c := ⟨hy0.1.ag (g8.sub sB_8), hy0.2.1.ag g8, hy0.2.2.ag g8⟩
  exact ⟨jq_mp hy1 (jmm_ag hm0 o.n.1 (g1 S_10 (by decide))), hy1.2.1⟩
set_option maxRecDepth 20000 in
theorem pk10_merged {B : Nat → Nat} : ∀ (w w1 w2 : lW) (rv1 rv2 : Option Value) (x : Int32), J10 B w → fLr r_X11_merged [.ref (B 0), .int x] w rv1 w1 → fLr r_X12_merged [.ref (B 343), .int x] w1 rv2 w2 → rv1 = rv2 ∧ j10 w2 := by
  intro w w1 w2 rv1 rv2 x hJ h1 h2
  have hb := hJ.1.1.1.b
  have hb1 : bI B w1 := hb.keep h1 (by decide)
  obtain ⟨tys, hw, -⟩ := h1.2.2.2.2.1
  obtain ⟨A, n, m, q, t, k, c, hA, o, hm⟩ := J10.o hJ hw
  obtain ⟨sv, hms⟩ := o.ms hm
  obtain ⟨A1, u1, hA1, hv1, hQ1⟩ := zrun zc_X11_merged h1 hA (zargs hb (by decide) (s := [.int x]) ⟨rfl, trivial⟩) (K := lwQ9 x (n, t, k, sv) A (fun rv A' => rv = some (.int (szA bcV (zJ A' 333) 4)))) ⟨((n, t, k, sv), x), rfl, ⟨hms, o.trp.1⟩, fun _ _ h => h⟩
  have run2 : ∀ mg, mlP ((n, t, k), mg) A1 → trM A1 → ∃ (A2 : zW) (u2 : Option Value), zA A2 w2.1 w2.2 ∧ zvs w2.1 rv2.toList u2.toList ∧ lwQM x ((n, t, k), mg) A1 (fun rv A' => rv = some (.int (m4 (zJ A' 378)))) u2 A2 := fun mg hp hT => zrun zc_X12_merged h2 hA1 (zargs hb1 (by decide) (s := [.int x]) ⟨rfl, trivial⟩) (K := lwQM x ((n, t, k), mg) A1 (fun rv A' => rv = some (.int (m4 (zJ A' 378))))) ⟨(((n, t, k), mg), x), rfl, ⟨hp, hT⟩, fun _ _ h => h⟩
  rcases hQ1 with ⟨d1, e1, eA⟩ | ⟨d1, hc, e1⟩
  · obtain ⟨mg, hp⟩ := jq_mp o.y hm
    rw [← eA] at hp
    obtain ⟨A2, u2, hA2, hv2, ⟨-, e2, eA2⟩ | ⟨k1, -⟩⟩ := run2 mg hp (by rw [eA]; exact o.trp.2)
    · refine ⟨(zv_int hv1 e1).trans (zv_int hv2 e2).symm, A2, hA2, n, t, k, c, ?_⟩
      rw [eA2, eA]
      exact ⟨o.y, hm⟩
    · exact absurd k1 d1
  · obtain ⟨A0, f, hR, eA1, hf⟩ := id hc
    obtain ⟨hp, hT⟩ := mg_pre o hm hR eA1
    obtain ⟨mg, hp⟩ := hp
    obtain ⟨A2, u2, hA2, hv2, ⟨k1, -⟩ | ⟨-, hg, e2⟩⟩ := run2 mg hp hT
    · exact absurd d1 k1
    · obtain ⟨a1, a2, -⟩ := mg_pair o hm hc hg
      exact ⟨(zv_int hv1 e1).trans ((congrArg (fun z => some (Value.int z)) (sz_m4 (bF_w a1))).trans (zv_int hv2 e2).symm), A2, hA2, n, t, k, c, a2⟩
set_option maxRecDepth 20000 in
theorem pk10_mergedWorld {B : Nat → Nat} : ∀ (w w1 w2 : lW) (rv1 rv2 : Option Value) (x i : Int32), J10 B w → fLr r_X11_mergedWorld [.ref (B 0), .int x, .int i] w rv1 w1 → fLr r_X12_mergedWorld [.ref (B 343), .int x, .int i] w1 rv2 w2 → rv1 = rv2 ∧ j10 w2 := by
  intro w w1 w2 rv1 rv2 x i hJ h1 h2
  have hb := hJ.1.1.1.b
  have hb1 : bI B w1 := hb.keep h1 (by decide)
  obtain ⟨tys, hw, -⟩ := h1.2.2.2.2.1
  obtain ⟨A, n, m, q, t, k, c, hA, o, hm⟩ := J10.o hJ hw
  obtain ⟨sv, hms⟩ := o.ms hm
  obtain ⟨A1, u1, hA1, hv1, hQ1⟩ := zrun zc_X11_mergedWorld h1 hA (zargs hb (by decide) (s := [.int x, .int i]) ⟨rfl, rfl, trivial⟩) (K := lwQ9 x (n, t, k, sv) A (fun rv A' => ∃ v : Int32, rv = some (.int v) ∧ atR (bF (zJ A' 333)) 256 i v)) ⟨(((n, t, k, sv), x), i), rfl, ⟨hms, o.trp.1⟩, fun _ _ h => h⟩
  have run2 : ∀ mg, mlP ((n, t, k), mg) A1 → trM A1 → ∃ (A2 : zW) (u2 : Option Value), zA A2 w2.1 w2.2 ∧ zvs w2.1 rv2.toList u2.toList ∧ lwQM x ((n, t, k), mg) A1 (fun rv A' => ∃ v : Int32, rv = some (.int v) ∧ atR (bF (zJ A' 378)) 256 i v) u2 A2 := fun mg hp hT => zrun zc_X12_mergedWorld h2 hA1 (zargs hb1 (by decide) (s := [.int x, .int i]) ⟨rfl, rfl, trivial⟩) (K := lwQM x ((n, t, k), mg) A1 (fun rv A' => ∃ v : Int32, rv = some (.int v) ∧ atR (bF (zJ A' 378)) 256 i v)) ⟨((((n, t, k), mg), x), i), rfl, ⟨hp, hT⟩, fun _ _ h => h⟩
  rcases hQ1 with ⟨d1, e1, eA⟩ | ⟨d1, hc, v, e1, hv⟩
  · obtain ⟨mg, hp⟩ := jq_mp o.y hm
    rw [← eA] at hp
    obtain ⟨A2, u2, hA2, hv2, ⟨-, e2, eA2⟩ | ⟨k1, -⟩⟩ := run2 mg hp (by rw [eA]; exact o.trp.2)
    · refine ⟨(zv_int hv1 e1).trans (zv_int hv2 e2).symm, A2, hA2, n, t, k, c, ?_⟩
      rw [eA2, eA]
      exact ⟨o.y, hm⟩
    · exact absurd k1 d1
  · obtain ⟨A0, f, hR, eA1, hf⟩ := id hc
    obtain ⟨hp, hT⟩ := mg_pre o hm hR eA1
    obtain ⟨mg, hp⟩ := hp
    obtain ⟨A2, u2, hA2, hv2, ⟨k1, -⟩ | ⟨-, hg, v2, e2, hv3⟩⟩ := run2 mg hp hT
    · exact absurd d1 k1
    · obtain ⟨a1, a2, -⟩ := mg_pair o hm hc hg
      have ev := atR_uni (fun S => nth_eq a1 S) hv hv3
      subst ev
      exact ⟨(zv_int hv1 e1).trans (zv_int hv2 e2).symm, A2, hA2, n, t, k, c, a2⟩
set_option maxRecDepth 20000 in
theorem pk10_agreed {B : Nat → Nat} : ∀ (w w1 w2 : lW) (rv1 rv2 : Option Value) (s x : Int32), J10 B w → fLr r_X11_agreed [.ref (B 0), .int s, .int x] w rv1 w1 → fLr r_X12_agreed [.ref (B 343), .int s, .int x] w1 rv2 w2 → rv1 = rv2 ∧ j10 w2 := by
  intro w w1 w2 rv1 rv2 s x hJ h1 h2
  have hb := hJ.1.1.1.b
  have hb1 : bI B w1 := hb.keep h1 (by decide)
  obtain ⟨tys, hw, -⟩ := h1.2.2.2.2.1
  obtain ⟨A, n, m, q, t, k, c, hA, o, hm⟩ := J10.o hJ hw
  obtain ⟨sv, hms⟩ := o.ms hm
  have c60 : c.toInt ≤ 60 := o.y.1.2.1.2
  have hc' : zF A 343 1 = .int c := o.y.1.1.2.2.2
  obtain ⟨A1, u1, hA1, hv1, hQ1⟩ := zrun zc_X11_agreed h1 hA (zargs hb (by decide) (s := [.int s, .int x]) ⟨rfl, rfl, trivial⟩) (K := agQ c s x A (fun _ A' => chQ ((n, t, k, sv), x.toInt.toNat) A A') (fun A' => wiB (zJ A' 333) (zJ A' (leq s + 1)) 4)) ⟨(((n, t, k, sv), x), c, s), rfl, ⟨⟨hms, o.trp.1⟩, o.c0, c60⟩, fun _ _ h => h⟩
  have run2 : ∀ mg, mlP ((n, t, k), mg) A1 → trM A1 → zF A1 343 1 = .int c → ∃ (A2 : zW) (u2 : Option Value), zA A2 w2.1 w2.2 ∧ zvs w2.1 rv2.toList u2.toList ∧ agQ c s x A1 (fun _ A' => mgQ (((n, t, k), mg), x.toInt.toNat) A1 A') (fun A' => wiB (zJ A' 378) (zsw A' s.toInt.toNat) 4) u2 A2 := fun mg hp hT h1c => zrun zc_X12_agreed h2 hA1 (zargs hb1 (by decide) (s := [.int s, .int x]) ⟨rfl, rfl, trivial⟩) (K := agQ c s x A1 (fun _ A' => mgQ (((n, t, k), mg), x.toInt.toNat) A1 A') (fun A' => wiB (zJ A' 378) (zsw A' s.toInt.toNat) 4)) ⟨((((n, t, k), mg), x), c, s), rfl, ⟨⟨hp, hT⟩, h1c, c60⟩, fun _ _ h => h⟩
  have same : A1 = A → ∃ mg, mlP ((n, t, k), mg) A1 ∧ trM A1 ∧ zF A1 343 1 = .int c := fun eA => by
    obtain ⟨mg, hp⟩ := jq_mp o.y hm
    rw [eA]
    exact ⟨mg, hp, o.trp.2, hc'⟩
  rcases hQ1 with ⟨d1, e1, eA⟩ | ⟨d1, d2, e1, eA⟩ | ⟨d1, d2, hc, e1⟩
  · obtain ⟨mg, hp, hT, h1c⟩ := same eA
    obtain ⟨A2, u2, hA2, hv2, ⟨-, e2, eA2⟩ | ⟨k1, -⟩ | ⟨k1, -⟩⟩ := run2 mg hp hT h1c
    · refine ⟨(zv_int hv1 e1).trans (zv_int hv2 e2).symm, A2, hA2, n, t, k, c, ?_⟩
      rw [eA2, eA]
      exact ⟨o.y, hm⟩
    · exact absurd k1 d1
    · exact absurd k1 d1
  · obtain ⟨mg, hp, hT, h1c⟩ := same eA
    obtain ⟨A2, u2, hA2, hv2, ⟨k1, -⟩ | ⟨-, -, e2, eA2⟩ | ⟨-, k1, -⟩⟩ := run2 mg hp hT h1c
    · exact absurd d1 k1
    · refine ⟨(zv_int hv1 e1).trans (zv_int hv2 e2).symm, A2, hA2, n, t, k, c, ?_⟩
      rw [eA2, eA]
      exact ⟨o.y, hm⟩
    · exact absurd k1 d2
  · obtain ⟨A0, f, hR, eA1, hf⟩ := id hc
    obtain ⟨hp, hT⟩ := mg_pre o hm hR eA1
    obtain ⟨mg, hp⟩ := hp
    have h1c : zF A1 343 1 = .int c := by
      rw [eA1]
      exact (hR.1.1 343 1 (by omega)).trans hc'
    obtain ⟨A2, u2, hA2, hv2, ⟨k1, -⟩ | ⟨-, k1, -⟩ | ⟨-, -, hg, e2⟩⟩ := run2 mg hp hT h1c
    · exact absurd d1 k1
    · exact absurd d2 k1
    · obtain ⟨a1, a2, a3, a4⟩ := mg_pair o hm hc hg
      refine ⟨(zv_int hv1 e1).trans ?_, A2, hA2, n, t, k, c, a2⟩
      rw [zv_int hv2 e2]
      refine congrArg (fun z => some (Value.int (zb z))) (wiB_eq (bF_w a1) (fun y hy => ?_))
      have h60 : s.toInt.toNat < 60 := by have := d1.1; have := d1.2; omega
      rw [a3 _ h60 y hy, a4 _ _ (by unfold leq; omega)]
      exact o.w s.toInt.toNat (by have := d1.1; have := d1.2; omega) y hy
