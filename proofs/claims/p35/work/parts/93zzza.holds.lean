/-! take, loose, tell, show, as: the pairs -/
section
variable {A : zW} {n m q : Int32}
/-- what a hold has, by what the reference keeps of it -/
theorem j_hl {k : Nat} (h1 : jE A n) (h2 : jR A m) (h6 : jH A n m) (hk : k < 6) : zhl A k (zI A 379 k) (zI A 380 k) (zI A 348 (zI A 380 k).toInt.toNat) (zI A 357 (zI A 380 k).toInt.toNat) (zI A 359 (zI A 380 k).toInt.toNat) (zI A 360 (zI A 380 k).toInt.toNat) := by
  rcases h6 k hk with a | ⟨a, b, c⟩ | ⟨a, b, c⟩
  · exact Or.inl a
  · obtain ⟨j, b0, ⟨b1, b2, b3⟩, c0, c1, -⟩ := h1.2.2 (zI A 380 k).toInt.toNat (by omega)
    have en : zI A 380 k = Int32.ofNat (zI A 380 k).toInt.toNat := n32_of (by omega)
    refine Or.inr (Or.inl ⟨a, j, c.trans b0, b1, b3, ?_, c1⟩)
    exact c0.trans (congrArg Value.int en.symm)
  · obtain ⟨j, b0, ⟨b1, b2⟩, ⟨c1, c2, c3, c4, c5⟩, -⟩ := h2.2.2 (zI A 380 k).toInt.toNat (by omega)
    have en : zI A 380 k = Int32.ofNat (zI A 380 k).toInt.toNat := n32_of (by omega)
    refine Or.inr (Or.inr ⟨a, b2, j, c.trans b0, c1, c2, ?_, c4, c5⟩)
    exact c3.trans (congrArg Value.int en.symm)
/-- a hold's kind of rule is one -/
theorem j_kd {k : Nat} (h2 : jR A m) (h6 : jH A n m) (hk : k < 6) (h : ¬ (zI A 379 k).toInt < 0) (h0 : ¬ (zI A 379 k).toInt = 0) : 0 ≤ (zI A 357 (zI A 380 k).toInt.toNat).toInt ∧ (zI A 357 (zI A 380 k).toInt.toNat).toInt ≤ 2 := by
  rcases h6 k hk with ⟨a, -⟩ | ⟨a, -⟩ | ⟨a, b, c⟩
  · exact absurd a h
  · exact absurd a h0
  · obtain ⟨j, b0, ⟨b1, b2⟩, -⟩ := h2.2.2 (zI A 380 k).toInt.toNat (by omega)
    exact b2
theorem jE.rf (h : jE A n) : zref A 195 n := fun e he => by
  obtain ⟨j, b0, -⟩ := h.2.2 e he
  exact ⟨j, b0⟩
theorem jR.rf (h : jR A m) : zref A 210 m := fun e he => by
  obtain ⟨j, b0, -⟩ := h.2.2 e he
  exact ⟨j, b0⟩
end
def ztkM (A : zW) (k : Nat) (y x : Int32) (v : Value) : zW := zuI (zuI (zuR A 334 k v) 379 k y) 380 k x
section
variable {A : zW} {k i : Nat} {y x : Int32} {v : Value}
theorem ztkM_1 : zI (ztkM A k y x v) 379 i = if i = k then y else zI A 379 i := by
  unfold ztkM
  rw [zuI_ne (show (379 : Nat) ≠ 380 by decide), zuI_x, zI_uR]
  by_cases h : i = k
  · rw [if_pos ⟨rfl, h⟩, if_pos h]
  · rw [if_neg (fun z => h z.2), if_neg h]
theorem ztkM_2 : zI (ztkM A k y x v) 380 i = if i = k then x else zI A 380 i := by
  unfold ztkM
  rw [zuI_x, zuI_ne (show (380 : Nat) ≠ 379 by decide), zI_uR]
  by_cases h : i = k
  · rw [if_pos ⟨rfl, h⟩, if_pos h]
  · rw [if_neg (fun z => h z.2), if_neg h]
theorem ztkM_3 : zR (ztkM A k y x v) 334 i = if i = k then v else zR A 334 i := by
  unfold ztkM
  rw [zR_uI, zR_uI, zuR_x]
  by_cases h : i = k
  · rw [if_pos ⟨rfl, h⟩, if_pos h]
  · rw [if_neg (fun z => h z.2), if_neg h]
theorem ztkM_4 {p : Nat} (h : p ≠ 334) : zR (ztkM A k y x v) p i = zR A p i := by
  unfold ztkM
  rw [zR_uI, zR_uI, zuR_x, if_neg (fun z => h z.1)]
theorem ztkM_g : agl (S_E ++ S_R ++ S_C ++ S_T ++ S_V ++ S_L) (ztkM A k y x v) A := by
  unfold ztkM
  exact agl.tr (agl.tr (agl.nR (by decide) (by decide +kernel)) (agl.nI (by decide) (by decide +kernel))) (agl.nI (by decide) (by decide +kernel))
end
theorem jx_tk {A : zW} {n m q k y x : Int32} (h1 : jE A n) (h2 : jR A m) (h3 : jC A q) (h4 : jT A) (h5 : jV A) (h6 : jH A n m) (h7 : jL A) (hy : 0 ≤ y.toInt ∧ y.toInt ≤ 1) (hx : 0 ≤ x.toInt ∧ x.toInt < (if y.toInt = 0 then n else m).toInt) : jx (ztkM A k.toInt.toNat y x (zR A (if y.toInt = 0 then 195 else 210) x.toInt.toNat)) := by
  have g := ztkM_g (A := A) (k := k.toInt.toNat) (y := y) (x := x) (v := zR A (if y.toInt = 0 then 195 else 210) x.toInt.toNat)
  refine ⟨n, m, q, h1.ag g (by decide), h2.ag g (by decide), h3.ag g (by decide), h4.ag g (by decide), h5.ag g (by decide), fun i hi => ?_, h7.ag g (by decide)⟩
  unfold jhd
  rw [ztkM_1, ztkM_2, ztkM_3, ztkM_4 (by decide), ztkM_4 (by decide)]
  by_cases c : i = k.toInt.toNat
  · rw [if_pos c, if_pos c, if_pos c]
    by_cases hy0 : y.toInt = 0
    · rw [if_pos hy0] at hx
      exact Or.inr (Or.inl ⟨hy0, hx, by rw [if_pos hy0]⟩)
    · rw [if_neg hy0] at hx
      exact Or.inr (Or.inr ⟨by omega, hx, by rw [if_neg hy0]⟩)
  · rw [if_neg c, if_neg c, if_neg c]
    exact h6 i hi
set_option maxRecDepth 20000 in
theorem pk7_take {B : Nat → Nat} : ∀ (w w1 w2 : lW) (rv1 rv2 : Option Value) (k y x : Int32), J7 B w → fLr r_X11_take [.ref (B 0), .int k, .int y, .int x] w rv1 w1 → fLr r_X12_take [.ref (B 343), .int k, .int y, .int x] w1 rv2 w2 → rv1 = rv2 ∧ J7 B w2 := by
  intro w w1 w2 rv1 rv2 k y x hJ h1 h2
  have hb := hJ.1.1.b
  have hb1 : bI B w1 := hb.keep h1 (by decide)
  have h6 : J6 B w2 := fr6 h2 (fr6 h1 hJ.1 (by decide) (by decide) (by decide) (by decide) (by decide)) (by decide) (by decide) (by decide) (by decide) (by decide)
  obtain ⟨J6w, A, hA, n, m, q, g1, g2, g3, g4, g5, g6, g7⟩ := hJ
  obtain ⟨A1, u1, hA1, hv1, hQ1⟩ := zrun za_X11_take h1 hA (zargs hb (by decide) (s := [.int k, .int y, .int x]) ⟨rfl, rfl, rfl, trivial⟩) (K := fun rv A' => ztk_Q ((n, m), k, y, x) A rv A') ⟨((n, m), k, y, x), rfl, ⟨g1.1, g2.1, g1.rf, g2.rf⟩, fun _ _ h => h⟩
  have hQ1 : zhdQ (ztkV n m k y x) 1 (fun A' => A' = zuR A 334 k.toInt.toNat (zR A (if y.toInt = 0 then 195 else 210) x.toInt.toNat)) A u1 A1 := hQ1
  have hpre : zF A1 343 8 = .int n ∧ zF A1 343 27 = .int m := by
    unfold zhdQ at hQ1
    split at hQ1
    · rw [hQ1.2]
      exact ⟨g1.2.1, g2.2.1⟩
    · obtain ⟨-, e⟩ := hQ1
      rw [e, zF_uR, zF_uR]
      exact ⟨g1.2.1, g2.2.1⟩
  obtain ⟨A2, u2, hA2, hv2, hQ2⟩ := zrun za_X12_take h2 hA1 (zargs hb1 (by decide) (s := [.int k, .int y, .int x]) ⟨rfl, rfl, rfl, trivial⟩) (K := fun rv A' => ztm_Q ((n, m), k, y, x) A1 rv A') ⟨((n, m), k, y, x), rfl, hpre, fun _ _ h => h⟩
  have hQ2 : zhdQ (ztkV n m k y x) 1 (fun A' => A' = zuI (zuI A1 379 k.toInt.toNat y) 380 k.toInt.toNat x) A1 u2 A2 := hQ2
  unfold zhdQ at hQ1 hQ2
  cases hV : ztkV n m k y x with
  | some v =>
    rw [hV] at hQ1 hQ2
    obtain ⟨e1, e2⟩ := hQ1
    obtain ⟨e3, e4⟩ := hQ2
    refine ⟨(zv_int hv1 e1).trans (zv_int hv2 e3).symm, h6, A2, hA2, ?_⟩
    rw [e4, e2]
    exact ⟨n, m, q, g1, g2, g3, g4, g5, g6, g7⟩
  | none =>
    rw [hV] at hQ1 hQ2
    obtain ⟨e1, e2⟩ := hQ1
    obtain ⟨e3, e4⟩ := hQ2
    have e4 : A2 = zuI (zuI A1 379 k.toInt.toNat y) 380 k.toInt.toNat x := e4
    obtain ⟨-, hy, hx⟩ := ztk_g hV
    refine ⟨(zv_int hv1 e1).trans (zv_int hv2 e3).symm, h6, A2, hA2, ?_⟩
    rw [e4, e2]
    exact jx_tk (k := k) (y := y) (x := x) g1 g2 g3 g4 g5 g6 g7 hy hx
/-- loose -/
def zlsM (A : zW) (k : Nat) : zW := zuI (zuR A 334 k .null) 379 k (Int32.ofInt (-9))
section
variable {A : zW} {k i : Nat}
theorem zlsM_1 : zI (zlsM A k) 379 i = if i = k then Int32.ofInt (-9) else zI A 379 i := by
  unfold zlsM
  rw [zuI_x, zI_uR]
  by_cases h : i = k
  · rw [if_pos ⟨rfl, h⟩, if_pos h]
  · rw [if_neg (fun z => h z.2), if_neg h]
theorem zlsM_2 {p : Nat} (h : p ≠ 379) : zI (zlsM A k) p i = zI A p i := by
  unfold zlsM
  rw [zuI_ne h, zI_uR]
theorem zlsM_3 : zR (zlsM A k) 334 i = if i = k then .null else zR A 334 i := by
  unfold zlsM
  rw [zR_uI, zuR_x]
  by_cases h : i = k
  · rw [if_pos ⟨rfl, h⟩, if_pos h]
  · rw [if_neg (fun z => h z.2), if_neg h]
theorem zlsM_4 {p : Nat} (h : p ≠ 334) : zR (zlsM A k) p i = zR A p i := by
  unfold zlsM
  rw [zR_uI, zuR_x, if_neg (fun z => h z.1)]
theorem zlsM_g : agl (S_E ++ S_R ++ S_C ++ S_T ++ S_V ++ S_L) (zlsM A k) A := by
  unfold zlsM
  exact agl.tr (agl.nR (by decide) (by decide +kernel)) (agl.nI (by decide) (by decide +kernel))
end
theorem jx_ls {A : zW} {k : Nat} (h : jx A) : jx (zlsM A k) := by
  obtain ⟨n, m, q, h1, h2, h3, h4, h5, h6, h7⟩ := h
  have g := zlsM_g (A := A) (k := k)
  refine ⟨n, m, q, h1.ag g (by decide), h2.ag g (by decide), h3.ag g (by decide), h4.ag g (by decide), h5.ag g (by decide), fun i hi => ?_, h7.ag g (by decide)⟩
  unfold jhd
  rw [zlsM_1, zlsM_2 (by decide), zlsM_3, zlsM_4 (by decide), zlsM_4 (by decide)]
  by_cases c : i = k
  · rw [if_pos c, if_pos c]
    exact Or.inl ⟨by decide, rfl⟩
  · rw [if_neg c, if_neg c]
    exact h6 i hi
theorem j_ls {A : zW} {n m : Int32} {k : Nat} (h1 : jE A n) (h2 : jR A m) (h6 : jH A n m) (hk : k < 6) : (¬ zR A 334 k = .null) ↔ 0 ≤ (zI A 379 k).toInt := by
  rcases h6 k hk with ⟨a, b⟩ | ⟨a, b, c⟩ | ⟨a, b, c⟩
  · exact ⟨fun z => absurd b z, fun z => by omega⟩
  · obtain ⟨j, b0, -⟩ := h1.2.2 (zI A 380 k).toInt.toNat (by omega)
    refine ⟨fun _ => by omega, fun _ z => ?_⟩
    rw [c, b0] at z
    cases z
  · obtain ⟨j, b0, -⟩ := h2.2.2 (zI A 380 k).toInt.toNat (by omega)
    refine ⟨fun _ => by omega, fun _ z => ?_⟩
    rw [c, b0] at z
    cases z
set_option maxRecDepth 20000 in
theorem pk7_loose {B : Nat → Nat} : ∀ (w w1 w2 : lW) (rv1 rv2 : Option Value) (k : Int32), J7 B w → fLr r_X11_loose [.ref (B 0), .int k] w rv1 w1 → fLr r_X12_loose [.ref (B 343), .int k] w1 rv2 w2 → rv1 = rv2 ∧ J7 B w2 := by
  intro w w1 w2 rv1 rv2 k hJ h1 h2
  have hb := hJ.1.1.b
  have hb1 : bI B w1 := hb.keep h1 (by decide)
  have h6 : J6 B w2 := fr6 h2 (fr6 h1 hJ.1 (by decide) (by decide) (by decide) (by decide) (by decide)) (by decide) (by decide) (by decide) (by decide) (by decide)
  obtain ⟨J6w, A, hA, hj⟩ := hJ
  obtain ⟨n, m, q, g1, g2, g3, g4, g5, g6, g7⟩ := id hj
  obtain ⟨A1, u1, hA1, hv1, hQ1⟩ := zrun za_X11_loose h1 hA (zargs hb (by decide) (s := [.int k]) ⟨rfl, trivial⟩) (K := fun rv A' => zlsQ k (decide ¬ zR A 334 k.toInt.toNat = .null) (fun A' => A' = zuR A 334 k.toInt.toNat .null) A rv A') ⟨k, rfl, trivial, fun _ _ h => h⟩
  obtain ⟨A2, u2, hA2, hv2, hQ2⟩ := zrun za_X12_loose h2 hA1 (zargs hb1 (by decide) (s := [.int k]) ⟨rfl, trivial⟩) (K := fun rv A' => zlsQ k (decide (0 ≤ (zI A1 379 k.toInt.toNat).toInt)) (fun A' => A' = zuI A1 379 k.toInt.toNat (Int32.ofInt (-9))) A1 rv A') ⟨k, rfl, trivial, fun _ _ h => h⟩
  rcases hQ1 with ⟨b1, e1, e2⟩ | ⟨b1, e1, e2⟩
  · rcases hQ2 with ⟨b2, e3, e4⟩ | ⟨b2, e3, e4⟩
    · refine ⟨(zv_int hv1 e1).trans (zv_int hv2 e3).symm, h6, A2, hA2, ?_⟩
      rw [e4, e2]
      exact hj
    · exact absurd b2 b1
  · rcases hQ2 with ⟨b2, e3, e4⟩ | ⟨b2, e3, e4⟩
    · exact absurd b1 b2
    · have e2 : A1 = zuR A 334 k.toInt.toNat .null := e2
      have e4 : A2 = zuI A1 379 k.toInt.toNat (Int32.ofInt (-9)) := e4
      have ee : (decide ¬ zR A 334 k.toInt.toNat = .null) = decide (0 ≤ (zI A1 379 k.toInt.toNat).toInt) := by
        rw [e2, zI_uR]
        have hi := j_ls (k := k.toInt.toNat) g1 g2 g6 (by omega)
        by_cases c : 0 ≤ (zI A 379 k.toInt.toNat).toInt
        · rw [decide_eq_true c, decide_eq_true (hi.mpr c)]
        · rw [decide_eq_false c, decide_eq_false (fun z => c (hi.mp z))]
      rw [← ee] at e3
      refine ⟨(zv_int hv1 e1).trans (zv_int hv2 e3).symm, h6, A2, hA2, ?_⟩
      rw [e4, e2]
      exact jx_ls (k := k.toInt.toNat) hj
/-! as, tell, show -/
theorem jx_tl {A : zW} {f f2 t : Int32} (h : jx A) : jx (zuF (zuF (zuI (zuF A 0 14 (.int f)) 342 0 t) 343 63 (.int t)) 343 0 (.int f2)) := by
  obtain ⟨n, m, q, h1, h2, h3, h4, h5, h6, h7⟩ := h
  have g : agl (S_E ++ S_R ++ S_C ++ S_T ++ S_V ++ S_H) (zuF (zuF (zuI (zuF A 0 14 (.int f)) 342 0 t) 343 63 (.int t)) 343 0 (.int f2)) A := agl.tr (agl.tr (agl.tr (agl.nF (by decide) (by decide +kernel)) (agl.nI (by decide) (by decide +kernel))) (agl.nF (by decide) (by decide +kernel))) (agl.nF (by decide) (by decide +kernel))
  exact ⟨n, m, q, h1.ag g (by decide), h2.ag g (by decide), h3.ag g (by decide), h4.ag g (by decide), h5.ag g (by decide), h6.ag g (by decide), rfl⟩
set_option maxRecDepth 20000 in
theorem pk7_tell {B : Nat → Nat} : ∀ (w w1 w2 : lW) (rv1 rv2 : Option Value) (k : Int32), J7 B w → fLr r_X11_tell [.ref (B 0), .int k] w rv1 w1 → fLr r_X12_tell [.ref (B 343), .int k] w1 rv2 w2 → rv1 = rv2 ∧ J7 B w2 := by
  intro w w1 w2 rv1 rv2 k hJ h1 h2
  have hb := hJ.1.1.b
  have hb1 : bI B w1 := hb.keep h1 (by decide)
  have h6 : J6 B w2 := fr6 h2 (fr6 h1 hJ.1 (by decide) (by decide) (by decide) (by decide) (by decide)) (by decide) (by decide) (by decide) (by decide) (by decide)
  obtain ⟨J6w, A, hA, hj⟩ := hJ
  obtain ⟨n, m, q, g1, g2, g3, g4, g5, g6, g7⟩ := id hj
  let i := (zI A 380 k.toInt.toNat).toInt.toNat
  obtain ⟨A1, u1, hA1, hv1, hQ1⟩ := zrun za_X11_tell h1 hA (zargs hb (by decide) (s := [.int k]) ⟨rfl, trivial⟩) (K := fun rv A' => ztc (ztlV k (zI A 379 k.toInt.toNat) (zI A 348 i) (zI A 357 i) (zI A 359 i) (zI A 360 i)) (ztlT (zI A 342 0) k (zI A 379 k.toInt.toNat) (zI A 357 i)) A rv A') ⟨(k, zI A 379 k.toInt.toNat, zI A 380 k.toInt.toNat, zI A 348 i, zI A 357 i, zI A 359 i, zI A 360 i), rfl, fun hk => j_hl g1 g2 g6 (show k.toInt.toNat < 6 by omega), fun _ _ h => h⟩
  obtain ⟨e1, e2⟩ := hQ1
  have eI : ∀ p x, p ≠ 342 → zI A1 p x = zI A p x := fun p x h => by
    rw [e2, zuI_ne h, zI_uF]
  have e63 : zF A1 343 63 = .int (zI A 342 0) := by
    rw [e2, zF_uI, zuF_ne (by decide)]
    exact g7
  have hpre : zF A1 343 63 = .int (zI A 342 0) ∧ ((0 ≤ k.toInt ∧ k.toInt < 6) → ¬ (zI A1 379 k.toInt.toNat).toInt < 0 → ¬ (zI A1 379 k.toInt.toNat).toInt = 0 → 0 ≤ (zI A1 357 (zI A1 380 k.toInt.toNat).toInt.toNat).toInt ∧ (zI A1 357 (zI A1 380 k.toInt.toNat).toInt.toNat).toInt ≤ 2) := by
    refine ⟨e63, fun hk => ?_⟩
    rw [eI 379 _ (by decide), eI 380 _ (by decide), eI 357 _ (by decide)]
    exact j_kd g2 g6 (show k.toInt.toNat < 6 by omega)
  obtain ⟨A2, u2, hA2, hv2, hQ2⟩ := zrun za_X12_tell h2 hA1 (zargs hb1 (by decide) (s := [.int k]) ⟨rfl, trivial⟩) (K := fun rv A' => zmc (ztlV k (zI A1 379 k.toInt.toNat) (zI A1 348 (zI A1 380 k.toInt.toNat).toInt.toNat) (zI A1 357 (zI A1 380 k.toInt.toNat).toInt.toNat) (zI A1 359 (zI A1 380 k.toInt.toNat).toInt.toNat) (zI A1 360 (zI A1 380 k.toInt.toNat).toInt.toNat)) (ztlT (zI A 342 0) k (zI A1 379 k.toInt.toNat) (zI A1 357 (zI A1 380 k.toInt.toNat).toInt.toNat)) A1 rv A') ⟨(k, zI A 342 0), rfl, hpre, fun _ _ h => h⟩
  rw [eI 379 _ (by decide), eI 380 _ (by decide), eI 348 _ (by decide), eI 357 _ (by decide), eI 359 _ (by decide), eI 360 _ (by decide)] at hQ2
  obtain ⟨e3, e4⟩ := hQ2
  refine ⟨(zv_int hv1 e1).trans (zv_int hv2 e3).symm, h6, A2, hA2, ?_⟩
  rw [e4, e2]
  exact jx_tl hj
set_option maxRecDepth 20000 in
theorem pk7_show {B : Nat → Nat} : ∀ (w w1 w2 : lW) (rv1 rv2 : Option Value) (k : Int32), J7 B w → fLr r_X11_show [.ref (B 0), .int k] w rv1 w1 → fLr r_X12_show [.ref (B 343), .int k] w1 rv2 w2 → rv1 = rv2 ∧ J7 B w2 := by
  intro w w1 w2 rv1 rv2 k hJ h1 h2
  have hb := hJ.1.1.b
  have hb1 : bI B w1 := hb.keep h1 (by decide)
  have h6 : J6 B w2 := fr6 h2 (fr6 h1 hJ.1 (by decide) (by decide) (by decide) (by decide) (by decide)) (by decide) (by decide) (by decide) (by decide) (by decide)
  obtain ⟨J6w, A, hA, hj⟩ := hJ
  obtain ⟨n, m, q, g1, g2, g3, g4, g5, g6, g7⟩ := id hj
  let i := (zI A 380 k.toInt.toNat).toInt.toNat
  obtain ⟨A1, u1, hA1, hv1, hQ1⟩ := zrun za_X11_show h1 hA (zargs hb (by decide) (s := [.int k]) ⟨rfl, trivial⟩) (K := fun rv A' => ztc (zswV k (zI A 379 k.toInt.toNat) (zI A 380 k.toInt.toNat) (zI A 357 i)) (zswT (zI A 342 0) k (zI A 379 k.toInt.toNat) (zI A 357 i)) A rv A') ⟨(k, zI A 379 k.toInt.toNat, zI A 380 k.toInt.toNat, zI A 348 i, zI A 357 i, zI A 359 i, zI A 360 i), rfl, fun hk => j_hl g1 g2 g6 (show k.toInt.toNat < 6 by omega), fun _ _ h => h⟩
  obtain ⟨e1, e2⟩ := hQ1
  have eI : ∀ p x, p ≠ 342 → zI A1 p x = zI A p x := fun p x h => by
    rw [e2, zuI_ne h, zI_uF]
  have e63 : zF A1 343 63 = .int (zI A 342 0) := by
    rw [e2, zF_uI, zuF_ne (by decide)]
    exact g7
  have hpre : zF A1 343 63 = .int (zI A 342 0) ∧ ((0 ≤ k.toInt ∧ k.toInt < 6) → ¬ (zI A1 379 k.toInt.toNat).toInt < 0 → ¬ (zI A1 379 k.toInt.toNat).toInt = 0 → 0 ≤ (zI A1 357 (zI A1 380 k.toInt.toNat).toInt.toNat).toInt ∧ (zI A1 357 (zI A1 380 k.toInt.toNat).toInt.toNat).toInt ≤ 2) := by
    refine ⟨e63, fun hk => ?_⟩
    rw [eI 379 _ (by decide), eI 380 _ (by decide), eI 357 _ (by decide)]
    exact j_kd g2 g6 (show k.toInt.toNat < 6 by omega)
  obtain ⟨A2, u2, hA2, hv2, hQ2⟩ := zrun za_X12_show h2 hA1 (zargs hb1 (by decide) (s := [.int k]) ⟨rfl, trivial⟩) (K := fun rv A' => zmc (zswV k (zI A1 379 k.toInt.toNat) (zI A1 380 k.toInt.toNat) (zI A1 357 (zI A1 380 k.toInt.toNat).toInt.toNat)) (zswT (zI A 342 0) k (zI A1 379 k.toInt.toNat) (zI A1 357 (zI A1 380 k.toInt.toNat).toInt.toNat)) A1 rv A') ⟨(k, zI A 342 0), rfl, hpre, fun _ _ h => h⟩
  rw [eI 379 _ (by decide), eI 380 _ (by decide), eI 357 _ (by decide)] at hQ2
  obtain ⟨e3, e4⟩ := hQ2
  refine ⟨(zv_int hv1 e1).trans (zv_int hv2 e3).symm, h6, A2, hA2, ?_⟩
  rw [e4, e2]
  exact jx_tl hj
set_option maxRecDepth 20000 in
theorem pk7_as {B : Nat → Nat} : ∀ (w w1 w2 : lW) (rv1 rv2 : Option Value) (k kind : Int32), J7 B w → fLr r_X11_as [.ref (B 0), .int k, .int kind] w rv1 w1 → fLr r_X12_as [.ref (B 343), .int k, .int kind] w1 rv2 w2 → rv1 = rv2 ∧ J7 B w2 := by
  intro w w1 w2 rv1 rv2 k kind hJ h1 h2
  have hb := hJ.1.1.b
  have hb1 : bI B w1 := hb.keep h1 (by decide)
  have h6 : J6 B w2 := fr6 h2 (fr6 h1 hJ.1 (by decide) (by decide) (by decide) (by decide) (by decide)) (by decide) (by decide) (by decide) (by decide) (by decide)
  obtain ⟨J6w, A, hA, hj⟩ := hJ
  obtain ⟨n, m, q, g1, g2, g3, g4, g5, g6, g7⟩ := id hj
  let i := (zI A 380 k.toInt.toNat).toInt.toNat
  obtain ⟨A1, u1, hA1, hv1, hQ1⟩ := zrun za_X11_as h1 hA (zargs hb (by decide) (s := [.int k, .int kind]) ⟨rfl, rfl, trivial⟩) (K := fun rv A' => zfQ 0 14 (zasV k kind (zI A 379 k.toInt.toNat) (zI A 380 k.toInt.toNat) (zI A 357 i)) A rv A') ⟨((k, kind), zI A 379 k.toInt.toNat, zI A 380 k.toInt.toNat, zI A 348 i, zI A 357 i, zI A 359 i, zI A 360 i), rfl, fun hk => j_hl g1 g2 g6 (show k.toInt.toNat < 6 by omega), fun _ _ h => h⟩
  obtain ⟨e1, e2⟩ := hQ1
  have eI : ∀ p x, zI A1 p x = zI A p x := fun p x => by
    rw [e2, zI_uF]
  obtain ⟨A2, u2, hA2, hv2, hQ2⟩ := zrun za_X12_as h2 hA1 (zargs hb1 (by decide) (s := [.int k, .int kind]) ⟨rfl, rfl, trivial⟩) (K := fun rv A' => zfQ 343 0 (zasV k kind (zI A1 379 k.toInt.toNat) (zI A1 380 k.toInt.toNat) (zI A1 357 (zI A1 380 k.toInt.toNat).toInt.toNat)) A1 rv A') ⟨(k, kind), rfl, trivial, fun _ _ h => h⟩
  rw [eI, eI, eI] at hQ2
  obtain ⟨e3, e4⟩ := hQ2
  refine ⟨(zv_int hv1 e1).trans (zv_int hv2 e3).symm, h6, A2, hA2, ?_⟩
  rw [e4, e2]
  exact jx_agr hj (agl.x (agl.tr (agl.nF (by decide) (by decide +kernel)) (agl.nF (by decide) (by decide +kernel))))
/-! weight, trace -/
set_option maxRecDepth 20000 in
theorem pk7_weight {B : Nat → Nat} : ∀ (w w1 w2 : lW) (rv1 rv2 : Option Value) (x : Int32), J7 B w → fLr r_X11_weight [.ref (B 0), .int x] w rv1 w1 → fLr r_X12_weight [.ref (B 343), .int x] w1 rv2 w2 → rv1 = rv2 ∧ J7 B w2 := by
  intro w w1 w2 rv1 rv2 x hJ h1 h2
  have hb := hJ.1.1.b
  have hb1 : bI B w1 := hb.keep h1 (by decide)
  have h6 : J6 B w2 := fr6 h2 (fr6 h1 hJ.1 (by decide) (by decide) (by decide) (by decide) (by decide)) (by decide) (by decide) (by decide) (by decide) (by decide)
  obtain ⟨J6w, A, hA, hj⟩ := hJ
  obtain ⟨n, m, q, g1, g2, g3, g4, g5, g6, g7⟩ := id hj
  have hS : zeS A n := ⟨g1.1, fun e he => by
    obtain ⟨j, b0, ⟨b1, b2, b3⟩, c0, c1, c2, c3, c4, c5, c6⟩ := g1.2.2 e he
    exact ⟨j, zI A 349 e, b0, b1, by rw [b3], c2, c6⟩⟩
  obtain ⟨A1, u1, hA1, hv1, hQ1⟩ := zrun za_X11_weight h1 hA (zargs hb (by decide) (s := [.int x]) ⟨rfl, trivial⟩) (K := fun rv A' => rv = some (.int (zwtV x n (zcw A x n.toInt.toNat))) ∧ A' = A) ⟨(x, n), rfl, hS, rfl, rfl⟩
  obtain ⟨e1, e2⟩ := hQ1
  obtain ⟨A2, u2, hA2, hv2, hQ2⟩ := zrun za_X12_weight h2 hA1 (zargs hb1 (by decide) (s := [.int x]) ⟨rfl, trivial⟩) (K := fun rv A' => rv = some (.int (zwtV x n (zmw A1 x n.toInt.toNat))) ∧ A' = A1) ⟨(x, n), rfl, by rw [e2]; exact ⟨g1.2.1, g1.1.2⟩, rfl, rfl⟩
  obtain ⟨e3, e4⟩ := hQ2
  have e4 : A2 = A1 := e4
  have e2 : A1 = A := e2
  have e3 : u2 = some (.int (zwtV x n (zmw A1 x n.toInt.toNat))) := e3
  have e1 : u1 = some (.int (zwtV x n (zcw A x n.toInt.toNat))) := e1
  have ee : zcw A x n.toInt.toNat = zmw A x n.toInt.toNat := zcw_eq (fun e he => by
    obtain ⟨j, b0, ⟨b1, b2, b3⟩, c0, c1, c2, c3, c4, c5, c6⟩ := g1.2.2 e (by omega)
    have es : zsr A e = zI A 349 e := by
      unfold zsr
      rw [b0]
      show iv (zF A j 2) = _
      rw [c2]
      rfl
    rw [es]
    exact g4 _ (by omega))
  rw [ee] at e1
  rw [e2] at e3
  refine ⟨(zv_int hv1 e1).trans (zv_int hv2 e3).symm, h6, A2, hA2, ?_⟩
  rw [e4, e2]
  exact hj
def zq_trace : zQ := zpu (fun _ : Unit => [.ref 0]) (fun _ _ => True) (fun _ A => .int (zI A 342 0))
def zq_traceM : zQ := zpu (fun _ : Unit => [.ref 343]) (fun _ _ => True) (fun _ A => zF A 343 63)
set_option maxRecDepth 20000 in
theorem za_X11_trace : zdo r_X11_trace zq_trace := by
  refine zdo_pu [] (fun _ _ => []) 40 fo_X11 rfl zs_nil k_X11_trace (fun _ _ _ => no_zh) (fun _ A _ => ?_)
  exact ⟨rfl, rfl⟩
set_option maxRecDepth 20000 in
theorem za_X12_trace : zdo r_X12_trace zq_traceM := by
  refine zdo_pu [] (fun _ _ => []) 40 fo_X12 rfl zs_nil k_X12_trace (fun _ _ _ => no_zh) (fun _ A _ => ?_)
  exact ⟨rfl, rfl⟩
set_option maxRecDepth 20000 in
theorem pk7_trace {B : Nat → Nat} : ∀ (w w1 w2 : lW) (rv1 rv2 : Option Value), J7 B w → fLr r_X11_trace [.ref (B 0)] w rv1 w1 → fLr r_X12_trace [.ref (B 343)] w1 rv2 w2 → rv1 = rv2 ∧ J7 B w2 := by
  intro w w1 w2 rv1 rv2 hJ h1 h2
  have hb := hJ.1.1.b
  have hb1 : bI B w1 := hb.keep h1 (by decide)
  have h6 : J6 B w2 := fr6 h2 (fr6 h1 hJ.1 (by decide) (by decide) (by decide) (by decide) (by decide)) (by decide) (by decide) (by decide) (by decide) (by decide)
  obtain ⟨J6w, A, hA, hj⟩ := hJ
  obtain ⟨n, m, q, g1, g2, g3, g4, g5, g6, g7⟩ := id hj
  obtain ⟨A1, u1, hA1, hv1, hQ1⟩ := zrun za_X11_trace h1 hA (zargs hb (by decide) (s := []) trivial) (K := fun rv A' => rv = some (.int (zI A 342 0)) ∧ A' = A) ⟨(), rfl, trivial, rfl, rfl⟩
  obtain ⟨e1, e2⟩ := hQ1
  have e1 : u1 = some (.int (zI A 342 0)) := e1
  have e2 : A1 = A := e2
  obtain ⟨A2, u2, hA2, hv2, hQ2⟩ := zrun za_X12_trace h2 hA1 (zargs hb1 (by decide) (s := []) trivial) (K := fun rv A' => rv = some (zF A1 343 63) ∧ A' = A1) ⟨(), rfl, trivial, rfl, rfl⟩
  obtain ⟨e3, e4⟩ := hQ2
  have e3 : u2 = some (zF A1 343 63) := e3
  have e4 : A2 = A1 := e4
  have g7 : zF A 343 63 = .int (zI A 342 0) := g7
  rw [e2, g7] at e3
  refine ⟨(zv_int hv1 e1).trans (zv_int hv2 e3).symm, h6, A2, hA2, ?_⟩
  rw [e4, e2]
  exact hj
