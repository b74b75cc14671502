/-! trust, view: both sides -/
def ztrV (u x : Int32) : Option Int32 := if ¬ (0 ≤ u.toInt ∧ u.toInt < 6) then some (-1) else if ¬ (1 ≤ x.toInt ∧ x.toInt ≤ 9) then some (-2) else none
section
variable {u x : Int32}
theorem ztr_1 (h : ¬ (0 ≤ u.toInt ∧ u.toInt < 6)) : ztrV u x = some (-1) := if_pos h
theorem ztr_2 (h : 0 ≤ u.toInt ∧ u.toInt < 6) (h2 : ¬ (1 ≤ x.toInt ∧ x.toInt ≤ 9)) : ztrV u x = some (-2) := by
  unfold ztrV
  rw [if_neg (fun z => z h), if_pos h2]
theorem ztr_n (h : 0 ≤ u.toInt ∧ u.toInt < 6) (h2 : 1 ≤ x.toInt ∧ x.toInt ≤ 9) : ztrV u x = none := by
  unfold ztrV
  rw [if_neg (fun z => z h), if_neg (fun z => z h2)]
theorem ztr_g (h : ztrV u x = none) : (0 ≤ u.toInt ∧ u.toInt < 6) ∧ (1 ≤ x.toInt ∧ x.toInt ≤ 9) := by
  by_cases h1 : 0 ≤ u.toInt ∧ u.toInt < 6
  · by_cases h2 : 1 ≤ x.toInt ∧ x.toInt ≤ 9
    · exact ⟨h1, h2⟩
    · rw [ztr_2 h1 h2] at h
      cases h
  · rw [ztr_1 h1] at h
    cases h
end
def ztr_G (u x : Int32) (A A' : zW) : Prop := A' = zuI A 194 u.toInt.toNat x
def ztr_H (u x : Int32) (A A' : zW) : Prop := A' = zuF (zov (zuI A 345 u.toInt.toNat x)) 343 43 (.int (Int32.ofInt 0))
def zq_trust : zQ := zs (fun a : Int32 × Int32 => [.ref 0, .int a.1, .int a.2]) (fun _ _ => True) (fun a A rv A' => zhdQ (ztrV a.1 a.2) (zI A 194 a.1.toInt.toNat) (ztr_G a.1 a.2 A) A rv A')
def zq_trustM : zQ := zs (fun a : Int32 × Int32 => [.ref 343, .int a.1, .int a.2]) (fun _ _ => True) (fun a A rv A' => zhdQ (ztrV a.1 a.2) (zI A 345 a.1.toInt.toNat) (ztr_H a.1 a.2 A) A rv A')
set_option maxRecDepth 20000 in
set_option maxHeartbeats 4000000 in
theorem za_X11_trust : zdo r_X11_trust zq_trust := by
  refine zdo_of _ _ _ [(487, 1, q_isSource)] (fun _ _ => []) 60 fo_X11 rfl (zs_cons rfl za_X11_isSource zs_nil) k_X11_trust (fun _ _ _ => no_zh) (fun a A _ => ?_)
  obtain ⟨u, x⟩ := a
  have e1 : (Int32.ofInt 1).toInt = 1 := by decide
  have e9 : (Int32.ofInt 9).toInt = 9 := by decide
  have no : ∀ v : Int32, ztrV u x = some v → zhdQ (ztrV u x) (zI A 194 u.toInt.toNat) (ztr_G u x A) A (some (.int v)) A := fun v h => zhd_no h
  refine ⟨u, rfl, trivial, fun h => ?_, fun h => ?_⟩
  rotate_left
  · exact no _ (ztr_1 (zb_n (Classical.not_not.mp h)))
  have hu : 0 ≤ u.toInt ∧ u.toInt < 6 := zb_y h
  refine ⟨fun h => ?_, fun h => ⟨fun h2 => ?_, fun h2 => ?_⟩⟩
  · have h : x.toInt < (Int32.ofInt 1).toInt := h
    exact no _ (ztr_2 hu (by omega))
  · have h : ¬ x.toInt < (Int32.ofInt 1).toInt := h
    have h2 : x.toInt ≤ (Int32.ofInt 9).toInt := h2
    show zhdQ (ztrV u x) (zI A 194 u.toInt.toNat) (ztr_G u x A) A (some (.int (zI A 194 u.toInt.toNat))) (zuI A 194 u.toInt.toNat x)
    rw [ztr_n hu ⟨by omega, by omega⟩]
    exact ⟨rfl, rfl⟩
  · have h2 : ¬ x.toInt ≤ (Int32.ofInt 9).toInt := h2
    exact no _ (ztr_2 hu (by omega))
set_option maxRecDepth 20000 in
set_option maxHeartbeats 4000000 in
theorem za_X12_trust : zdo r_X12_trust zq_trustM := by
  refine zdo_of _ _ _ [(727, 1, q_noSource), (457, 3, zq_in), (741, 1, zq_otherView)] (fun _ _ => []) 60 fo_X12 rfl (zs_cons rfl za_X12_noSource (zs_cons rfl za_X12_in (zs_cons rfl za_X12_otherView zs_nil))) k_X12_trust (fun _ _ _ => no_zh) (fun a A _ => ?_)
  obtain ⟨u, x⟩ := a
  have e1 := ze1
  have e9 : (Int64.ofInt 9).toInt = 9 := by decide
  have ex := Int32.toInt_toInt64 x
  have no : ∀ v : Int32, ztrV u x = some v → zhdQ (ztrV u x) (zI A 345 u.toInt.toNat) (ztr_H u x A) A (some (.int v)) A := fun v h => zhd_no h
  refine ⟨u, rfl, trivial, fun h => ?_, fun h => ?_⟩
  rotate_left
  · exact no _ (ztr_1 (zb_y h))
  have hu : 0 ≤ u.toInt ∧ u.toInt < 6 := Classical.not_not.mp (zb_n h)
  refine ⟨(x.toInt64, Int64.ofNat 1, Int64.ofInt 9), rfl, trivial, fun h => ?_, fun h => ?_⟩
  · have hx : (Int64.ofNat 1).toInt ≤ x.toInt64.toInt ∧ x.toInt64.toInt ≤ (Int64.ofInt 9).toInt := zb_y h
    refine ⟨(), rfl, trivial, rfl, ?_⟩
    show zhdQ (ztrV u x) (zI A 345 u.toInt.toNat) (ztr_H u x A) A (some (.int (zI A 345 u.toInt.toNat))) (zuF (zov (zuI A 345 u.toInt.toNat x)) 343 43 (.int (Int32.ofInt 0)))
    rw [ztr_n hu ⟨by omega, by omega⟩]
    exact ⟨rfl, rfl⟩
  · have h := zb_n (Classical.not_not.mp h)
    exact no _ (ztr_2 hu (fun z => h ⟨by show (Int64.ofNat 1).toInt ≤ x.toInt64.toInt; omega, by show x.toInt64.toInt ≤ (Int64.ofInt 9).toInt; omega⟩))
/-- the view -/
def zvwV (t k : Int32) : Bool := decide ((0 ≤ t.toInt ∧ t.toInt < 100) ∧ (0 ≤ k.toInt ∧ k.toInt < 100))
def zvwQ (b : Bool) (G : zW → Prop) (A : zW) (rv : Option Value) (A' : zW) : Prop := (b = false ∧ rv = some (.int (-2)) ∧ A' = A) ∨ (b = true ∧ G A')
def zvw_G (t k : Int32) (A A' : zW) : Prop := ∃ X X2, (zN A ≤ zN X ∧ zN X ≤ zN X2) ∧ A' = zhv [] (zhv [] (zuF (zuF A 193 2 (.int t)) 193 3 (.int k)) X) X2
def zvw_H (t k : Int32) (A A' : zW) : Prop := ∃ X X2, (zN A ≤ zN X ∧ zN X ≤ zN X2) ∧ A' = zhv [] (zhv [(17, 17), (17, 19), (17, 20), (17, 21), (17, 23), (17, 25), (17, 26), (55, 0), (56, 0), (57, 0)] (zov (zuF (zuF A 343 15 (.int t)) 343 16 (.int k))) X) X2
def zq_view : zQ := zs (fun a : Int32 × Int32 => [.ref 0, .int a.1, .int a.2]) (fun _ _ => True) (fun a A rv A' => zvwQ (zvwV a.1 a.2) (zvw_G a.1 a.2 A) A rv A')
def zq_viewM : zQ := zs (fun a : Int32 × Int32 => [.ref 343, .int a.1, .int a.2]) (fun _ _ => True) (fun a A rv A' => zvwQ (zvwV a.1 a.2) (zvw_H a.1 a.2 A) A rv A')
def zQ_iv : zQ := zhq 1 []
def zQ_layM : zQ := zhq 0 [(17, 17), (17, 19), (17, 20), (17, 21), (17, 23), (17, 25), (17, 26), (55, 0), (56, 0), (57, 0)]
set_option maxRecDepth 20000 in
theorem za_X2_inView : zdo r_X2_inView zQ_iv := zdo_hv (by decide) (by decide)
set_option maxRecDepth 20000 in
theorem za_J6_bitCount : zdo r_J6_bitCount_0f7a4 zQ_iv := zdo_hv (by decide) (by decide)
set_option maxRecDepth 20000 in
theorem za_X12_lay : zdo r_X12_lay zQ_layM := zdo_hv (by decide) (by decide)
set_option maxRecDepth 20000 in
set_option maxHeartbeats 4000000 in
theorem za_X11_view : zdo r_X11_view zq_view := by
  refine zdo_of _ _ _ [(505, 1, q_isTime), (579, 1, zQ_iv), (589, 1, zQ_iv)] (fun _ _ => []) 60 fo_X11 rfl (zs_cons rfl za_X11_isTime (zs_cons rfl za_X2_inView (zs_cons rfl za_J6_bitCount zs_nil))) k_X11_view (fun _ _ _ => no_zh) (fun a A _ => ?_)
  obtain ⟨t, k⟩ := a
  have no : ¬ ((0 ≤ t.toInt ∧ t.toInt < 100) ∧ (0 ≤ k.toInt ∧ k.toInt < 100)) → zvwQ (zvwV t k) (zvw_G t k A) A (some (.int (-2))) A := fun h => Or.inl ⟨decide_eq_false h, rfl, rfl⟩
  refine ⟨t, rfl, trivial, fun h => ?_, fun h => ?_⟩
  · exact no (fun z => zb_n h z.1)
  have ht : 0 ≤ t.toInt ∧ t.toInt < 100 := zb_y h
  refine ⟨k, rfl, trivial, fun h => ?_, fun h => ?_⟩
  rotate_left
  · exact no (fun z => zb_n (Classical.not_not.mp h) z.2)
  have hk : 0 ≤ k.toInt ∧ k.toInt < 100 := zb_y h
  refine ⟨rfl, rfl, ?_⟩
  intro X x hx hX
  obtain ⟨x, rfl⟩ := hx
  intro X2 y hy hX2
  obtain ⟨y, rfl⟩ := hy
  have hX : zN A ≤ zN X := hX
  have hX2 : zN X ≤ zN X2 := hX2
  show zvwQ (zvwV t k) (zvw_G t k A) A (some (.int y)) (zhv [] (zhv [] (zuF (zuF A 193 2 (.int t)) 193 3 (.int k)) X) X2)
  exact Or.inr ⟨decide_eq_true ⟨ht, hk⟩, X, X2, ⟨hX, hX2⟩, rfl⟩
set_option maxRecDepth 20000 in
theorem za_X12_cbH : zdo r_X12_countBits zQ_iv := zdo_hv (by decide) (by decide)
def in_vw (t k : Int32) (A : zW) : fL_ → List Value → zW → Prop := fun lg vs A' => f_sub [(0, false, .ref 343), (1, false, .int t), (2, false, .int k)] lg ∧ vs = [] ∧ A' = A ∧ (0 ≤ t.toInt ∧ t.toInt < 100) ∧ (0 ≤ k.toInt ∧ k.toInt < 100)
def in_v2 (t k : Int32) (A : zW) : fL_ → List Value → zW → Prop := fun lg vs A' => f_sub [(0, false, .ref 343), (1, false, .int t), (2, false, .int k)] lg ∧ vs = [] ∧ A' = A ∧ (0 ≤ t.toInt ∧ t.toInt < 100)
set_option maxRecDepth 20000 in
set_option maxHeartbeats 4000000 in
theorem za_X12_view : zdo r_X12_view zq_viewM := by
  refine zdo_of _ _ _ [(457, 3, zq_in), (741, 1, zq_otherView), (924, 1, zQ_layM), (679, 1, zQ_iv)] (fun a A => [(12, in_v2 a.1 a.2 A), (27, in_vw a.1 a.2 A)]) 60 fo_X12 rfl (zs_cons rfl za_X12_in (zs_cons rfl za_X12_otherView (zs_cons rfl za_X12_lay (zs_cons rfl za_X12_cbH zs_nil)))) k_X12_view (fun a A _ => ?_) (fun a A _ => ?_)
  · obtain ⟨t, k⟩ := a
    refine List.forall_mem_cons.mpr ⟨?_, List.forall_mem_cons.mpr ⟨?_, fun _ h => absurd h List.not_mem_nil⟩⟩
    · rintro lg vs A' ⟨hs, rfl, rfl, ht⟩
      have ht : 0 ≤ t.toInt ∧ t.toInt < 100 := ht
      have e0 := ze0
      have e99 := ze99
      have ek := Int32.toInt_toInt64 k
      have no : ¬ (0 ≤ k.toInt ∧ k.toInt < 100) → zvwQ (zvwV t k) (zvw_H t k A') A' (some (.int (-2))) A' := fun h => Or.inl ⟨decide_eq_false (fun z => h z.2), rfl, rfl⟩
      refine ⟨_, 60, hs, (k.toInt64, Int64.ofNat 0, Int64.ofInt 99), rfl, trivial, fun h => ?_, fun h => ?_⟩
      rotate_left
      · have h := zb_n (Classical.not_not.mp h)
        exact no (fun z => h ⟨by show (Int64.ofNat 0).toInt ≤ k.toInt64.toInt; omega, by show k.toInt64.toInt ≤ (Int64.ofInt 99).toInt; omega⟩)
      have hk : (Int64.ofNat 0).toInt ≤ k.toInt64.toInt ∧ k.toInt64.toInt ≤ (Int64.ofInt 99).toInt := zb_y h
      have hk : 0 ≤ k.toInt ∧ k.toInt < 100 := ⟨by omega, by omega⟩
      exact ⟨⟨rfl, rfl, rfl, trivial⟩, rfl, rfl, ht, hk⟩
    · rintro lg vs A' ⟨hs, rfl, rfl, good⟩
      have good : (0 ≤ t.toInt ∧ t.toInt < 100) ∧ (0 ≤ k.toInt ∧ k.toInt < 100) := good
      refine ⟨_, 60, hs, rfl, rfl, (), rfl, trivial, ?_⟩
      intro X y hy hX
      obtain rfl : y = none := hy
      have hX : zN A' ≤ zN X := hX
      intro X2 y hy hX2
      obtain ⟨y, rfl⟩ := hy
      have hX2 : zN X ≤ zN X2 := hX2
      show zvwQ (zvwV t k) (zvw_H t k A') A' (some (.int y)) (zhv [] (zhv [(17, 17), (17, 19), (17, 20), (17, 21), (17, 23), (17, 25), (17, 26), (55, 0), (56, 0), (57, 0)] (zov (zuF (zuF A' 343 15 (.int t)) 343 16 (.int k))) X) X2)
      exact Or.inr ⟨decide_eq_true good, X, X2, ⟨hX, hX2⟩, rfl⟩
  · obtain ⟨t, k⟩ := a
    have e0 := ze0
    have e99 := ze99
    have et := Int32.toInt_toInt64 t
    have no : ¬ (0 ≤ t.toInt ∧ t.toInt < 100) → zvwQ (zvwV t k) (zvw_H t k A) A (some (.int (-2))) A := fun h => Or.inl ⟨decide_eq_false (fun z => h z.1), rfl, rfl⟩
    refine ⟨(t.toInt64, Int64.ofNat 0, Int64.ofInt 99), rfl, trivial, fun h => ?_, fun h => ?_⟩
    · have h := zb_n h
      exact no (fun z => h ⟨by show (Int64.ofNat 0).toInt ≤ t.toInt64.toInt; omega, by show t.toInt64.toInt ≤ (Int64.ofInt 99).toInt; omega⟩)
    have ht : (Int64.ofNat 0).toInt ≤ t.toInt64.toInt ∧ t.toInt64.toInt ≤ (Int64.ofInt 99).toInt := zb_y h
    have ht : 0 ≤ t.toInt ∧ t.toInt < 100 := ⟨by omega, by omega⟩
    exact ⟨⟨rfl, rfl, rfl, trivial⟩, rfl, rfl, ht⟩
/-! the pairs -/
theorem jx_T {A : zW} {i : Nat} {x : Int32} (h : jx A) : jx (zuI (zuI A 194 i x) 345 i x) := by
  obtain ⟨n, m, q, h1, h2, h3, h4, h5, h6, h7⟩ := h
  have g : agl (S_E ++ S_R ++ S_C ++ S_V ++ S_H ++ S_L) (zuI (zuI A 194 i x) 345 i x) A := agl.tr (agl.nI (by decide) (by decide +kernel)) (agl.nI (by decide) (by decide +kernel))
  refine ⟨n, m, q, h1.ag g (by decide), h2.ag g (by decide), h3.ag g (by decide), fun k hk => ?_, h5.ag g (by decide), h6.ag g (by decide), h7.ag g (by decide)⟩
  rw [zuI_ne (show (194 : Nat) ≠ 345 by decide), zuI_x, zuI_x, zuI_ne (show (345 : Nat) ≠ 194 by decide)]
  by_cases c : k = i
  · rw [if_pos ⟨rfl, c⟩, if_pos ⟨rfl, c⟩]
  · rw [if_neg (fun z => c z.2), if_neg (fun z => c z.2)]
    exact h4 k hk
theorem jx_V {A : zW} {t k : Int32} (h : jx A) : jx (zuF (zuF (zuF (zuF A 193 2 (.int t)) 193 3 (.int k)) 343 15 (.int t)) 343 16 (.int k)) := by
  obtain ⟨n, m, q, h1, h2, h3, h4, h5, h6, h7⟩ := h
  have g : agl (S_E ++ S_R ++ S_C ++ S_T ++ S_H ++ S_L) (zuF (zuF (zuF (zuF A 193 2 (.int t)) 193 3 (.int k)) 343 15 (.int t)) 343 16 (.int k)) A := agl.tr (agl.tr (agl.tr (agl.nF (by decide) (by decide +kernel)) (agl.nF (by decide) (by decide +kernel))) (agl.nF (by decide) (by decide +kernel))) (agl.nF (by decide) (by decide +kernel))
  exact ⟨n, m, q, h1.ag g (by decide), h2.ag g (by decide), h3.ag g (by decide), h4.ag g (by decide), ⟨t, k, rfl, rfl, rfl, rfl⟩, h6.ag g (by decide), h7.ag g (by decide)⟩
set_option maxRecDepth 20000 in
theorem pk7_trust {B : Nat → Nat} : ∀ (w w1 w2 : lW) (rv1 rv2 : Option Value) (u x : Int32), J7 B w → fLr r_X11_trust [.ref (B 0), .int u, .int x] w rv1 w1 → fLr r_X12_trust [.ref (B 343), .int u, .int x] w1 rv2 w2 → rv1 = rv2 ∧ J7 B w2 := by
  intro w w1 w2 rv1 rv2 u x hJ h1 h2
  have hb := hJ.1.1.b
  have hb1 : bI B w1 := hb.keep h1 (by decide)
  have h6 : J6 B w2 := fr6 h2 (fr6 h1 hJ.1 (by decide) (by decide) (by decide) (by decide) (by decide)) (by decide) (by decide) (by decide) (by decide) (by decide)
  obtain ⟨J6w, A, hA, hj⟩ := hJ
  obtain ⟨A1, u1, hA1, hv1, hQ1⟩ := zrun za_X11_trust h1 hA (zargs hb (by decide) (s := [.int u, .int x]) ⟨rfl, rfl, trivial⟩) (K := fun rv A' => zhdQ (ztrV u x) (zI A 194 u.toInt.toNat) (ztr_G u x A) A rv A') ⟨(u, x), rfl, trivial, fun _ _ h => h⟩
  obtain ⟨A2, u2, hA2, hv2, hQ2⟩ := zrun za_X12_trust h2 hA1 (zargs hb1 (by decide) (s := [.int u, .int x]) ⟨rfl, rfl, trivial⟩) (K := fun rv A' => zhdQ (ztrV u x) (zI A1 345 u.toInt.toNat) (ztr_H u x A1) A1 rv A') ⟨(u, x), rfl, trivial, fun _ _ h => h⟩
  unfold zhdQ at hQ1 hQ2
  cases hV : ztrV u x with
  | some v =>
    rw [hV] at hQ1 hQ2
    obtain ⟨e1, e2⟩ := hQ1
    obtain ⟨e3, e4⟩ := hQ2
    refine ⟨(zv_int hv1 e1).trans (zv_int hv2 e3).symm, h6, A2, hA2, ?_⟩
    rw [e4, e2]
    exact hj
  | none =>
    rw [hV] at hQ1 hQ2
    obtain ⟨e1, e2⟩ := hQ1
    obtain ⟨e3, e4⟩ := hQ2
    have e2 : A1 = zuI A 194 u.toInt.toNat x := e2
    have e4 : A2 = zuF (zov (zuI A1 345 u.toInt.toNat x)) 343 43 (.int (Int32.ofInt 0)) := e4
    obtain ⟨hu, -⟩ := ztr_g hV
    have ea : zI A1 345 u.toInt.toNat = zI A 194 u.toInt.toNat := by
      obtain ⟨n, m, q, g1, g2, g3, g4, g5, g6, g7⟩ := hj
      rw [e2, zuI_ne (show (345 : Nat) ≠ 194 by decide)]
      exact (g4 u.toInt.toNat (by omega)).symm
    rw [ea] at e3
    refine ⟨(zv_int hv1 e1).trans (zv_int hv2 e3).symm, h6, A2, hA2, ?_⟩
    rw [e4, e2]
    exact jx_agr (jx_T hj) (agl.x (agl.tr (agl_ov ⟨by decide, by decide, by decide⟩) (agl.nF (by decide) (by decide +kernel))))
set_option maxRecDepth 20000 in
theorem pk7_view {B : Nat → Nat} : ∀ (w w1 w2 : lW) (rv1 rv2 : Option Value) (t k : Int32), J7 B w → fLr r_X11_view [.ref (B 0), .int t, .int k] w rv1 w1 → fLr r_X12_view [.ref (B 343), .int t, .int k] w1 rv2 w2 → J7 B w2 := by
  intro w w1 w2 rv1 rv2 t k hJ h1 h2
  have hb := hJ.1.1.b
  have hb1 : bI B w1 := hb.keep h1 (by decide)
  have h6 : J6 B w2 := fr6 h2 (fr6 h1 hJ.1 (by decide) (by decide) (by decide) (by decide) (by decide)) (by decide) (by decide) (by decide) (by decide) (by decide)
  obtain ⟨J6w, A, hA, hj⟩ := hJ
  obtain ⟨A1, u1, hA1, hv1, hQ1⟩ := zrun za_X11_view h1 hA (zargs hb (by decide) (s := [.int t, .int k]) ⟨rfl, rfl, trivial⟩) (K := fun rv A' => zvwQ (zvwV t k) (zvw_G t k A) A rv A') ⟨(t, k), rfl, trivial, fun _ _ h => h⟩
  obtain ⟨A2, u2, hA2, hv2, hQ2⟩ := zrun za_X12_view h2 hA1 (zargs hb1 (by decide) (s := [.int t, .int k]) ⟨rfl, rfl, trivial⟩) (K := fun rv A' => zvwQ (zvwV t k) (zvw_H t k A1) A1 rv A') ⟨(t, k), rfl, trivial, fun _ _ h => h⟩
  refine ⟨h6, A2, hA2, ?_⟩
  rcases hQ1 with ⟨b1, -, e1⟩ | ⟨b1, X, X2, ⟨x1, x2⟩, e1⟩
  · rcases hQ2 with ⟨b2, -, e2⟩ | ⟨b2, X, X2, x1, e2⟩
    · rw [e2, e1]
      exact hj
    · rw [b1] at b2
      cases b2
  · rcases hQ2 with ⟨b2, -, e2⟩ | ⟨b2, Y, Y2, ⟨y1, y2⟩, e2⟩
    · rw [b1] at b2
      cases b2
    · have g1 : agl S_X A1 (zuF (zuF A 193 2 (.int t)) 193 3 (.int k)) := by
        rw [e1]
        exact agl.tr (agl.hv (X := X) (Wr := []) rfl x1) (agl.hv (X := X2) (Wr := []) rfl x2)
      have g2 : agl S_X A2 (zuF (zuF A1 343 15 (.int t)) 343 16 (.int k)) := by
        rw [e2]
        exact agl.tr (agl.tr (agl_ov ⟨by decide, by decide, by decide⟩) (agl.hv (X := Y) (Wr := [(17, 17), (17, 19), (17, 20), (17, 21), (17, 23), (17, 25), (17, 26), (55, 0), (56, 0), (57, 0)]) (by decide) y1)) (agl.hv (X := Y2) (Wr := []) rfl y2)
      exact jx_agr (jx_V (t := t) (k := k) hj) (agl.x (agl.tr (agl.uF (agl.uF g1)) g2))
