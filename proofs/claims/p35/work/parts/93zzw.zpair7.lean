/-! the pairs of calls over it -/
/-- what both sides count of sentences -/
theorem j7_c {B : Nat → Nat} {w : lW} {A : zW} (hJ : J6 B w) (hA : zA A w.1 w.2) {tys : List (ClassId × FieldType)} (hw : ck_wo tys cw_TT cw_SG w.1 w.2) : ∃ c : Int32, zF A 0 1 = .int c ∧ zF A 343 1 = .int c ∧ 0 ≤ c.toInt ∧ c.toInt ≤ 60 := by
  have hb := hJ.1.b
  obtain ⟨h4, c, W, g, hc, hW, hg, hE⟩ := hJ
  obtain ⟨c0, hc0, hm⟩ := h4.1.2
  have ec : c0 = c := hc0.uni hc
  subst ec
  have hr := rng_0 hb hw hc
  exact ⟨c0, zo_F hA hb (by decide) (by decide +kernel) hc, zo_F hA hb (by decide) (by decide +kernel) hm, hr.1, hr.2⟩
theorem zargs {B : Nat → Nat} {w : lW} (hb : bI B w) {q : Nat} (hq : q < 385) {r s : List Value} (h : zvs w.1 r s) : zvs w.1 (.ref (B q) :: r) (.ref q :: s) := ⟨zvB hb hq, h⟩
section
variable {B : Nat → Nat} {rt1 rt2 : Nat} {Wr1 Wr2 : List (Nat × Nat)} {T1 T2 : fT} {cc1 cc2 : ByteArray} {As1 As2 : List Value} {w w1 w2 : lW} {rv1 rv2 : Option Value}
/-- what isn't written on either side stays -/
theorem up7 (hJ : J7 B w) (h1 : fLr (fq cw_TT cw_SG rt1 Wr1 T1 cc1) As1 w rv1 w1) (h2 : fLr (fq cw_TT cw_SG rt2 Wr2 T2 cc2) As2 w1 rv2 w2) (k1 : bs_K.all (fun x => !(Wr1.contains x)) = true) (k2 : bs_K.all (fun x => !(Wr2.contains x)) = true) (a1 : nW S_X Wr1 = true) (a2 : nW S_X Wr2 = true) (h6 : J6 B w2) : J7 B w2 :=
  ⟨h6, kp7 h2 (kp7 h1 hJ.2 k1 a1) k2 a2⟩
end
set_option maxRecDepth 20000 in
theorem pk7_hold {B : Nat → Nat} : ∀ (w w1 w2 : lW) (rv1 rv2 : Option Value) (s u f t k : Int32), J7 B w → fLr r_X11_hold [.ref (B 0), .int s, .int u, .int f, .int t, .int k] w rv1 w1 → fLr r_X12_hold [.ref (B 343), .int s, .int u, .int f, .int t, .int k] w1 rv2 w2 → rv1 = rv2 ∧ J7 B w2 := by
  intro w w1 w2 rv1 rv2 s u f t k hJ h1 h2
  have hb := hJ.1.1.b
  have hb1 : bI B w1 := hb.keep h1 (by decide)
  have h6 : J6 B w2 := fr6 h2 (fr6 h1 hJ.1 (by decide) (by decide) (by decide) (by decide) (by decide)) (by decide) (by decide) (by decide) (by decide) (by decide)
  obtain ⟨tys, hw, -⟩ := h1.2.2.2.2.1
  obtain ⟨J6w, A, hA, n, m, q, g1, g2, g3, g4, g5, g6, g7⟩ := hJ
  obtain ⟨c, hc, hc', c0, c60⟩ := j7_c J6w hA hw
  have hN : 385 ≤ zN A := hA.2.1.2.2
  obtain ⟨A1, u1, hA1, hv1, hQ1⟩ := zrun za_X11_hold h1 hA (zargs hb (by decide) (s := [.int s, .int u, .int f, .int t, .int k]) ⟨rfl, rfl, rfl, rfl, rfl, trivial⟩) (K := fun rv A' => zhd_Q ((c, n), s, u, f, t, k) A rv A') ⟨((c, n), s, u, f, t, k), rfl, ⟨⟨hc, c60⟩, g1.1, hN⟩, fun _ _ h => h⟩
  have hQ1 : zhdQ (zhdV c n s u f t k) n (fun A' => ∃ D, A' = znE A D s u f t k) A u1 A1 := hQ1
  have hpre : zF A1 343 1 = .int c ∧ zF A1 343 8 = .int n ∧ 0 ≤ n.toInt ∧ n.toInt ≤ 12 := by
    unfold zhdQ at hQ1
    split at hQ1
    · rw [hQ1.2]
      exact ⟨hc', g1.2.1, g1.1.2.1, g1.1.2.2⟩
    · obtain ⟨-, D, rfl⟩ := hQ1
      exact ⟨(znE_F hN (by decide) (by decide)).trans hc', (znE_F hN (by decide) (by decide)).trans g1.2.1, g1.1.2.1, g1.1.2.2⟩
  obtain ⟨A2, u2, hA2, hv2, hQ2⟩ := zrun za_X12_hold h2 hA1 (zargs hb1 (by decide) (s := [.int s, .int u, .int f, .int t, .int k]) ⟨rfl, rfl, rfl, rfl, rfl, trivial⟩) (K := fun rv A' => zhm_Q ((c, n), s, u, f, t, k) A1 rv A') ⟨((c, n), s, u, f, t, k), rfl, hpre, fun _ _ h => h⟩
  have hQ2 : zhdQ (zhdV c n s u f t k) n (fun A' => A' = zae A1 s u f t k) A1 u2 A2 := hQ2
  unfold zhdQ at hQ1 hQ2
  cases hV : zhdV c n s u f t k with
  | some v =>
    rw [hV] at hQ1 hQ2
    obtain ⟨e1, e2⟩ := hQ1
    obtain ⟨e3, e4⟩ := hQ2
    refine ⟨(zv_int hv1 e1).trans (zv_int hv2 e3).symm, h6, A2, hA2, ?_⟩
    rw [e4, e2]
    exact ⟨n, m, q, g1, g2, g3, g4, g5, g6, g7⟩
  | none =>
    rw [hV] at hQ1 hQ2
    obtain ⟨e1, D, e2⟩ := hQ1
    obtain ⟨e3, e4⟩ := hQ2
    have e4 : A2 = zae A1 s u f t k := e4
    obtain ⟨⟨-, hu⟩, -, hn⟩ := zhd_g hV
    refine ⟨(zv_int hv1 e1).trans (zv_int hv2 e3).symm, h6, A2, hA2, ?_⟩
    rw [e4, e2]
    exact jx_add g1 g2 g3 g4 g5 g6 g7 hn hN hu
/-- no world there: the class's question and the reference's -/
theorem znw_ee {A B : zW} {s : Int32} (h : ∀ x, x < 4 → zJ A (2 + 2 * s.toInt.toNat + 1) x = zsw B s.toInt.toNat x) : znw_e A s = znm_e B s := by
  unfold znw_e znm_e
  have h1 := (szA_z (f := zsw B s.toInt.toNat) (Nat.le_refl 4)).2
  by_cases hz : (szA (fun v => cbA v 64) (zsw B s.toInt.toNat) 4).toInt = 0
  · rw [decide_eq_true hz]
    exact zzB_t.mpr (fun x hx => by rw [h x hx]; exact h1.mp hz x hx)
  · rw [decide_eq_false hz]
    cases hb : zzB (zJ A (2 + 2 * s.toInt.toNat + 1)) 4 with
    | false => rfl
    | true =>
      exfalso
      exact hz (h1.mpr (fun x hx => by rw [← h x hx]; exact zzB_t.mp hb x hx))
set_option maxRecDepth 20000 in
/-- the words of a long array, over places -/
theorem za_J {B : Nat → Nat} {w : lW} {A : zW} (hA : zA A w.1 w.2) (hb : bI B w) {q n : Nat} {g : Nat → Int64} (hq : q < 385) (h : aJ B q n g w) (x : Nat) : zJ A q x = g x := by
  obtain ⟨c, hc⟩ := lp_L2_at hq
  obtain ⟨e, h1, h2, -⟩ := hb.2.h hb.1 hc
  obtain ⟨cA, h3⟩ := h
  rw [h2] at h3
  have h3 := Option.some.inj h3
  subst h3
  exact (hA.2.2 q _ _ h1).2.2 x
/-- both sides' sentences, over places -/
theorem j7_w {B : Nat → Nat} {w : lW} {A : zW} (hJ : J6 B w) (hA : zA A w.1 w.2) : ∃ c : Int32, zF A 0 1 = .int c ∧ ∀ i : Nat, (i : Int) < c.toInt → i < 60 → ∀ x, x < 4 → zJ A (2 + 2 * i + 1) x = zsw A i x := by
  have hb := hJ.1.b
  obtain ⟨h4, c, W, g, hc, hW, hg, hE⟩ := hJ
  refine ⟨c, zo_F hA hb (by decide) (by decide +kernel) hc, fun i hi hi60 x hx => ?_⟩
  have a1 := za_J hA hb (show 3 + 2 * i < 385 by omega) (hW i hi60) x
  have a2 := za_J hA hb (show 344 < 385 by decide) hg (4 * i + x)
  rw [show 2 + 2 * i + 1 = 3 + 2 * i by omega, a1]
  show W i x = zJ A 344 (4 * i + x)
  rw [a2]
  exact hE i hi x hx
set_option maxRecDepth 20000 in
theorem pk7_news {B : Nat → Nat} : ∀ (w w1 w2 : lW) (rv1 rv2 : Option Value) (s u : Int32), J7 B w → fLr r_X11_news [.ref (B 0), .int s, .int u] w rv1 w1 → fLr r_X12_news [.ref (B 343), .int s, .int u] w1 rv2 w2 → rv1 = rv2 ∧ J7 B w2 := by
  intro w w1 w2 rv1 rv2 s u hJ h1 h2
  have hb := hJ.1.1.b
  have hb1 : bI B w1 := hb.keep h1 (by decide)
  have h61 : J6 B w1 := fr6 h1 hJ.1 (by decide) (by decide) (by decide) (by decide) (by decide)
  have h6 : J6 B w2 := fr6 h2 h61 (by decide) (by decide) (by decide) (by decide) (by decide)
  obtain ⟨tys, hw, hw1⟩ := h1.2.2.2.2.1
  obtain ⟨J6w, A, hA, n, m, q, g1, g2, g3, g4, g5, g6, g7⟩ := hJ
  obtain ⟨c, hc, hc', c0, c60⟩ := j7_c J6w hA hw
  have hN : 385 ≤ zN A := hA.2.1.2.2
  obtain ⟨t, k, v1, v2, v3, v4⟩ := id g5
  obtain ⟨A1, u1, hA1, hv1, hQ1⟩ := zrun za_X11_news h1 hA (zargs hb (by decide) (s := [.int s, .int u]) ⟨rfl, rfl, trivial⟩) (K := fun rv A' => znw_Q ((c, n, t, k), s, u) A rv A') ⟨((c, n, t, k), s, u), rfl, ⟨⟨hc, c60⟩, g1.1, hN, v1, v3⟩, fun _ _ h => h⟩
  have hQ1 : zhdQ (znwV c n s u (znw_e A s)) n (fun A' => ∃ X X2 D, (zN A ≤ zN X ∧ zN X ≤ zN X2) ∧ A' = znE (zE3 A X X2 (2 + 2 * s.toInt.toNat)) D s u t (Int32.ofInt 99) k) A u1 A1 := hQ1
  have hj : jx A := ⟨n, m, q, g1, g2, g3, g4, g5, g6, g7⟩
  -- what the reference finds
  have hpre : zF A1 343 1 = .int c ∧ zF A1 343 8 = .int n ∧ zF A1 343 15 = .int t ∧ zF A1 343 16 = .int k := by
    unfold zhdQ at hQ1
    split at hQ1
    · rw [hQ1.2]
      exact ⟨hc', g1.2.1, v2, v4⟩
    · obtain ⟨-, X, X2, D, ⟨x1, x2⟩, rfl⟩ := hQ1
      have hN3 : 385 ≤ zN (zE3 A X X2 (2 + 2 * s.toInt.toNat)) := by
        show 385 ≤ zN X2
        omega
      exact ⟨(znE_F hN3 (by decide) (by decide)).trans hc', (znE_F hN3 (by decide) (by decide)).trans g1.2.1, (znE_F hN3 (by decide) (by decide)).trans v2, (znE_F hN3 (by decide) (by decide)).trans v4⟩
  have hee : (0 ≤ s.toInt ∧ s.toInt < c.toInt) → znw_e A s = znm_e A1 s := fun hs => by
    obtain ⟨ca, ha1, ha2⟩ := j7_w J6w hA
    obtain ⟨cb, hb1', hb2⟩ := j7_w h61 hA1
    have eca : ca = c := by
      rw [hc] at ha1
      injection ha1 with z
      exact z.symm
    subst eca
    have ecb : cb = ca := by
      obtain ⟨c2, d1, d2, -⟩ := j7_c h61 hA1 hw1
      rw [d1] at hb1'
      rw [hpre.1] at d2
      injection hb1' with z1
      injection d2 with z2
      rw [← z1, z2]
    subst ecb
    refine znw_ee (fun x hx => ?_)
    rw [ha2 s.toInt.toNat (by omega) (by omega) x hx]
    have e1 := za_J (B := B) hA hb (show 344 < 385 by decide) (J6w.2.choose_spec.choose_spec.choose_spec.2.2.1) (4 * s.toInt.toNat + x)
    have e2 := za_J (B := B) hA1 hb1 (show 344 < 385 by decide) ((J6w.2.choose_spec.choose_spec.choose_spec.2.2.1).keep hb h1 bl_344 bt_344 (by decide) (by decide)) (4 * s.toInt.toNat + x)
    show zJ A 344 (4 * s.toInt.toNat + x) = zJ A1 344 (4 * s.toInt.toNat + x)
    rw [e1, e2]
  obtain ⟨A2, u2, hA2, hv2, hQ2⟩ := zrun za_X12_news h2 hA1 (zargs hb1 (by decide) (s := [.int s, .int u]) ⟨rfl, rfl, trivial⟩) (K := fun rv A' => znm_Q ((c, n, t, k), s, u) A1 rv A') ⟨((c, n, t, k), s, u), rfl, ⟨⟨hpre.1, c60⟩, ⟨hpre.2.1, g1.1.2⟩, hpre.2.2⟩, fun _ _ h => h⟩
  have hQ2 : zhdQ (znwV c n s u (znm_e A1 s)) n (fun A' => ∃ X X2, (zN A1 ≤ zN X ∧ zN X ≤ zN X2) ∧ A' = zae (zE3m A1 X X2) s u t (Int32.ofInt 99) k) A1 u2 A2 := hQ2
  have hVV : znwV c n s u (znw_e A s) = znwV c n s u (znm_e A1 s) := by
    by_cases hs : 0 ≤ s.toInt ∧ s.toInt < c.toInt
    · rw [hee hs]
    · rw [znw_1 (fun z => hs z.1), znw_1 (fun z => hs z.1)]
  rw [← hVV] at hQ2
  unfold zhdQ at hQ1 hQ2
  cases hV : znwV c n s u (znw_e A s) with
  | some v =>
    rw [hV] at hQ1 hQ2
    obtain ⟨e1, e2⟩ := hQ1
    obtain ⟨e3, e4⟩ := hQ2
    refine ⟨(zv_int hv1 e1).trans (zv_int hv2 e3).symm, h6, A2, hA2, ?_⟩
    rw [e4, e2]
    exact hj
  | none =>
    rw [hV] at hQ1 hQ2
    obtain ⟨e1, X, X2, D, ⟨x1, x2⟩, e2⟩ := hQ1
    obtain ⟨e3, Y, Y2, ⟨y1, y2⟩, e4⟩ := hQ2
    have e4 : A2 = zae (zE3m A1 Y Y2) s u t (Int32.ofInt 99) k := e4
    obtain ⟨⟨-, hu⟩, -, hn⟩ := znw_g hV
    refine ⟨(zv_int hv1 e1).trans (zv_int hv2 e3).symm, h6, A2, hA2, ?_⟩
    have hN3 : 385 ≤ zN (zE3 A X X2 (2 + 2 * s.toInt.toNat)) := by
      show 385 ≤ zN X2
      omega
    obtain ⟨n', m', q', k1, k2, k3, k4, k5, k6, k7⟩ := jx_e3 (b := 2 + 2 * s.toInt.toNat) hj x1 x2
    have en : n' = n := by
      have z1 : zF A 193 1 = .int n' := k1.1.1
      have z2 := g1.1.1
      rw [z1] at z2
      injection z2
    subst en
    have hx := jx_add (D := D) (s := s) (u := u) (f := t) (t := Int32.ofInt 99) (k := k) k1 k2 k3 k4 k5 k6 k7 hn hN3 hu
    rw [e4]
    refine jx_agr hx (agr_zae ?_)
    rw [← e2]
    exact agr_e3m y1 y2
