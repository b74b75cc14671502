/-! what both sides hold alike of claims, with what was settled -/
theorem apB_eq {f f' g g' : Nat → Int64} : ∀ {n : Nat}, (∀ x, x < n → f' x = f x) → (∀ x, x < n → g' x = g x) → apB f' g' n = apB f g n
  | 0, _, _ => rfl
  | n + 1, h1, h2 => by
    show (apB f' g' n && decide (f' n &&& g' n = Int64.ofNat 0)) = (apB f g n && decide (f n &&& g n = Int64.ofNat 0))
    rw [apB_eq (fun x hx => h1 x (by omega)) (fun x hx => h2 x (by omega)), h1 n (Nat.lt_succ_self n), h2 n (Nat.lt_succ_self n)]
section
variable {A A' : zW} {q : Int32}
theorem trC_congr {k : Nat} (h1 : zI A' 284 k = zI A 284 k) (h2 : ∀ i, i < 6 → zI A' 319 i = zI A 319 i) : trC A' k = trC A k := by
  unfold trC
  rw [h1]
  by_cases h : 0 ≤ (zI A 284 k).toInt ∧ (zI A 284 k).toInt < 6
  · rw [if_pos h, if_pos h, h2 _ (by omega)]
  · rw [if_neg h, if_neg h]
theorem stC_congr (h1 : ∀ k : Nat, (k : Int) < q.toInt → zI A' 284 k = zI A 284 k) (h2 : ∀ i, i < 6 → zI A' 319 i = zI A 319 i) (h3 : ∀ k : Nat, (k : Int) < q.toInt → ∀ x, x < 4 → zJ A' (295 + 2 * k + 1) x = zJ A (295 + 2 * k + 1) x) (a b : Nat) : stC A' q a b = stC A q a b := by
  unfold stC
  by_cases h : (a : Int) < q.toInt ∧ (b : Int) < q.toInt
  · rw [trC_congr (h1 a h.1) h2, trC_congr (h1 b h.2) h2, apB_eq (h3 a h.1) (h3 b h.2)]
  · rw [decide_eq_false h, Bool.false_and, Bool.false_and]
theorem ssC_congr (h1 : ∀ k : Nat, (k : Int) < q.toInt → zI A' 284 k = zI A 284 k) (h2 : ∀ i, i < 6 → zI A' 319 i = zI A 319 i) (h3 : ∀ k : Nat, (k : Int) < q.toInt → ∀ x, x < 4 → zJ A' (295 + 2 * k + 1) x = zJ A (295 + 2 * k + 1) x) (a b y : Nat) : ssC A' q a b y = ssC A q a b y := by
  unfold ssC
  exact vwN_eq (fun x _ => by rw [stC_congr h1 h2 h3])
end
def jck (A : zW) (c : Int32) (k : Nat) : Prop := (zI A 283 k = zI A 366 k ∧ zI A 284 k = zI A 367 k) ∧ (0 ≤ (zI A 366 k).toInt ∧ (zI A 366 k).toInt < c.toInt) ∧ (0 ≤ (zI A 367 k).toInt ∧ (zI A 367 k).toInt < 6) ∧ ∀ x, x < 4 → zJ A (295 + 2 * k + 1) x = zsw A (cmS A k) x
def jcl (A : zW) (q sc c : Int32) : Prop := (zcC A q ∧ zF A 282 15 = .int sc ∧ zF A 343 40 = .int q ∧ zF A 343 1 = .int c) ∧ (sc.toInt ≤ q.toInt ∧ c.toInt ≤ 60) ∧ (∀ i, i < 6 → zI A 194 i = zI A 345 i) ∧ (∀ k : Nat, (k : Int) < q.toInt → jck A c k) ∧ (0 ≤ sc.toInt → ∀ y, y < 12 → zI A 285 y = Int32.ofNat (ssC A sc sc.toInt.toNat 0 y))
def jcp (A : zW) : Prop := ∃ q sc c : Int32, jcl A q sc c
def S_T9 : List (Nat × Nat) := [(15, 0), (15, 15), (17, 40), (34, 0), (38, 0), (67, 0), (68, 0), (91, 0), (35, 0), (40, 0)]
def S_V9 : List (Nat × Nat) := S_T9 ++ [(27, 0), (46, 0)]
def S_9 : List (Nat × Nat) := S_V9 ++ [(17, 1), (45, 0)]
theorem sT_V9 : ∀ y ∈ S_T9, y ∈ S_V9 := by decide
theorem sV_9 : ∀ y ∈ S_V9, y ∈ S_9 := by decide
theorem sh_cl : ∀ k, k < 12 → (zn lp_sh (295 + 2 * k + 1), 0) ∈ S_T9 := by decide +kernel
theorem jcl_gen {A A' : zW} {q sc c c' : Int32} (h : jcl A q sc c) (g : agj S_T9 A' A) (hT : ∀ i, i < 6 → zI A' 194 i = zI A' 345 i) (hc : zF A' 343 1 = .int c') (h1 : c.toInt ≤ c'.toInt) (h2 : c'.toInt ≤ 60) (hJ : ∀ i, i < 4 * c.toInt.toNat → zJ A' 344 i = zJ A 344 i) : jcl A' q sc c' := by
  obtain ⟨⟨⟨a1, q0, q1⟩, a2, a3, a4⟩, ⟨b1, b2⟩, -, d, e⟩ := h
  have F : ∀ p i, p < 385 → (zn lp_sh p, i) ∈ S_T9 → zF A' p i = zF A p i := g.1.1
  have I : ∀ p i, p < 385 → (zn lp_sh p, 0) ∈ S_T9 → zI A' p i = zI A p i := fun p i a b => (g.1.2.1 p i a b).1
  have i283 : ∀ i, zI A' 283 i = zI A 283 i := fun i => I 283 i (by decide) (by decide +kernel)
  have i284 : ∀ i, zI A' 284 i = zI A 284 i := fun i => I 284 i (by decide) (by decide +kernel)
  have i285 : ∀ i, zI A' 285 i = zI A 285 i := fun i => I 285 i (by decide) (by decide +kernel)
  have i319 : ∀ i, zI A' 319 i = zI A 319 i := fun i => I 319 i (by decide) (by decide +kernel)
  have i366 : ∀ i, zI A' 366 i = zI A 366 i := fun i => I 366 i (by decide) (by decide +kernel)
  have i367 : ∀ i, zI A' 367 i = zI A 367 i := fun i => I 367 i (by decide) (by decide +kernel)
  have q1 : q.toInt ≤ 12 := q1
  have jr : ∀ k : Nat, (k : Int) < q.toInt → ∀ x, zJ A' (295 + 2 * k + 1) x = zJ A (295 + 2 * k + 1) x := fun k hk x => g.2 _ x (by omega) (sh_cl k (by omega))
  refine ⟨⟨⟨(F 282 0 (by decide) (by decide +kernel)).trans a1, q0, q1⟩, (F 282 15 (by decide) (by decide +kernel)).trans a2, (F 343 40 (by decide) (by decide +kernel)).trans a3, hc⟩, ⟨b1, h2⟩, hT, fun k hk => ?_, fun hs y hy => ?_⟩
  · obtain ⟨⟨d1, d2⟩, ⟨d3, d4⟩, d5, d6⟩ := d k hk
    have es : cmS A' k = cmS A k := by
      unfold cmS
      rw [i366]
    have hlt : ∀ x, x < 4 → 4 * cmS A k + x < 4 * c.toInt.toNat := fun x hx => by
      unfold cmS
      omega
    refine ⟨⟨by rw [i283, i366]; exact d1, by rw [i284, i367]; exact d2⟩, ⟨by rw [i366]; exact d3, by rw [i366]; omega⟩, by rw [i367]; exact d5, fun x hx => ?_⟩
    rw [jr k hk x, d6 x hx, es]
    exact (hJ _ (hlt x hx)).symm
  · rw [i285, e hs y hy, ssC_congr (A := A) (A' := A') (q := sc) (fun k _ => i284 k) (fun i _ => i319 i) (fun k hk x _ => jr k (by omega) x)]
theorem jcl_ag {A A' : zW} {q sc c : Int32} (h : jcl A q sc c) (g : agj S_9 A' A) : jcl A' q sc c :=
  jcl_gen h ((g.sub sV_9).sub sT_V9) (fun i hi => by
    rw [(g.1.2.1 194 i (by decide) (by decide +kernel)).1, (g.1.2.1 345 i (by decide) (by decide +kernel)).1]
    exact h.2.2.1 i hi) ((g.1.1 343 1 (by decide) (by decide +kernel)).trans h.1.2.2.2) (Int.le_refl _) h.2.1.2 (fun i _ => g.2 344 i (by decide) (by decide +kernel))
theorem jcp_ag (A A' : zW) (h : jcp A) (g : agj S_9 A' A) : jcp A' := by
  obtain ⟨q, sc, c, hj⟩ := h
  exact ⟨q, sc, c, jcl_ag hj g⟩
/-- settling keeps it, and the trusts copied are the trusts -/
theorem jcl_settle {A A' : zW} {q sc c : Int32} (h : jcl A q sc c) (hQ : seQ (q, sc) A A') : jcl A' q q c ∧ ∀ i, i < 6 → zI A' 319 i = zI A' 194 i := by
  rcases hQ with ⟨⟨e1, e2⟩, e3⟩ | ⟨X, hN, eA⟩
  · have e1 : sc = q := e1
    have e3 : A' = A := e3
    rw [e3]
    rw [e1] at h
    exact ⟨h, e2⟩
  · obtain ⟨⟨⟨a1, q0, q1⟩, a2, a3, a4⟩, ⟨b1, b2⟩, t, d, e⟩ := h
    have q1 : q.toInt ≤ 12 := q1
    have eA : A' = zhv [(15, 1), (36, 0)] (stW (seC A q) q q.toInt.toNat 0) X := eA
    have I : ∀ p i, p < 385 → zwr [(15, 1), (36, 0)] (zn lp_sh p) 0 = false → p ≠ 285 → p ≠ 293 → zI A' p i = zI (seC A q) p i := fun p i h1 h2 h3 h4 => by
      rw [eA, zhv_bI h1 h2, stW_i h3 h4]
    have I2 : ∀ p i, p ≠ 319 → zI (seC A q) p i = zI A p i := fun p i h1 => by
      have e : zI (seC A q) p i = zI (zsI A 319 (fun x => if x < 6 then zI A 194 x else zI A 319 x)) p i := rfl
      rw [e]
      exact zsI_ne h1
    have J : ∀ p x, p < 385 → zwr [(15, 1), (36, 0)] (zn lp_sh p) 0 = false → zJ A' p x = zJ A p x := fun p x h1 h2 => by
      rw [eA, zhv_bJ h1 h2]
      rfl
    have F : ∀ p i, p < 385 → zwr [(15, 1), (36, 0)] (zn lp_sh p) i = false → zF A' p i = zF (seC A q) p i := fun p i h1 h2 => by
      rw [eA, zhv_bF h1 h2]
      rfl
    have F2 : ∀ p i, ¬ (p = 282 ∧ (i = 15 ∨ i = 16)) → zF (seC A q) p i = zF A p i := fun p i h1 => by
      unfold seC
      rw [zuF_x, if_neg (fun z => h1 ⟨z.1, Or.inr z.2⟩), zuF_x, if_neg (fun z => h1 ⟨z.1, Or.inl z.2⟩)]
      rfl
    have i283 : ∀ i, zI A' 283 i = zI A 283 i := fun i => (I 283 i (by decide) (by decide +kernel) (by decide) (by decide)).trans (I2 283 i (by decide))
    have i284 : ∀ i, zI A' 284 i = zI (seC A q) 284 i := fun i => I 284 i (by decide) (by decide +kernel) (by decide) (by decide)
    have i366 : ∀ i, zI A' 366 i = zI A 366 i := fun i => (I 366 i (by decide) (by decide +kernel) (by decide) (by decide)).trans (I2 366 i (by decide))
    have i367 : ∀ i, zI A' 367 i = zI A 367 i := fun i => (I 367 i (by decide) (by decide +kernel) (by decide) (by decide)).trans (I2 367 i (by decide))
    have i194 : ∀ i, zI A' 194 i = zI A 194 i := fun i => (I 194 i (by decide) (by decide +kernel) (by decide) (by decide)).trans (I2 194 i (by decide))
    have i345 : ∀ i, zI A' 345 i = zI A 345 i := fun i => (I 345 i (by decide) (by decide +kernel) (by decide) (by decide)).trans (I2 345 i (by decide))
    have i319 : ∀ i, zI A' 319 i = zI (seC A q) 319 i := fun i => I 319 i (by decide) (by decide +kernel) (by decide) (by decide)
    have sh91 : ∀ k, k < 12 → zwr [(15, 1), (36, 0)] (zn lp_sh (295 + 2 * k + 1)) 0 = false := by decide +kernel
    have jr : ∀ k : Nat, (k : Int) < q.toInt → ∀ x, zJ A' (295 + 2 * k + 1) x = zJ A (295 + 2 * k + 1) x := fun k hk x => J _ x (by omega) (sh91 k (by omega))
    have j344 : ∀ x, zJ A' 344 x = zJ A 344 x := fun x => J 344 x (by decide) (by decide +kernel)
    refine ⟨⟨⟨⟨?_, q0, q1⟩, ?_, ?_, ?_⟩, ⟨Int.le_refl _, b2⟩, fun i hi => ?_, fun k hk => ?_, fun hs y hy => ?_⟩, fun i hi => ?_⟩
    · rw [F 282 0 (by decide) (by decide +kernel), F2 282 0 (by omega)]
      exact a1
    · rw [F 282 15 (by decide) (by decide +kernel)]
      unfold seC
      rw [zuF_x, if_neg (by decide), zuF_x, if_pos ⟨rfl, rfl⟩]
    · rw [F 343 40 (by decide) (by decide +kernel), F2 343 40 (by omega)]
      exact a3
    · rw [F 343 1 (by decide) (by decide +kernel), F2 343 1 (by omega)]
      exact a4
    · rw [i194, i345]
      exact t i hi
    · obtain ⟨⟨d1, d2⟩, ⟨d3, d4⟩, d5, d6⟩ := d k hk
      have es : cmS A' k = cmS A k := by
        unfold cmS
        rw [i366]
      refine ⟨⟨by rw [i283, i366]; exact d1, by rw [i284, I2 284 k (by decide), i367]; exact d2⟩, ⟨by rw [i366]; exact d3, by rw [i366]; exact d4⟩, by rw [i367]; exact d5, fun x hx => ?_⟩
      rw [jr k hk x, d6 x hx, es]
      exact (j344 _).symm
    · rw [eA, zhv_bI (by decide) (by decide +kernel), stW_s hy, ← eA]
      exact congrArg Int32.ofNat (ssC_congr (A := seC A q) (A' := A') (q := q) (fun k _ => i284 k) (fun i _ => i319 i) (fun k hk x _ => jr k hk x) q.toInt.toNat 0 y).symm
    · rw [i319, i194]
      show zI (zsI A 319 (fun x => if x < 6 then zI A 194 x else zI A 319 x)) 319 i = zI A 194 i
      rw [zsI_at, if_pos hi]
theorem settle_call (Us : List Value) (A : zW) (Kt : Option Value → zW → Prop) (h1 : kts [284, 196] Us) (h2 : jcp A) (h3 : ∀ (rv : Option Value) (A' : zW), kts [] rv.toList → jcp A' → Kt rv A') : zq_settle Us A Kt := by
  obtain ⟨q, sc, c, hj⟩ := h2
  have e : Us = [.ref 282, .ref 194] := by
    obtain ⟨u1, u2, s, rfl, a, b, d⟩ := kts2 h1
    cases s with
    | nil =>
      have a : u1 = .ref 282 := a
      have b : u2 = .ref 194 := b
      rw [a, b]
    | cons _ _ => exact d.elim
  refine ⟨(q, sc), e, ⟨hj.1.1, hj.1.2.1⟩, ?_⟩
  rintro rv A' ⟨rfl, hq⟩
  exact h3 none A' trivial ⟨q, q, c, (jcl_settle hj hq).1⟩
def j9 (w : lW) : Prop := ∃ A, zA A w.1 w.2 ∧ jcp A
def J9 (B : Nat → Nat) : lW → Prop := fun w => J7 B w ∧ j9 w
section
variable {B : Nat → Nat} {rt : Nat} {Wr : List (Nat × Nat)} {T : fT} {cc : ByteArray} {As : List Value} {w w' : lW} {rv : Option Value}
theorem kp9 (h : fLr (fq cw_TT cw_SG rt Wr T cc) As w rv w') (hJ : j9 w) (hk : bs_K.all (fun x => !(Wr.contains x)) = true) (hw : nW S_9 Wr = true) : j9 w' := by
  obtain ⟨A, hA, hj⟩ := hJ
  obtain ⟨X, hN, hA'⟩ := z_fr h hA hk
  exact ⟨_, hA', jcp_ag _ _ hj (agj.hv hw hN)⟩
/-- a method of the class that keeps it -/
theorem kq9 {r : fR} {tags : List Nat} {s : List Value} (hr : zdo r (zkq (2 :: tags) rt jcp)) (h : fLr r (.ref (B 0) :: s) w rv w') (hb : bI B w) (hJ : j9 w) (hs : zvs w.1 s s) (ht : kts tags s) : j9 w' := by
  obtain ⟨A, hA, hj⟩ := hJ
  obtain ⟨A', u, hA', -, hK⟩ := zrun hr h hA (zargs hb (by decide) hs) (K := fun _ A' => jcp A') ⟨⟨rfl, ht⟩, hj, fun _ _ _ h => h⟩
  exact ⟨A', hA', hK⟩
end
