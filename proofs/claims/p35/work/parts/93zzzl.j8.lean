/-! what both sides hold alike, with what follows of it: worlds of entries, what is given up, what is laid out -/
/-- a world's bit of an entry's sentence -/
def seb (A : zW) (w e : Nat) : Bool := (sew A e (w / 64)).toBitVec.getLsbD (w % 64)
def trN (A : zW) (n : Nat) (w : Nat) : Nat := vwN (seb A w) n
def jM (A : zW) (n : Int32) : Prop := ∀ w, w < 256 → zI A 196 w = Int32.ofNat (trN A n.toInt.toNat w)
def jS (A : zW) (n c : Int32) : Prop := ∀ e : Nat, (e : Int) < n.toInt → 0 ≤ (zI A 348 e).toInt ∧ (zI A 348 e).toInt < c.toInt
def jG (A : zW) (n : Int32) : Prop := ∀ e : Nat, (e : Int) < n.toInt → (∃ j : Nat, zR A 195 e = .ref j ∧ (385 ≤ j ∧ j < zN A ∧ zK A j = (4, 7)) ∧ zF A j 6 = .int (zI A 353 e)) ∧ ((zI A 353 e).toInt = -9 ∨ 0 ≤ (zI A 353 e).toInt)
def jTr (A : zW) : Prop := ∀ i, i < 6 → 1 ≤ (zI A 345 i).toInt ∧ (zI A 345 i).toInt ≤ 9
/-- the part that isn't laid out -/
def jyb (A : zW) (n t k c : Int32) : Prop := ((zF A 343 8 = .int n ∧ 0 ≤ n.toInt ∧ n.toInt ≤ 12) ∧ zF A 343 15 = .int t ∧ zF A 343 16 = .int k ∧ zF A 343 1 = .int c) ∧ (0 ≤ k.toInt ∧ c.toInt ≤ 60) ∧ jS A n c ∧ jM A n ∧ jG A n
def jyy (A : zW) (n t k c : Int32) : Prop := jyb A n t k c ∧ jTr A ∧ jLay A n t k
def jy (A : zW) : Prop := ∃ n t k c : Int32, jyy A n t k c
/-- alike in all that this speaks of -/
theorem seb_b {A A' : zW} (g : agj S_B A' A) (w : Nat) : seb A' w = seb A w := funext (fun e => by
  unfold seb
  rw [sew_b g])
theorem jLay.ag {A A' : zW} {n t k : Int32} (h : jLay A n t k) (g : agj S_8 A' A) : jLay A' n t k := by
  have gB := g.sub sB_8
  have F : ∀ q i, q < 385 → (zn lp_sh q, i) ∈ S_8 → zF A' q i = zF A q i := g.1.1
  have eJ : zJ A' 354 = zJ A 354 := funext (fun i => g.2 354 i (by decide) (by decide +kernel))
  obtain ⟨⟨l, h1, h2⟩, v, h3, h4⟩ := h
  refine ⟨⟨l, (F 343 17 (by decide) (by decide +kernel)).trans h1, fun z => ?_⟩, v, (F 343 19 (by decide) (by decide +kernel)).trans h3, fun z => ?_⟩
  · rw [eJ]
    exact lwOK_b gB (h2 z)
  · rw [mvP_b gB]
    exact (F 343 20 (by decide) (by decide +kernel)).trans (h4 z)
theorem jG.ag {A A' : zW} {n : Int32} (h : jG A n) (g : agj S_B A' A) : jG A' n := fun e he => by
  obtain ⟨⟨j, b0, ⟨b1, b2, b3⟩, b4⟩, h2⟩ := h e he
  obtain ⟨d1, d2⟩ := g.1.2.2.2 j 4 7 b1 b2 b3
  have hN := g.1.2.2.1
  rw [(g.1.2.1 195 e (by decide) (by decide +kernel)).2, (g.1.2.1 353 e (by decide) (by decide +kernel)).1]
  exact ⟨⟨j, b0, ⟨b1, by omega, d1⟩, (d2 6 (by decide)).trans b4⟩, h2⟩
theorem jyb.ag {A A' : zW} {n t k c : Int32} (h : jyb A n t k c) (g : agj S_B A' A) : jyb A' n t k c := by
  obtain ⟨⟨⟨a1, a0⟩, a2, a3, a4⟩, b, hs, hm, hg⟩ := h
  have F : ∀ q i, q < 385 → (zn lp_sh q, i) ∈ S_B → zF A' q i = zF A q i := g.1.1
  refine ⟨⟨⟨(F 343 8 (by decide) (by decide +kernel)).trans a1, a0⟩, (F 343 15 (by decide) (by decide +kernel)).trans a2, (F 343 16 (by decide) (by decide +kernel)).trans a3, (F 343 1 (by decide) (by decide +kernel)).trans a4⟩, b, fun e he => ?_, fun w hw => ?_, hg.ag g⟩
  · rw [ses_b g]
    exact hs e he
  · unfold trN
    rw [seb_b g, (g.1.2.1 196 w (by decide) (by decide +kernel)).1]
    exact hm w hw
theorem jTr.ag {A A' : zW} (h : jTr A) (g : agj S_8 A' A) : jTr A' := fun i hi => by
  rw [(g.1.2.1 345 i (by decide) (by decide +kernel)).1]
  exact h i hi
theorem jy_ag (A A' : zW) (h : jy A) (g : agj S_8 A' A) : jy A' := by
  obtain ⟨n, t, k, c, h1, h2, h3⟩ := h
  exact ⟨n, t, k, c, h1.ag (g.sub sB_8), h2.ag g, h3.ag g⟩
def j8 (w : lW) : Prop := ∃ A, zA A w.1 w.2 ∧ jy A
def J8 (B : Nat → Nat) : lW → Prop := fun w => J7 B w ∧ j8 w
section
variable {B : Nat → Nat} {rt : Nat} {Wr : List (Nat × Nat)} {T : fT} {cc : ByteArray} {As : List Value} {w w' : lW} {rv : Option Value}
theorem kp8 (h : fLr (fq cw_TT cw_SG rt Wr T cc) As w rv w') (hJ : j8 w) (hk : bs_K.all (fun x => !(Wr.contains x)) = true) (hw : nW S_8 Wr = true) : j8 w' := by
  obtain ⟨A, hA, hj⟩ := hJ
  obtain ⟨X, hN, hA'⟩ := z_fr h hA hk
  exact ⟨_, hA', jy_ag _ _ hj (agj.hv hw hN)⟩
/-- a method of the reference that keeps it -/
theorem kq8 {r : fR} {tags : List Nat} {s : List Value} (hr : zdo r (zkq (345 :: tags) rt jy)) (h : fLr r (.ref (B 343) :: s) w rv w') (hb : bI B w) (hJ : j8 w) (hs : zvs w.1 s s) (ht : kts tags s) : j8 w' := by
  obtain ⟨A, hA, hj⟩ := hJ
  obtain ⟨A', u, hA', -, hK⟩ := zrun hr h hA (zargs hb (by decide) hs) (K := fun _ A' => jy A') ⟨⟨rfl, ht⟩, hj, fun _ _ _ h => h⟩
  exact ⟨A', hA', hK⟩
end
/-! one world by places only, in what this speaks of -/
theorem zu_I {A A' : zW} {ws : va_W} {sh : List Nat} (h : zA A ws sh) (h' : zA A' ws sh) {q p n : Nat} {cA : ClassId} {f : Nat → Int32} (hq : ws[q]? = some (p, .inl (cA, n, .inl f))) (i : Nat) : zI A' q i = zI A q i := by
  have h1 := (h.2.2 q p _ hq).2.2 i
  have h2 := (h'.2.2 q p _ hq).2.2 i
  exact h2.trans h1.symm
theorem zu_J {A A' : zW} {ws : va_W} {sh : List Nat} (h : zA A ws sh) (h' : zA A' ws sh) {q p n : Nat} {cA : ClassId} {f : Nat → Int64} (hq : ws[q]? = some (p, .inl (cA, n, .inr (.inl f)))) (i : Nat) : zJ A' q i = zJ A q i := by
  have h1 := (h.2.2 q p _ hq).2.2 i
  have h2 := (h'.2.2 q p _ hq).2.2 i
  exact h2.trans h1.symm
theorem zvr_uni {ws : va_W} (hd : f_dj ws) {v u u' : Value} (h : zvr ws v u) (h' : zvr ws v u') : u' = u := by
  cases v with
  | ref p =>
    obtain ⟨j, e, rfl, h1⟩ := h.ref
    obtain ⟨j', e', rfl, h2⟩ := h'.ref
    rw [hd j' j _ _ h2 h1 rfl]
  | _ =>
    cases u with
    | ref j =>
      obtain ⟨p, e, h1, -⟩ := h
      cases h1
    | _ =>
      cases u' with
      | ref j =>
        obtain ⟨p, e, h1, -⟩ := h'
        cases h1
      | _ =>
        have h1 : _ = _ := h
        have h2 : _ = _ := h'
        exact h2.symm.trans h1
theorem zu_F {A A' : zW} {ws : va_W} {sh : List Nat} (h : zA A ws sh) (h' : zA A' ws sh) {q p k : Nat} {o : Nat × List Value} (hq : ws[q]? = some (p, .inr o)) (hk : k < o.2.length) (hz : zc q k = 0) : zF A' q k = zF A q k := by
  have h1 := (h.2.2 q p _ hq).2.2 k _ (List.getElem?_eq_getElem hk)
  have h2 := (h'.2.2 q p _ hq).2.2 k _ (List.getElem?_eq_getElem hk)
  have e1 : zfl A q k = zF A q k := zcr_z hz
  have e2 : zfl A' q k = zF A' q k := zcr_z hz
  rw [e1] at h1
  rw [e2] at h2
  exact zvr_uni h.1 h1 h2
theorem zu_R {A A' : zW} {ws : va_W} {sh : List Nat} (h : zA A ws sh) (h' : zA A' ws sh) {q p n i : Nat} {cA : ClassId} {f : Nat → Option Nat} (hq : ws[q]? = some (p, .inl (cA, n, .inr (.inr (.inr (.inr f)))))) (hi : i < n) (hz : zc q i = 0) : zR A' q i = zR A q i := by
  have h1 := (h.2.2 q p _ hq).2.2 i hi
  have h2 := (h'.2.2 q p _ hq).2.2 i hi
  have e1 : zrl A q i = zR A q i := zcr_z hz
  have e2 : zrl A' q i = zR A' q i := zcr_z hz
  rw [e1] at h1
  rw [e2] at h2
  exact zvr_uni h.1 h1 h2
theorem zu_K {A A' : zW} {ws : va_W} {sh : List Nat} (h : zA A ws sh) (h' : zA A' ws sh) {j : Nat} (h1 : 385 ≤ j) (h2 : j < zN A) : zK A' j = zK A j := by
  have hlt : j < ws.length := by
    have := h.2.1.2.1
    omega
  obtain ⟨⟨p, e⟩, hj⟩ : ∃ x, ws[j]? = some x := ⟨_, List.getElem?_eq_getElem hlt⟩
  obtain ⟨a1, a2⟩ := h.2.2 j p e hj
  obtain ⟨b1, b2⟩ := h'.2.2 j p e hj
  have t1 : zty A j = zty A' j := Option.some.inj (a1.symm.trans b1)
  have t2 : zkd A j = zkd A' j := by
    cases e with
    | inl x => exact a2.1.trans b2.1.symm
    | inr o => exact a2.1.trans b2.1.symm
  rw [zkd_d h1, zkd_d h1] at t2
  unfold zty at t1
  rw [nltF h1] at t1
  have t1 : (zK A j).2 = (zK A' j).2 := t1
  exact (Prod.ext t2 t1).symm
/-- a later object's kind of cell -/
theorem zu_D {A A' : zW} {tys : List (ClassId × FieldType)} {ws : va_W} {sh : List Nat} (h : zA A ws sh) (h' : zA A' ws sh) (hw : ck_wo tys cw_TT cw_SG ws sh) {j : Nat} (h1 : 385 ≤ j) (h2 : j < zN A) (hK : zK A j = (4, 7)) : zF A' j 6 = zF A j 6 := by
  have hlt : j < ws.length := by
    have := h.2.1.2.1
    omega
  obtain ⟨⟨p, e⟩, hj⟩ : ∃ x, ws[j]? = some x := ⟨_, List.getElem?_eq_getElem hlt⟩
  obtain ⟨a1, -⟩ := h.2.2 j p e hj
  have et : zty A j = 7 := by
    unfold zty
    rw [nltF h1]
    show (zK A j).2 = 7
    rw [hK]
  rw [et] at a1
  obtain ⟨td, d1, d2⟩ := hw.2.1 j p e 7 hj a1
  have d1 : cw_TT[7]? = some td := d1
  have e1 : td = (0, 4, 0, _) := Option.some.inj (d1.symm.trans rfl)
  subst e1
  obtain ⟨vs, rfl, hl, -⟩ := d2
  exact zu_F h h' hj (show 6 < vs.length by rw [hl]; decide) (zc_d h1)
section
variable {B : Nat → Nat} {w : lW} {A A' : zW} {tys : List (ClassId × FieldType)}
theorem zu_at (hb : bI B w) {q : Nat} {c : mk_C} (hc : lp_L2[q]? = some c) {e : va_E} (he : hof w.1 (B q) = some e) : w.1[q]? = some (B q, e) := by
  obtain ⟨e', h1, h2, -⟩ := hb.2.h hb.1 hc
  rw [he] at h2
  rw [h1, Option.some.inj h2]
theorem zu_I' (hb : bI B w) (hw : ck_wo tys cw_TT cw_SG w.1 w.2) (h : zA A w.1 w.2) (h' : zA A' w.1 w.2) {q t n k0 : Nat} {c : mk_C} {l : List ck_T} (hc : lp_L2[q]? = some c) (ht : lp_sh[q]? = some t) (hT : cw_TT[t]? = some (1, n, k0, l)) (i : Nat) : zI A' q i = zI A q i := by
  obtain ⟨cA, f, hf⟩ := hb.2.iv hb.1 hw hc ht hT
  exact zu_I h h' (zu_at hb hc hf) i
theorem zu_J' (hb : bI B w) (hw : ck_wo tys cw_TT cw_SG w.1 w.2) (h : zA A w.1 w.2) (h' : zA A' w.1 w.2) {q t n k0 : Nat} {c : mk_C} {l : List ck_T} (hc : lp_L2[q]? = some c) (ht : lp_sh[q]? = some t) (hT : cw_TT[t]? = some (2, n, k0, l)) (i : Nat) : zJ A' q i = zJ A q i := by
  obtain ⟨e, h1, -⟩ := hb.2.2 q c hc
  obtain ⟨td, d1, d2⟩ := hw.2.1 q _ e t h1 (hb.2.1 q t ht)
  have e1 : td = _ := Option.some.inj (d1.symm.trans hT)
  subst e1
  obtain ⟨cA, f, -, rfl⟩ := d2
  exact zu_J h h' h1 i
theorem zu_F' (hb : bI B w) (hw : ck_wo tys cw_TT cw_SG w.1 w.2) (h : zA A w.1 w.2) (h' : zA A' w.1 w.2) {k : Nat} (hk : k < 68) (hz : zc 343 k = 0) : zF A' 343 k = zF A 343 k := by
  obtain ⟨fs, hp, hl⟩ := ln_343 hb hw
  exact zu_F h h' (zu_at hb bl_343 hp) (show k < fs.length by omega) hz
theorem zu_R' (hb : bI B w) (hw : ck_wo tys cw_TT cw_SG w.1 w.2) (h : zA A w.1 w.2) (h' : zA A' w.1 w.2) {e : Nat} (he : e < 12) : zR A' 195 e = zR A 195 e := by
  obtain ⟨c, hc⟩ := lp_L2_at (show 195 < 385 by decide)
  obtain ⟨e1, h1, -⟩ := hb.2.2 195 c hc
  obtain ⟨td, d1, d2⟩ := hw.2.1 195 _ e1 28 h1 (hb.2.1 195 28 (by decide +kernel))
  have d1 : cw_TT[28]? = some td := d1
  have e2 : td = (3, 12, 4, [(3, 0, 0, [7])]) := Option.some.inj (d1.symm.trans rfl)
  subst e2
  obtain ⟨cA, C, f, -, rfl, -⟩ := d2
  exact zu_R h h' h1 he zc195
theorem u_196 : lp_L2[196]? = some (1, 0, 256, []) := lp_at_ok (by decide +kernel)
theorem u_348 : lp_L2[348]? = some (1, 0, 12, []) := lp_at_ok (by decide +kernel)
theorem u_350 : lp_L2[350]? = some (1, 0, 12, []) := lp_at_ok (by decide +kernel)
theorem u_351 : lp_L2[351]? = some (1, 0, 12, []) := lp_at_ok (by decide +kernel)
theorem u_352 : lp_L2[352]? = some (1, 0, 12, []) := lp_at_ok (by decide +kernel)
theorem u_353 : lp_L2[353]? = some (1, 0, 12, []) := lp_at_ok (by decide +kernel)
/-- all of it on any of a world's pictures -/
theorem j8_on (hb : bI B w) (hw : ck_wo tys cw_TT cw_SG w.1 w.2) (h8 : j8 w) (hA' : zA A' w.1 w.2) : jy A' := by
  obtain ⟨A, hA, n, t, k, c, ⟨⟨⟨a1, n0, n1⟩, a2, a3, a4⟩, b, hs, hm, hg⟩, hr, ⟨l, l1, l2⟩, v, v1, v2⟩ := h8
  have n1 : n.toInt ≤ 12 := n1
  obtain ⟨c345, h345⟩ := lp_L2_at (show 345 < 385 by decide)
  obtain ⟨c344, h344⟩ := lp_L2_at (show 344 < 385 by decide)
  obtain ⟨c354, h354⟩ := lp_L2_at (show 354 < 385 by decide)
  have F : ∀ k, k < 68 → zc 343 k = 0 → zF A' 343 k = zF A 343 k := fun k hk hz => zu_F' hb hw hA hA' hk hz
  have i348 : ∀ i, zI A' 348 i = zI A 348 i := zu_I' hb hw hA hA' u_348 (t := 49) (by decide +kernel) (show cw_TT[49]? = some (1, 12, _, _) from rfl)
  have i350 : ∀ i, zI A' 350 i = zI A 350 i := zu_I' hb hw hA hA' u_350 (t := 51) (by decide +kernel) (show cw_TT[51]? = some (1, 12, _, _) from rfl)
  have i351 : ∀ i, zI A' 351 i = zI A 351 i := zu_I' hb hw hA hA' u_351 (t := 52) (by decide +kernel) (show cw_TT[52]? = some (1, 12, _, _) from rfl)
  have i352 : ∀ i, zI A' 352 i = zI A 352 i := zu_I' hb hw hA hA' u_352 (t := 53) (by decide +kernel) (show cw_TT[53]? = some (1, 12, _, _) from rfl)
  have i353 : ∀ i, zI A' 353 i = zI A 353 i := zu_I' hb hw hA hA' u_353 (t := 54) (by decide +kernel) (show cw_TT[54]? = some (1, 12, _, _) from rfl)
  have i196 : ∀ i, zI A' 196 i = zI A 196 i := zu_I' hb hw hA hA' u_196 (t := 29) (by decide +kernel) (show cw_TT[29]? = some (1, 256, _, _) from rfl)
  have i345 : ∀ i, zI A' 345 i = zI A 345 i := zu_I' hb hw hA hA' h345 (t := 46) (by decide +kernel) (show cw_TT[46]? = some (1, 6, _, _) from rfl)
  have j344 : ∀ i, zJ A' 344 i = zJ A 344 i := zu_J' hb hw hA hA' h344 (t := 45) (by decide +kernel) (show cw_TT[45]? = some (2, 240, _, _) from rfl)
  have j354 : zJ A' 354 = zJ A 354 := funext (zu_J' hb hw hA hA' h354 (t := 55) (by decide +kernel) (show cw_TT[55]? = some (2, 16384, _, _) from rfl))
  have r195 : ∀ e, e < 12 → zR A' 195 e = zR A 195 e := fun e he => zu_R' hb hw hA hA' he
  have esw : ∀ e q, sew A' e q = sew A e q := fun e q => by
    unfold sew ses
    rw [i348, j344]
  have elw : ∀ (f : Nat → Int64) (m : Nat), lwOK A f m → lwOK A' f m := fun f m h S hS q hq i hi => by
    rw [h S hS q hq i hi]
    constructor
    · intro z e he
      rw [esw]
      exact z e he
    · intro z e he
      rw [← esw]
      exact z e he
  have emv : mvP A' t k = mvP A t k := funext (fun e => by
    unfold mvP
    rw [i350, i351, i352, i353])
  have eN : zN A' = zN A := by rw [hA'.2.1.2.1, hA.2.1.2.1]
  refine ⟨n, t, k, c, ⟨⟨⟨(F 8 (by decide) (by decide +kernel)).trans a1, n0, n1⟩, (F 15 (by decide) (by decide +kernel)).trans a2, (F 16 (by decide) (by decide +kernel)).trans a3, (F 1 (by decide) (by decide +kernel)).trans a4⟩, b, fun e he => ?_, fun w hw => ?_, fun e he => ?_⟩, fun i hi => ?_, ⟨l, (F 17 (by decide) (by decide +kernel)).trans l1, fun z => ?_⟩, v, (F 19 (by decide) (by decide +kernel)).trans v1, fun z => ?_⟩
  · rw [i348]
    exact hs e he
  · have es : seb A' w = seb A w := funext (fun e => by
      unfold seb
      rw [esw])
    unfold trN
    rw [i196, es]
    exact hm w hw
  · obtain ⟨⟨j, b0, ⟨b1, b2, b3⟩, b4⟩, h2⟩ := hg e he
    rw [r195 e (by omega), i353]
    exact ⟨⟨j, b0, ⟨b1, by rw [eN]; exact b2, (zu_K hA hA' b1 b2).trans b3⟩, (zu_D hA hA' hw b1 b2 b3).trans b4⟩, h2⟩
  · rw [i345]
    exact hr i hi
  · rw [j354]
    exact elw _ _ (l2 z)
  · rw [emv]
    exact (F 20 (by decide) (by decide +kernel)).trans (v2 z)
end
/-! out of it: what lay and the cuts ask -/
theorem jy_la {A : zW} {n t k c : Int32} (h : jyy A n t k c) : laP (n, t, k) A := by
  obtain ⟨⟨⟨⟨a1, e1, e2⟩, a2, a3, a4⟩, ⟨b1, b2⟩, hs, -, -⟩, -, hl⟩ := h
  refine ⟨⟨a1, e1, e2⟩, fun e he => ?_, ⟨a2, a3⟩, hl⟩
  have := hs e (show (e : Int) < n.toInt by
    have he : e < n.toInt.toNat := he
    omega)
  omega
theorem laQ_jy {A A' : zW} {n t k c : Int32} (h : jyy A n t k c) (hq : laQ (n, t, k) A A') : jyy A' n t k c := by
  obtain ⟨g, hp, -⟩ := hq
  refine ⟨h.1.ag (g.sub sB_Y), fun i hi => ?_, hp.2.2.2⟩
  rw [(g.1.2.1 345 i (by decide) (by decide +kernel)).1]
  exact h.2.1 i hi
/-- lay keeps it -/
theorem lay_call (Us : List Value) (A : zW) (Kt : Option Value → zW → Prop) (h1 : kts [345] Us) (h2 : jy A) (h3 : ∀ (rv : Option Value) (A' : zW), kts [] rv.toList → jy A' → Kt rv A') : zq_lay8 Us A Kt := by
  obtain ⟨n, t, k, c, hy⟩ := h2
  have e : Us = [.ref 343] := by
    obtain ⟨u, s, rfl, a, b⟩ := kts1 h1
    cases s with
    | nil =>
      have a : u = .ref 343 := a
      rw [a]
    | cons _ _ => exact b.elim
  refine ⟨(n, t, k), e, jy_la hy, ?_⟩
  rintro rv A' ⟨rfl, hq⟩
  exact h3 none A' trivial ⟨n, t, k, c, laQ_jy hy hq⟩
/-! the two's least cuts are the same -/
/-- in view, on both sides -/
theorem jv_eq {A : zW} {n t k : Int32} (hE : jE A n) (hG : jG A n) : vwN (cvP A t k) n.toInt.toNat = vwN (mvP A t k) n.toInt.toNat := vwN_eq (fun e he => by
  obtain ⟨j, b0, -, -, -, -, c3, c4, c5, -⟩ := hE.2.2 e (by omega)
  obtain ⟨⟨j', b0', -, g1⟩, g2⟩ := hG e (by omega)
  have ej : j' = j := by
    rw [b0] at b0'
    injection b0' with z
    exact z.symm
  subst ej
  unfold cvP mvP
  rw [b0]
  show decide ((iv (zF A j' 3)).toInt ≤ t.toInt ∧ t.toInt ≤ (iv (zF A j' 4)).toInt ∧ (iv (zF A j' 5)).toInt ≤ k.toInt ∧ ((iv (zF A j' 6)).toInt = -9 ∨ k.toInt < (iv (zF A j' 6)).toInt)) = _
  rw [c3, c4, c5, g1]
  show decide ((zI A 350 e).toInt ≤ t.toInt ∧ t.toInt ≤ (zI A 351 e).toInt ∧ (zI A 352 e).toInt ≤ k.toInt ∧ ((zI A 353 e).toInt = -9 ∨ k.toInt < (zI A 353 e).toInt)) = _
  refine decide_eq_decide.mpr ?_
  constructor
  · rintro ⟨a, b, d, f⟩
    refine ⟨a, b, d, ?_⟩
    rcases f with f | f
    · exact Or.inl (by omega)
    · exact Or.inr f
  · rintro ⟨a, b, d, f⟩
    refine ⟨a, b, d, ?_⟩
    rcases f with f | f
    · rcases g2 with g2 | g2
      · exact Or.inl g2
      · omega
    · exact Or.inr f)
theorem trN_lt {A : zW} {n w : Nat} (hn : n < 13) : trN A n w < 4096 := Nat.lt_of_lt_of_le vwN_lt (p2_le n hn)
theorem jM_tr {A : zW} {n : Int32} (h : jM A n) (h0 : 0 ≤ n.toInt) (h1 : n.toInt ≤ 12) {w : Nat} (hw : w < 256) : ztw A w = trN A n.toInt.toNat w := by
  unfold ztw
  rw [h w hw, n32_t (trN_lt (by omega))]
  rfl
theorem jM_ti {A : zW} {n : Int32} (h : jM A n) (h0 : 0 ≤ n.toInt) (h1 : n.toInt ≤ 12) : zti A := fun w hw => by
  rw [jM_tr h h0 h1 hw]
  exact ⟨h w hw, trN_lt (by omega)⟩
/-- a world is out of a sentence, in a way -/
def outM (A : zW) (s : Nat) (way : Int32) (w : Nat) : Prop := ¬ (fwW A s way (w / 64)).toBitVec.getLsbD (w % 64) = true
theorem and0_b {x y : Int64} : x &&& (y ^^^ Int64.ofInt (-1)) = Int64.ofNat 0 ↔ ∀ i, i < 64 → x.toBitVec.getLsbD i = true → y.toBitVec.getLsbD i = true := by
  rw [l_zero]
  constructor
  · intro h i hi hx
    have h1 := h i hi
    rw [Int64.toBitVec_and, BitVec.getLsbD_and, Int64.toBitVec_xor, BitVec.getLsbD_xor, m1_64 i hi, hx, Bool.true_and, Bool.xor_true, Bool.not_eq_false'] at h1
    exact h1
  · intro h i hi
    rw [Int64.toBitVec_and, BitVec.getLsbD_and, Int64.toBitVec_xor, BitVec.getLsbD_xor, m1_64 i hi, Bool.xor_true]
    cases hx : x.toBitVec.getLsbD i with
    | false => rfl
    | true =>
      rw [h i hi hx]
      rfl
theorem flN_and {A : zW} {S s : Nat} {way : Int32} : ∀ {q : Nat}, flN A S s way q = true ↔ ∀ y, y < q → zJ A 354 (4 * S + y) &&& (fwW A s way y ^^^ Int64.ofInt (-1)) = Int64.ofNat 0
  | 0 => ⟨fun _ y hy => absurd hy (Nat.not_lt_zero y), fun _ => rfl⟩
  | q + 1 => by
    show (flN A S s way q && decide _) = true ↔ _
    rw [Bool.and_eq_true, flN_and, decide_eq_true_iff]
    constructor
    · rintro ⟨a, b⟩ y hy
      by_cases e : y = q
      · rw [e]
        exact b
      · exact a y (by omega)
    · intro a
      exact ⟨fun y hy => a y (by omega), a q (Nat.lt_succ_self q)⟩
/-- what the reference calls following -/
theorem flN_iff {A : zW} {S s n : Nat} {way : Int32} (hL : lwOK A (zJ A 354) (2 ^ n)) (hS : S < 2 ^ n) : flN A S s way 4 = true ↔ flS (outM A s way) (trN A n) (fun i => S.testBit i = true) := by
  have hlt : ∀ i, S.testBit i = true → i < n := fun i hi => by
    refine Nat.lt_of_not_le (fun c => ?_)
    rw [Nat.testBit_lt_two_pow (Nat.lt_of_lt_of_le hS (Nat.pow_le_pow_right (by decide) c))] at hi
    cases hi
  rw [flN_and]
  constructor
  · intro h w hw ho ha
    have h1 := and0_b.mp (h (w / 64) (by omega)) (w % 64) (by omega) ((hL S hS (w / 64) (by omega) (w % 64) (by omega)).mpr (fun e he => by
      have h2 := ha e he
      unfold trN at h2
      rw [vwN_b, Bool.and_eq_true] at h2
      exact h2.2))
    exact ho h1
  · intro h y hy
    refine and0_b.mpr (fun i hi hx => Classical.byContradiction (fun z => ?_))
    have h1 := (hL S hS y hy i hi).mp hx
    refine h (64 * y + i) (by omega) ?_ (fun e he => ?_)
    · unfold outM
      rw [show (64 * y + i) / 64 = y by omega, show (64 * y + i) % 64 = i by omega]
      exact z
    · unfold trN
      rw [vwN_b, decide_eq_true (hlt e he), Bool.true_and]
      unfold seb
      rw [show (64 * y + i) / 64 = y by omega, show (64 * y + i) % 64 = i by omega]
      exact h1 e he
/-- a cut of the reference is one -/
theorem icN_iff {A : zW} {V c s n : Nat} {way : Int32} (hL : lwOK A (zJ A 354) (2 ^ n)) (hV : V < 2 ^ n) (hc : c < 2 ^ n) : icN A V c s way n = true ↔ isC (outM A s way) (trN A n) V c := by
  have hd : dfN V c < 2 ^ n := Nat.lt_of_le_of_lt dfN_le hV
  have key : ∀ {e : Nat}, e ≤ n → (icN A V c s way e = true ↔ (subS c V ∧ ¬ flS (outM A s way) (trN A n) (fun i => V.testBit i = true ∧ ¬ c.testBit i = true)) ∧ ∀ i, i < e → c.testBit i = true → flS (outM A s way) (trN A n) (fun x => (V.testBit x = true ∧ ¬ c.testBit x = true) ∨ x = i)) := by
    intro e
    induction e with
    | zero =>
      intro _
      have e1 : (fun i => (dfN V c).testBit i = true) = (fun i => V.testBit i = true ∧ ¬ c.testBit i = true) := funext (fun i => propext (by
        rw [dfN_b, Bool.and_eq_true, Bool.not_eq_true', Bool.not_eq_true]))
      have e2 : dfN c V = 0 ↔ subS c V := by
        constructor
        · intro h i hi
          have h1 := congrArg (fun x => x.testBit i) h
          have h1 : (dfN c V).testBit i = (0 : Nat).testBit i := h1
          rw [dfN_b, Nat.zero_testBit, hi, Bool.true_and, Bool.not_eq_false'] at h1
          exact h1
        · intro h
          refine Nat.eq_of_testBit_eq (fun i => ?_)
          rw [dfN_b, Nat.zero_testBit]
          cases hi : c.testBit i with
          | false => rfl
          | true =>
            rw [h i hi]
            rfl
      show (decide (dfN c V = 0) && !(flN A (dfN V c) s way 4)) = true ↔ _
      rw [Bool.and_eq_true, decide_eq_true_iff, e2, Bool.not_eq_true', Bool.eq_false_iff, ne_eq, flN_iff hL hd, e1]
      exact ⟨fun h => ⟨h, fun i hi => absurd hi (Nat.not_lt_zero i)⟩, fun h => h.1⟩
    | succ e ih =>
      intro he
      have h2 : (2 : Nat) ^ e < 2 ^ n := Nat.pow_lt_pow_right (by decide) (by omega)
      have e1 : (fun i => (dfN V c ||| 2 ^ e).testBit i = true) = (fun x => (V.testBit x = true ∧ ¬ c.testBit x = true) ∨ x = e) := funext (fun i => propext (by
        rw [Nat.testBit_or, Bool.or_eq_true, dfN_b, Bool.and_eq_true, Bool.not_eq_true', Bool.not_eq_true, Nat.testBit_two_pow, decide_eq_true_iff]
        exact ⟨fun h => h.imp_right Eq.symm, fun h => h.imp_right Eq.symm⟩))
      show (icN A V c s way e && (!(c.testBit e) || flN A (dfN V c ||| 2 ^ e) s way 4)) = true ↔ _
      rw [Bool.and_eq_true, ih (by omega), Bool.or_eq_true, flN_iff hL (Nat.or_lt_two_pow hd h2), e1]
      constructor
      · rintro ⟨⟨a, b⟩, d⟩
        refine ⟨a, fun i hi hci => ?_⟩
        by_cases ei : i = e
        · subst ei
          rcases d with d | d
          · rw [hci] at d
            cases d
          · exact d
        · exact b i (by omega) hci
      · rintro ⟨a, b⟩
        refine ⟨⟨a, fun i hi => b i (by omega)⟩, ?_⟩
        cases hce : c.testBit e with
        | false => exact Or.inl rfl
        | true => exact Or.inr (b e (Nat.lt_succ_self e) hce)
  rw [key (Nat.le_refl n)]
  constructor
  · rintro ⟨⟨a, b⟩, d⟩
    refine ⟨a, b, fun e he => d e ?_ he⟩
    refine Nat.lt_of_not_le (fun z => ?_)
    rw [Nat.testBit_lt_two_pow (Nat.lt_of_lt_of_le hc (Nat.pow_le_pow_right (by decide) z))] at he
    cases he
  · rintro ⟨a, b, d⟩
    exact ⟨⟨a, b⟩, fun i _ hi => d i hi⟩
/-- as long as a world is out, there is a cut -/
theorem opS_min {out : Nat → Prop} {tr : Nat → Nat} {view : Nat} : ∀ (S : Nat), opS out tr view S → ∃ T, T ≤ S ∧ opS out tr view T ∧ ∀ k, T.testBit k = true → ¬ opS out tr view (T - 2 ^ k) := by
  intro S
  induction S using Nat.strongRecOn with
  | ind S ih =>
    intro h
    by_cases c : ∃ k, S.testBit k = true ∧ opS out tr view (S - 2 ^ k)
    · obtain ⟨k, c1, c2⟩ := c
      have hge := Nat.ge_two_pow_of_testBit c1
      have hp := Nat.two_pow_pos k
      obtain ⟨T, t1, t2, t3⟩ := ih (S - 2 ^ k) (by omega) c2
      exact ⟨T, by omega, t2, t3⟩
    · exact ⟨S, Nat.le_refl S, h, fun k hk z => c ⟨k, hk, z⟩⟩
theorem cut_ex {out : Nat → Prop} {tr : Nat → Nat} {view w : Nat} (hw : w < 256) (ho : out w) : ∃ T, T ≤ view ∧ isC out tr view T := by
  obtain ⟨T, t1, t2, t3⟩ := opS_min (out := out) (tr := tr) (view := view) view ⟨w, hw, ho, fun i a _ => a⟩
  exact ⟨T, t1, cut_iff.mpr ⟨t2, t3⟩⟩
theorem lstF_some {p : Nat → Bool} {c : Nat → Int} : ∀ {n S : Nat}, S < n → p S = true → ∃ b, lstF p c n = some b
  | 0, _, h, _ => absurd h (Nat.not_lt_zero _)
  | n + 1, S, h, hp => by
    by_cases hn : p n = true
    · rw [lstF_hit hn]
      cases lstF p c n with
      | none => exact ⟨n, rfl⟩
      | some b =>
        show ∃ x, (if c n < c b then some n else some b) = some x
        split
        · exact ⟨_, rfl⟩
        · exact ⟨_, rfl⟩
    · have hlt : S < n := by
        by_cases e : S = n
        · subst e
          exact absurd hp hn
        · omega
      obtain ⟨b, hb⟩ := lstF_some (c := c) hlt hp
      refine ⟨b, ?_⟩
      show (if p n = true then _ else lstF p c n) = some b
      rw [if_neg hn]
      exact hb
/-- the class's least cut (over its sets' words) is the reference's -/
theorem lc_same {A A' : zW} {q s : Nat} {way n t k : Int32} (h0 : 0 ≤ n.toInt) (h1 : n.toInt ≤ 12) (hV : vwN (cvP A t k) n.toInt.toNat = vwN (mvP A' t k) n.toInt.toNat) (hL : lwOK A' (zJ A' 354) (2 ^ n.toInt.toNat)) (ho : ∀ w, w < 256 → (zouF A q w = true ↔ outM A' s way w)) (ht : ∀ w, w < 256 → ztw A w = trN A' n.toInt.toNat w) (hcost : ∀ S, S < 2 ^ n.toInt.toNat → costC A n.toInt.toNat S = costM A' n.toInt.toNat S) : lstF (zlcF (q, n, t, k) A) (costC A n.toInt.toNat) 4096 = lstF (fun S => icN A' (vwN (mvP A' t k) n.toInt.toNat) S s way n.toInt.toNat) (costM A' n.toInt.toNat) (2 ^ n.toInt.toNat) := by
  have hm := p2_le n.toInt.toNat (by omega)
  have hVl : vwN (mvP A' t k) n.toInt.toNat < 2 ^ n.toInt.toNat := vwN_lt
  have hV4 : zcuV (q, n, t, k) A < 4096 := by
    show vwN (cvP A t k) n.toInt.toNat < 4096
    rw [hV]
    omega
  have hopS : ∀ T, opS (fun w => zouF A q w = true) (ztw A) (vwN (mvP A' t k) n.toInt.toNat) T ↔ opS (outM A' s way) (trN A' n.toInt.toNat) (vwN (mvP A' t k) n.toInt.toNat) T := fun T => by
    constructor
    · rintro ⟨w, w1, w2, w3⟩
      refine ⟨w, w1, (ho w w1).mp w2, fun i a b => w3 i a ?_⟩
      rw [ht w w1]
      exact b
    · rintro ⟨w, w1, w2, w3⟩
      refine ⟨w, w1, (ho w w1).mpr w2, fun i a b => w3 i a ?_⟩
      rw [← ht w w1]
      exact b
  have hp : ∀ S, S < 4096 → (zlcF (q, n, t, k) A S = true ↔ isC (outM A' s way) (trN A' n.toInt.toNat) (vwN (mvP A' t k) n.toInt.toNat) S) := fun S hS => by
    have h := zcu_iff (A := A) (q := q) (V := zcuV (q, n, t, k) A) hV4 hS
    have e : zcuV (q, n, t, k) A = vwN (mvP A' t k) n.toInt.toNat := hV
    refine h.trans ?_
    rw [e, cut_iff, cut_iff, hopS S]
    constructor
    · rintro ⟨a, b⟩
      exact ⟨a, fun k hk z => b k hk ((hopS _).mpr z)⟩
    · rintro ⟨a, b⟩
      exact ⟨a, fun k hk z => b k hk ((hopS _).mp z)⟩
  obtain ⟨d, hd⟩ : ∃ d, 4096 = 2 ^ n.toInt.toNat + d := ⟨4096 - 2 ^ n.toInt.toNat, by omega⟩
  have e1 : lstF (zlcF (q, n, t, k) A) (costC A n.toInt.toNat) 4096 = lstF (zlcF (q, n, t, k) A) (costC A n.toInt.toNat) (2 ^ n.toInt.toNat) := by
    have e := lstF_none (p := zlcF (q, n, t, k) A) (c := costC A n.toInt.toNat) (m := 2 ^ n.toInt.toNat) (k := d) (fun i i1 i2 hi => by
      have h := ((hp i (by omega)).mp hi).1
      have hle : i ≤ vwN (mvP A' t k) n.toInt.toNat := Nat.le_of_testBit h
      omega)
    rw [← hd] at e
    exact e
  rw [e1]
  refine (lstF_eq (fun S hS => ?_) (fun S T hS hT _ _ => ?_)).1
  · have h2 := icN_iff (A := A') (V := vwN (mvP A' t k) n.toInt.toNat) (c := S) (s := s) (way := way) hL hVl hS
    show zlcF (q, n, t, k) A S = icN A' (vwN (mvP A' t k) n.toInt.toNat) S s way n.toInt.toNat
    have h3 := hp S (by omega)
    cases ha : zlcF (q, n, t, k) A S with
    | true => exact (h2.mpr (h3.mp ha)).symm
    | false =>
      cases hb : icN A' (vwN (mvP A' t k) n.toInt.toNat) S s way n.toInt.toNat with
      | false => rfl
      | true =>
        have := h3.mpr (h2.mp hb)
        rw [ha] at this
        exact this
  · rw [hcost S hS, hcost T hT]
