/-! the pairs: least, giveUp, drop, view -/
def S_N : List (Nat × Nat) := S_M0 ++ [(46, 0), (50, 0)]
def S_R8 : List (Nat × Nat) := S_N ++ S_L8
theorem sM_N : ∀ y ∈ S_M0, y ∈ S_N := by decide +kernel
theorem sN_R : ∀ y ∈ S_N, y ∈ S_R8 := by decide +kernel
theorem sM_R : ∀ y ∈ S_M0, y ∈ S_R8 := by decide +kernel
theorem sN_Y : ∀ y ∈ S_N, y ∈ S_Y := by decide +kernel
section
variable {S : List (Nat × Nat)} {A A' B : zW} {n t k c : Int32}
theorem agj.sJ {q : Nat} {f : Nat → Int64} (hs : ¬ (zn lp_sh q, 0) ∈ S) : agj S (zsJ A q f) A := ⟨agl.sJ, fun p i hp hm => zsJ_ne (fun e => by
  subst e
  exact hs hm)⟩
theorem agj_cu {q V : Nat} (hs : ¬ (6, 0) ∈ S) : agj S (zcuW A q V) A := agj.tr (agj.sJ (q := 200) (by rw [show zn lp_sh 200 = 6 by decide +kernel]; exact hs)) (agj.sJ (q := 202) (by rw [show zn lp_sh 202 = 6 by decide +kernel]; exact hs))
theorem agj_ab {set : Int32} {v : Value} {e : Nat} (hs : ∀ t, ¬ (t, 6) ∈ S) (h : ∀ i, i < e → 385 ≤ rv_ (zR A 195 i)) : agj S (zabF A set v e) A := by
  obtain ⟨a1, a2, a3, a4, a5, a6, a7⟩ := zabF_k (set := set) (v := v) h
  refine ⟨⟨fun q i hq _ => a1 q i hq, fun q i _ _ => ⟨a3 q i, a2 q i⟩, by rw [a6]; exact Nat.le_refl _, fun j ci ty h1 h2 hK => ⟨by rw [a5]; exact hK, fun i hm => a7 j i (fun e => ?_)⟩⟩, fun q i _ _ => a4 q i⟩
  subst e
  exact hs ty hm
theorem laP_m {a : laA} (h : laP a A) (g : agj S_R8 A' A) : laP a A' := by
  obtain ⟨⟨hn, n0⟩, hs, ⟨ht, hk⟩, ⟨l, l1, l2⟩, v, v1, v2⟩ := h
  have F : ∀ q i, q < 385 → (zn lp_sh q, i) ∈ S_R8 → zF A' q i = zF A q i := g.1.1
  have eJ : zJ A' 354 = zJ A 354 := funext (fun i => g.2 354 i (by decide) (by decide +kernel))
  refine ⟨⟨(F 343 8 (by decide) (by decide +kernel)).trans hn, n0⟩, sei_m (g.sub sM_R) hs, ⟨(F 343 15 (by decide) (by decide +kernel)).trans ht, (F 343 16 (by decide) (by decide +kernel)).trans hk⟩, ⟨l, (F 343 17 (by decide) (by decide +kernel)).trans l1, fun z => ?_⟩, v, (F 343 19 (by decide) (by decide +kernel)).trans v1, fun z => ?_⟩
  · rw [eJ]
    exact lwOK_m (g.sub sM_R) (l2 z)
  · rw [mvP_m (g.sub sM_R)]
    exact (F 343 20 (by decide) (by decide +kernel)).trans (v2 z)
theorem mwr_m {m : Nat} (h : mwr A m) (g : agj S_N A' A) : mwr A' m := fun e he => by
  rw [(g.1.2.1 349 e (by decide) (by decide +kernel)).1, (g.1.2.1 345 _ (by decide) (by decide +kernel)).1]
  exact h e he
theorem zmw_m {set : Int32} (g : agj S_N A' A) : ∀ {m : Nat}, zmw A' set m = zmw A set m
  | 0 => rfl
  | m + 1 => by
    show zmw A' set m + (if zbi set m = true then zI A' 345 (zI A' 349 m).toInt.toNat else 0) = zmw A set m + (if zbi set m = true then zI A 345 (zI A 349 m).toInt.toNat else 0)
    rw [zmw_m g, (g.1.2.1 349 m (by decide) (by decide +kernel)).1, (g.1.2.1 345 _ (by decide) (by decide +kernel)).1]
end
/-- both sides' state, opened -/
def O8 (A : zW) (n m q t k c : Int32) : Prop := (jE A n) ∧ (jR A m) ∧ (jC A q) ∧ (jT A) ∧ (jV A) ∧ (jH A n m) ∧ (jL A) ∧ (jyy A n t k c) ∧ (zF A 193 2 = .int t) ∧ (zF A 193 3 = .int k) ∧ (zF A 0 1 = .int c) ∧ (0 ≤ c.toInt) ∧ (∀ i : Nat, (i : Int) < c.toInt → ∀ x, x < 4 → zJ A (2 + 2 * i + 1) x = zsw A i x)
theorem O8.e {A : zW} {n m q t k c : Int32} (o : O8 A n m q t k c) : jE A n := o.1
theorem O8.r {A : zW} {n m q t k c : Int32} (o : O8 A n m q t k c) : jR A m := o.2.1
theorem O8.cl {A : zW} {n m q t k c : Int32} (o : O8 A n m q t k c) : jC A q := o.2.2.1
theorem O8.tr {A : zW} {n m q t k c : Int32} (o : O8 A n m q t k c) : jT A := o.2.2.2.1
theorem O8.v {A : zW} {n m q t k c : Int32} (o : O8 A n m q t k c) : jV A := o.2.2.2.2.1
theorem O8.h {A : zW} {n m q t k c : Int32} (o : O8 A n m q t k c) : jH A n m := o.2.2.2.2.2.1
theorem O8.l {A : zW} {n m q t k c : Int32} (o : O8 A n m q t k c) : jL A := o.2.2.2.2.2.2.1
theorem O8.y {A : zW} {n m q t k c : Int32} (o : O8 A n m q t k c) : jyy A n t k c := o.2.2.2.2.2.2.2.1
theorem O8.vt {A : zW} {n m q t k c : Int32} (o : O8 A n m q t k c) : zF A 193 2 = .int t := o.2.2.2.2.2.2.2.2.1
theorem O8.vk {A : zW} {n m q t k c : Int32} (o : O8 A n m q t k c) : zF A 193 3 = .int k := o.2.2.2.2.2.2.2.2.2.1
theorem O8.c0 {A : zW} {n m q t k c : Int32} (o : O8 A n m q t k c) : zF A 0 1 = .int c := o.2.2.2.2.2.2.2.2.2.2.1
theorem O8.cp {A : zW} {n m q t k c : Int32} (o : O8 A n m q t k c) : 0 ≤ c.toInt := o.2.2.2.2.2.2.2.2.2.2.2.1
theorem O8.w {A : zW} {n m q t k c : Int32} (o : O8 A n m q t k c) : ∀ i : Nat, (i : Int) < c.toInt → ∀ x, x < 4 → zJ A (2 + 2 * i + 1) x = zsw A i x := o.2.2.2.2.2.2.2.2.2.2.2.2
theorem O8.n {A : zW} {n m q t k c : Int32} (o : O8 A n m q t k c) : 0 ≤ n.toInt ∧ n.toInt ≤ 12 := o.y.1.1.1.2
theorem J8.o {B : Nat → Nat} {w : lW} {tys : List (ClassId × FieldType)} (hJ : J8 B w) (hw : ck_wo tys cw_TT cw_SG w.1 w.2) : ∃ (A : zW) (n m q t k c : Int32), zA A w.1 w.2 ∧ O8 A n m q t k c := by
  obtain ⟨⟨J6w, A, hA, n, m, q, g1, g2, g3, g4, g5, g6, g7⟩, h8⟩ := hJ
  obtain ⟨n', t, k, c, hy⟩ := j8_on J6w.1.b hw h8 hA
  obtain ⟨c2, hc, hc', c0, c60⟩ := j7_c J6w hA hw
  obtain ⟨c3, hc3, hw3⟩ := j7_w J6w hA
  obtain ⟨⟨⟨a1, -⟩, a2, a3, a4⟩, -⟩ := id hy.1
  have en : n' = n := by
    have h2 := g1.2.1
    rw [a1] at h2
    injection h2
  have ec : c2 = c := by
    rw [a4] at hc'
    injection hc' with z
    exact z.symm
  have ec3 : c3 = c2 := by
    rw [hc] at hc3
    injection hc3 with z
    exact z.symm
  subst en
  subst ec
  subst ec3
  obtain ⟨t', k', b1, b2, b3, b4⟩ := id g5
  have et : t' = t := by
    rw [a2] at b2
    injection b2 with z
    exact z.symm
  have ek : k' = k := by
    rw [a3] at b4
    injection b4 with z
    exact z.symm
  subst et
  subst ek
  exact ⟨A, n', m, q, t', k', c3, hA, g1, g2, g3, g4, g5, g6, g7, hy, b1, b3, hc, c0, fun i hi x hx => hw3 i hi (by omega) x hx⟩
section
variable {A A' A1 B0 B1 : zW} {n m q t k c s v v2 : Int32}
theorem O8.zeV (o : O8 A n m q t k c) : zeV A n := ⟨o.e.1, fun e he => by
  obtain ⟨j, b0, ⟨b1, b2, b3⟩, -⟩ := o.e.2.2 e he
  exact ⟨j, b0, b1, by rw [b3]⟩⟩
theorem O8.le (o : O8 A n m q t k c) : leP ((c, n, t, k), s) A := by
  obtain ⟨⟨-, -, -, hm, -⟩, hr, -⟩ := o.y
  refine ⟨⟨o.c0, o.y.1.2.1.2⟩, ⟨o.zeV, o.vt, o.vk⟩, jM_ti hm o.n.1 o.n.2, ⟨o.e.1, fun e he => ?_⟩, fun i hi => ?_⟩
  · obtain ⟨j, b0, ⟨b1, b2, b3⟩, c0, c1, c2, c3, c4, c5, c6⟩ := o.e.2.2 e he
    exact ⟨j, zI A 349 e, b0, b1, by rw [b3], c2, c6⟩
  · rw [o.tr i hi]
    have := hr i hi
    omega
theorem O8.mwr (o : O8 A n m q t k c) : mwr A n.toInt.toNat := fun e he => by
  obtain ⟨j, -, -, -, -, -, -, -, -, c6, c7⟩ := o.e.2.2 e (by omega)
  have := o.y.2.1 (zI A 349 e).toInt.toNat (by omega)
  omega
theorem O8.lm (o : O8 A n m q t k c) (g : agj S_R8 A' A) : lmmP ((c, n, t, k), s) A' := by
  refine ⟨⟨?_, o.y.1.2.1.2⟩, laP_m (jy_la o.y) g, mwr_m o.mwr (g.sub sN_R)⟩
  rw [g.1.1 343 1 (by decide) (by decide +kernel)]
  exact o.y.1.1.2.2.2
/-- the two's least cuts -/
theorem O8.lc (o : O8 A n m q t k c) {p i : Nat} {way : Int32} (hw : ∀ x, x < 4 → zJ A (p + 1) x = fwW A i way x) (g : agj S_N A' A) (hL : lwOK A' (zJ A' 354) (2 ^ n.toInt.toNat)) : lstF (zlcF (p, n, t, k) A) (costC A n.toInt.toNat) 4096 = lmV ((n, t, k), i, way) A' := by
  obtain ⟨⟨-, -, -, hm, hg⟩, hr, -⟩ := o.y
  have gM := g.sub sM_N
  have efw : ∀ x, fwW A' i way x = fwW A i way x := fun x => by
    unfold fwW
    rw [g.2 344 _ (by decide) (by decide +kernel)]
  refine lc_same (s := i) (way := way) o.n.1 o.n.2 ?_ hL (fun w hw2 => ?_) (fun w hw2 => ?_) (fun S hS => ?_)
  · rw [mvP_m gM]
    exact jv_eq o.e hg
  · unfold zouF outM zhW
    rw [hbB_b (by omega), hw (w / 64) (by omega), efw, Bool.not_eq_true', Bool.not_eq_true]
  · rw [jM_tr hm o.n.1 o.n.2 hw2]
    have es : seb A' w = seb A w := funext (fun e => by
      unfold seb
      rw [sew_m gM])
    unfold trN
    rw [es]
  · unfold costC costM
    have e1 : zcw A (Int32.ofNat S) n.toInt.toNat = zmw A (Int32.ofNat S) n.toInt.toNat := zcw_eq (fun e he => by
      obtain ⟨j, b0, ⟨b1, b2, b3⟩, c0, c1, c2, c3, c4, c5, c6⟩ := o.e.2.2 e (by omega)
      have es : zsr A e = zI A 349 e := by
        unfold zsr
        rw [b0]
        show iv (zF A j 2) = _
        rw [c2]
        rfl
      rw [es]
      exact o.tr _ (by omega))
    rw [e1, zmw_m g]
/-- there is one if a world is out -/
theorem O8.some (o : O8 A n m q t k c) {p i : Nat} {way : Int32} (hw : ∀ x, x < 4 → zJ A (p + 1) x = fwW A i way x) (g : agj S_N A' A) (hL : lwOK A' (zJ A' 354) (2 ^ n.toInt.toNat)) (ho : zaB (zJ A (p + 1)) 4 = false) : ∃ b, lmV ((n, t, k), i, way) A' = some b := by
  obtain ⟨w, w1, w2⟩ := all_out ho
  have hm := p2_le n.toInt.toNat (by have := o.n; omega)
  have efw : ∀ x, fwW A' i way x = fwW A i way x := fun x => by
    unfold fwW
    rw [g.2 344 _ (by decide) (by decide +kernel)]
  obtain ⟨T, t1, t2⟩ := cut_ex (out := outM A' i way) (tr := trN A' n.toInt.toNat) (view := vwN (mvP A' t k) n.toInt.toNat) w1 (by
    unfold outM
    rw [efw, ← hw (w / 64) (by omega)]
    exact w2)
  have hT : T < 2 ^ n.toInt.toNat := Nat.lt_of_le_of_lt t1 vwN_lt
  exact lstF_some hT ((icN_iff hL vwN_lt hT).mpr t2)
/-- least, on both sides -/
theorem O8.same (o : O8 A n m q t k c) (hl : leR ((c, n, t, k), s) A v A1) (g : agj S_R8 B0 A) (hm : lmR ((c, n, t, k), s) B0 v2 B1) : v = v2 ∧ ((v.toInt < 0 ∧ A1 = A ∧ B1 = B0) ∨ (0 ≤ v.toInt ∧ A1 = zcuW A (leq s) (zcuV (leq s, n, t, k) A) ∧ laQ (n, t, k) B0 B1)) := by
  have hwd : lePs c s → ∀ x, x < 4 → zJ A (leq s + 1) x = zsw A s.toInt.toNat x := fun hs x hx => o.w s.toInt.toNat (by have := hs.1; have := hs.2; omega) x hx
  have ez : ∀ x, zsw B0 s.toInt.toNat x = zsw A s.toInt.toNat x := fun x => g.2 344 _ (by decide) (by decide +kernel)
  have hall : lePs c s → (zaB (zJ A (leq s + 1)) 4 = true ↔ (szA (fun v => cbA v 64) (zsw B0 s.toInt.toNat) 4).toInt = 256) := fun hs => all_eq (fun x hx => by rw [ez, hwd hs x hx])
  rcases hl with ⟨h1, rfl, rfl⟩ | ⟨h1, h2, rfl, rfl⟩ | ⟨h1, h2, rfl, rfl⟩
  · rcases hm with ⟨k1, rfl, rfl⟩ | ⟨k1, k2, rfl, rfl⟩ | ⟨k1, k2, k3, rfl⟩
    · exact ⟨rfl, Or.inl ⟨by decide, rfl, rfl⟩⟩
    · exact absurd k1 h1
    · exact absurd k1 h1
  · rcases hm with ⟨k1, rfl, rfl⟩ | ⟨k1, k2, rfl, rfl⟩ | ⟨k1, k2, k3, rfl⟩
    · exact absurd h1 k1
    · exact ⟨rfl, Or.inl ⟨by decide, rfl, rfl⟩⟩
    · exact absurd ((hall h1).mp h2) k2
  · rcases hm with ⟨k1, rfl, rfl⟩ | ⟨k1, k2, rfl, rfl⟩ | ⟨k1, k2, k3, rfl⟩
    · exact absurd h1 k1
    · have h3 := (hall h1).mpr k2
      rw [h2] at h3
      cases h3
    · have hw : ∀ x, x < 4 → zJ A (leq s + 1) x = fwW A s.toInt.toNat (Int32.ofInt 0) x := fun x hx => by
        unfold fwW
        rw [if_pos (show (Int32.ofInt 0).toInt = 0 by decide)]
        exact hwd h1 x hx
      have gN : agj S_N B1 A := agj.tr (g.sub sN_R) (k3.1.sub sN_Y)
      have e1 := o.lc hw gN k3.2.2.1
      obtain ⟨b, hb⟩ := o.some hw gN k3.2.2.1 h2
      have hb4 : b < 4096 := by
        have h := (lstF_eq (p := fun S => icN B1 (vwN (mvP B1 t k) n.toInt.toNat) S s.toInt.toNat (Int32.ofInt 0) n.toInt.toNat) (p' := fun S => icN B1 (vwN (mvP B1 t k) n.toInt.toNat) S s.toInt.toNat (Int32.ofInt 0) n.toInt.toNat) (c := costM B1 n.toInt.toNat) (c' := costM B1 n.toInt.toNat) (n := 2 ^ n.toInt.toNat) (fun _ _ => rfl) (fun _ _ _ _ _ _ => Iff.rfl)).2 b hb
        have hm := p2_le n.toInt.toNat (by have := o.n; omega)
        omega
      have ev : zlcV (lecA ((c, n, t, k), s)) A = Int32.ofNat b := by
        show (encL (costC A n.toInt.toNat) (lstF (zlcF (leq s, n, t, k) A) (costC A n.toInt.toNat) 4096)).1 = _
        rw [e1, hb]
        rfl
      refine ⟨?_, Or.inr ⟨?_, rfl, k3⟩⟩
      · rw [ev]
        show _ = encM (lmV ((n, t, k), s.toInt.toNat, Int32.ofInt 0) B1)
        rw [hb]
        rfl
      · rw [ev, n32_t hb4]
        omega
end
theorem sY_x : ∀ (t : Nat), ¬ (t, 6) ∈ S_R8 := fun t h => by
  have h2 : ∀ x ∈ S_R8, x.2 ≠ 6 := by decide
  exact h2 _ h rfl
set_option maxRecDepth 20000 in
theorem pk8_least {B : Nat → Nat} : ∀ (w w1 w2 : lW) (rv1 rv2 : Option Value) (s : Int32), J8 B w → fLr r_X11_least [.ref (B 0), .int s] w rv1 w1 → fLr r_X12_least [.ref (B 343), .int s] w1 rv2 w2 → rv1 = rv2 := by
  intro w w1 w2 rv1 rv2 s hJ h1 h2
  have hb := hJ.1.1.1.b
  have hb1 : bI B w1 := hb.keep h1 (by decide)
  obtain ⟨tys, hw, -⟩ := h1.2.2.2.2.1
  obtain ⟨A, n, m, q, t, k, c, hA, o⟩ := hJ.o hw
  obtain ⟨A1, u1, hA1, hv1, v, e1, hR⟩ := zrun zc_X11_least h1 hA (zargs hb (by decide) (s := [.int s]) ⟨rfl, trivial⟩) (K := fun rv A' => ∃ v : Int32, rv = some (.int v) ∧ leR ((c, n, t, k), s) A v A') ⟨((c, n, t, k), s), rfl, o.le, fun _ _ h => h⟩
  have g : agj S_R8 A1 A := by
    rcases leR_J hR with rfl | ⟨p, V, rfl⟩
    · exact agj.rf
    · exact agj_cu (by decide)
  obtain ⟨A2, u2, hA2, hv2, v2, e2, hM⟩ := zrun zc_X12_least h2 hA1 (zargs hb1 (by decide) (s := [.int s]) ⟨rfl, trivial⟩) (K := fun rv A' => ∃ v : Int32, rv = some (.int v) ∧ lmR ((c, n, t, k), s) A1 v A') ⟨((c, n, t, k), s), rfl, o.lm g, fun _ _ h => h⟩
  obtain ⟨rfl, -⟩ := o.same hR g hM
  exact (zv_int hv1 e1).trans (zv_int hv2 e2).symm
/-! what is given up -/
theorem jE.ne {A : zW} {n : Int32} (h : jE A n) (h12 : n.toInt ≤ 12) {e i : Nat} (he : (e : Int) < n.toInt) (hi : (i : Int) < n.toInt) (hj : rv_ (zR A 195 e) = rv_ (zR A 195 i)) : e = i := by
  obtain ⟨j, b0, -, c0, -⟩ := h.2.2 e he
  obtain ⟨j', b0', -, c0', -⟩ := h.2.2 i hi
  rw [b0, b0'] at hj
  have hj : j = j' := hj
  subst hj
  rw [c0] at c0'
  injection c0' with z
  exact n32_i (by omega) (by omega) z
set_option maxRecDepth 20000 in
theorem zab_6 {A : zW} {n set : Int32} {v : Value} (hE : jE A n) (h12 : n.toInt ≤ 12) : ∀ {m : Nat}, (m : Int) ≤ n.toInt → ∀ e : Nat, (e : Int) < n.toInt → zF (zabF A set v m) (rv_ (zR A 195 e)) 6 = if e < m ∧ zbi set e = true then v else zF A (rv_ (zR A 195 e)) 6
  | 0, _, e, _ => by
    rw [if_neg (fun z => absurd z.1 (Nat.not_lt_zero e))]
    rfl
  | m + 1, hm, e, he => by
    have ih := zab_6 (A := A) (set := set) (v := v) hE h12 (m := m) (by omega) e he
    show zF (if zbi set m = true then zuF (zabF A set v m) (rv_ (zR A 195 m)) 6 v else zabF A set v m) (rv_ (zR A 195 e)) 6 = _
    by_cases hb : zbi set m = true
    · rw [if_pos hb, zuF_x]
      by_cases ej : e = m
      · rw [if_pos ⟨by rw [ej], rfl⟩, if_pos ⟨by omega, by rw [ej]; exact hb⟩]
      · rw [if_neg (fun z => ej (hE.ne h12 he (by omega) z.1)), ih]
        by_cases d : e < m ∧ zbi set e = true
        · rw [if_pos d, if_pos ⟨by omega, d.2⟩]
        · rw [if_neg d, if_neg (fun z => d ⟨by omega, z.2⟩)]
    · rw [if_neg hb, ih]
      by_cases d : e < m ∧ zbi set e = true
      · rw [if_pos d, if_pos ⟨by omega, d.2⟩]
      · rw [if_neg d, if_neg (fun z => by
          by_cases ej : e = m
          · rw [ej] at z
            exact hb z.2
          · exact d ⟨by omega, z.2⟩)]
/-- slots of both sides without what is given up -/
def S_Z : List (Nat × Nat) := S_M0 ++ [(29, 0), (28, 0), (46, 0)]
theorem sZ_Y : ∀ y ∈ S_Z, y ∈ S_Y := by decide +kernel
theorem sM_Z : ∀ y ∈ S_M0, y ∈ S_Z := by decide +kernel
theorem zov_F {A : zW} {q i : Nat} (h : ¬ (q = 343 ∧ (i = 19 ∨ i = 33 ∨ i = 55))) : zF (zov A) q i = zF A q i := by
  unfold zov
  rw [zuF_x, if_neg (fun z => h ⟨z.1, by omega⟩), zuF_x, if_neg (fun z => h ⟨z.1, by omega⟩), zuF_x, if_neg (fun z => h ⟨z.1, by omega⟩)]
theorem zov_19 {A : zW} : zF (zov A) 343 19 = .int (Int32.ofInt 0) := by
  unfold zov
  rw [zuF_x, if_neg (by decide), zuF_x, if_neg (by decide), zuF_x, if_pos ⟨rfl, rfl⟩]
/-- both sides' given up alike again -/
theorem jy_back {A C : zW} {n t k c : Int32} (hy : jyy A n t k c) (hF : ∀ i, i ≠ 19 → i ≠ 33 → i ≠ 55 → i ≠ 17 → i ≠ 20 → (17, i) ∈ S_Z → zF C 343 i = zF A 343 i) (h348 : ∀ e, zI C 348 e = zI A 348 e) (h344 : ∀ e, zJ C 344 e = zJ A 344 e) (h196 : ∀ e, zI C 196 e = zI A 196 e) (h345 : ∀ e, zI C 345 e = zI A 345 e) (h195 : ∀ e, zR C 195 e = zR A 195 e) (hN : zN A ≤ zN C) (hK : ∀ j, 385 ≤ j → j < zN A → zK A j = (4, 7) → zK C j = (4, 7)) (h6 : ∀ e : Nat, (e : Int) < n.toInt → zF C (rv_ (zR A 195 e)) 6 = .int (zI C 353 e)) (hr : ∀ e : Nat, (e : Int) < n.toInt → (zI C 353 e).toInt = -9 ∨ 0 ≤ (zI C 353 e).toInt) (hL : jLay C n t k) : jyy C n t k c := by
  obtain ⟨⟨⟨⟨a1, a0⟩, a2, a3, a4⟩, b, hs, hm, hg⟩, ht, -⟩ := hy
  have esw : ∀ e x, sew C e x = sew A e x := fun e x => by
    unfold sew ses
    rw [h348, h344]
  refine ⟨⟨⟨⟨(hF 8 (by decide) (by decide) (by decide) (by decide) (by decide) (by decide)).trans a1, a0⟩, (hF 15 (by decide) (by decide) (by decide) (by decide) (by decide) (by decide)).trans a2, (hF 16 (by decide) (by decide) (by decide) (by decide) (by decide) (by decide)).trans a3, (hF 1 (by decide) (by decide) (by decide) (by decide) (by decide) (by decide)).trans a4⟩, b, fun e he => ?_, fun w hw => ?_, fun e he => ?_⟩, fun i hi => ?_, hL⟩
  · rw [h348]
    exact hs e he
  · have es : seb C w = seb A w := funext (fun e => by
      unfold seb
      rw [esw])
    unfold trN
    rw [h196, es]
    exact hm w hw
  · obtain ⟨⟨j, b0, ⟨b1, b2, b3⟩, b4⟩, -⟩ := hg e he
    have h := h6 e he
    rw [b0] at h
    rw [h195]
    exact ⟨⟨j, b0, ⟨b1, by omega, hK j b1 b2 b3⟩, h⟩, hr e he⟩
  · rw [h345]
    exact ht i hi
/-- laid rows stay right as long as sentences do -/
theorem jLay_off {A C : zW} {n t k : Int32} (h : ∃ l : Int32, zF A 343 17 = .int l ∧ (¬ l.toInt = 0 → lwOK A (zJ A 354) (2 ^ n.toInt.toNat))) (h17 : zF C 343 17 = zF A 343 17) (h354 : ∀ e, zJ C 354 e = zJ A 354 e) (h348 : ∀ e, zI C 348 e = zI A 348 e) (h344 : ∀ e, zJ C 344 e = zJ A 344 e) (h19 : zF C 343 19 = .int (Int32.ofInt 0)) : jLay C n t k := by
  obtain ⟨l, h1, h2⟩ := h
  refine ⟨⟨l, h17.trans h1, fun z S hS q hq i hi => ?_⟩, Int32.ofInt 0, h19, fun z => absurd (by decide) z⟩
  have esw : ∀ e x, sew C e x = sew A e x := fun e x => by
    unfold sew ses
    rw [h348, h344]
  rw [h354, h2 z S hS q hq i hi]
  constructor
  · intro y e he
    rw [esw]
    exact y e he
  · intro y e he
    rw [← esw]
    exact y e he
set_option maxRecDepth 20000 in
theorem pk8_giveUp {B : Nat → Nat} : ∀ (w w1 w2 : lW) (rv1 rv2 : Option Value) (s : Int32), J8 B w → fLr r_X11_giveUp [.ref (B 0), .int s] w rv1 w1 → fLr r_X12_giveUp [.ref (B 343), .int s] w1 rv2 w2 → rv1 = rv2 ∧ j8 w2 := by
  intro w w1 w2 rv1 rv2 s hJ h1 h2
  have hb := hJ.1.1.1.b
  have hb1 : bI B w1 := hb.keep h1 (by decide)
  obtain ⟨tys, hw, -⟩ := h1.2.2.2.2.1
  obtain ⟨A, n, m, q, t, k, c, hA, o⟩ := hJ.o hw
  obtain ⟨A1, u1, hA1, hv1, v, e1, A0, hR, eA1⟩ := zrun zc_X11_giveUp h1 hA (zargs hb (by decide) (s := [.int s]) ⟨rfl, trivial⟩) (K := fun rv A' => ∃ v : Int32, rv = some (.int v) ∧ guR ((c, n, t, k), s) A v A') ⟨((c, n, t, k), s), rfl, o.le, fun _ _ h => h⟩
  have eA1 : A1 = if 0 < v.toInt then zabF A0 v (zF A0 193 3) n.toInt.toNat else A0 := eA1
  have g0 : agj S_R8 A0 A := by
    rcases leR_J hR with rfl | ⟨p, V, rfl⟩
    · exact agj.rf
    · exact agj_cu (by decide)
  have e0R : ∀ e, zR A0 195 e = zR A 195 e := fun e => by
    rcases leR_J hR with rfl | ⟨p, V, rfl⟩ <;> rfl
  have h385 : ∀ i, i < n.toInt.toNat → 385 ≤ rv_ (zR A0 195 i) := fun i hi => by
    obtain ⟨j, b0, b1, -⟩ := o.zeV.2 i (by omega)
    rw [e0R, b0]
    exact b1
  have g : agj S_R8 A1 A := by
    rw [eA1]
    split
    · exact g0.tr (agj_ab sY_x h385)
    · exact g0
  obtain ⟨A2, u2, hA2, hv2, v2, e2, B1, hM, eA2⟩ := zrun zc_X12_giveUp h2 hA1 (zargs hb1 (by decide) (s := [.int s]) ⟨rfl, trivial⟩) (K := fun rv A' => ∃ v : Int32, rv = some (.int v) ∧ gmR ((c, n, t, k), s) A1 v A') ⟨((c, n, t, k), s), rfl, o.lm g, fun _ _ h => h⟩
  have eA2 : A2 = if v2.toInt < 0 then B1 else zov (zgF B1 v2 k n.toInt.toNat) := eA2
  obtain ⟨rfl, hc⟩ := o.same hR g hM
  refine ⟨(zv_int hv1 e1).trans (zv_int hv2 e2).symm, A2, hA2, ?_⟩
  rcases hc with ⟨v0, rfl, rfl⟩ | ⟨v0, a0, hq⟩
  · rw [if_neg (by omega)] at eA1
    rw [if_pos v0] at eA2
    rw [eA2, eA1]
    exact ⟨n, t, k, c, o.y⟩
  · rw [if_neg (by omega)] at eA2
    have h12 := o.n.2
    obtain ⟨gq, hla, -⟩ := hq
    obtain ⟨z1, z2, z3, z4, z5, z6, z7⟩ := zgF_k (A := B1) (set := v) (k := k) (e := n.toInt.toNat)
    -- what the class has given up
    have c6 : ∀ e : Nat, (e : Int) < n.toInt → zF A1 (rv_ (zR A 195 e)) 6 = if zbi v e = true then .int k else zF A (rv_ (zR A 195 e)) 6 := fun e he => by
      have hEz : jE A0 n := by
        rw [a0]
        exact o.e
      have f0 : ∀ q i, zF A0 q i = zF A q i := fun q i => by rw [a0]; rfl
      rw [eA1]
      by_cases hp : 0 < v.toInt
      · rw [if_pos hp]
        have h := zab_6 (set := v) (v := zF A0 193 3) hEz h12 (m := n.toInt.toNat) (by omega) e he
        rw [e0R, f0, f0, o.vk] at h
        rw [f0, o.vk, h]
        by_cases d : zbi v e = true
        · rw [if_pos ⟨by omega, d⟩, if_pos d]
        · rw [if_neg (fun z => d z.2), if_neg d]
      · rw [if_neg hp, f0]
        have ev : v = Int32.ofNat 0 := Int32.toInt_inj.mp (by
          rw [n32_t (by decide)]
          omega)
        rw [if_neg (by rw [ev, n32_zbi (by omega), Nat.zero_testBit]; exact Bool.false_ne_true)]
    have gZ : agj S_Z A1 A := by
      rw [eA1]
      have ga : agj S_Z A0 A := by
        rw [a0]
        exact agj_cu (by decide)
      have sx : ∀ (t : Nat), ¬ (t, 6) ∈ S_Z := fun t h => by
        have h2 : ∀ x ∈ S_Z, x.2 ≠ 6 := by decide
        exact h2 _ h rfl
      split
      · exact ga.tr (agj_ab sx h385)
      · exact ga
    have gB : agj S_Z B1 A := gZ.tr (gq.sub sZ_Y)
    have hN1 : zN A ≤ zN A1 := g.1.2.2.1
    have hN2 : zN A1 ≤ zN B1 := gq.1.2.2.1
    have i353 : ∀ e : Nat, zI B1 353 e = zI A 353 e := fun e => (gB.1.2.1 353 e (by decide) (by decide +kernel)).1
    rw [eA2]
    refine ⟨n, t, k, c, jy_back o.y (fun i h1 h2 h3 h4 h5 hm => ?_) (fun e => ?_) (fun e => ?_) (fun e => ?_) (fun e => ?_) (fun e => ?_) ?_ (fun j j1 j2 j3 => ?_) (fun e he => ?_) (fun e he => ?_) ?_⟩
    · rw [zov_F (by omega), z3]
      exact gB.1.1 343 i (by decide) (by rw [show zn lp_sh 343 = 17 by decide +kernel]; exact hm)
    · show zI (zgF B1 v k n.toInt.toNat) 348 e = _
      rw [z2 348 e (by decide)]
      exact (gB.1.2.1 348 e (by decide) (by decide +kernel)).1
    · show zJ (zgF B1 v k n.toInt.toNat) 344 e = _
      rw [z5]
      exact gB.2 344 e (by decide) (by decide +kernel)
    · show zI (zgF B1 v k n.toInt.toNat) 196 e = _
      rw [z2 196 e (by decide)]
      exact (gB.1.2.1 196 e (by decide) (by decide +kernel)).1
    · show zI (zgF B1 v k n.toInt.toNat) 345 e = _
      rw [z2 345 e (by decide)]
      exact (gB.1.2.1 345 e (by decide) (by decide +kernel)).1
    · show zR (zgF B1 v k n.toInt.toNat) 195 e = _
      rw [z4]
      exact (gB.1.2.1 195 e (by decide) (by decide +kernel)).2
    · show zN A ≤ zN (zgF B1 v k n.toInt.toNat)
      rw [z7]
      omega
    · show zK (zgF B1 v k n.toInt.toNat) j = _
      rw [z6]
      exact (gB.1.2.2.2 j 4 7 j1 j2 j3).1
    · obtain ⟨⟨j, b0, ⟨b1, b2, b3⟩, b4⟩, -⟩ := o.y.1.2.2.2.2 e he
      have h := c6 e he
      rw [b0] at h ⊢
      have hK1 : zK A1 j = (4, 7) := (gZ.1.2.2.2 j 4 7 b1 b2 b3).1
      rw [zov_F (by
        rintro ⟨z, -⟩
        have z : j = 343 := z
        omega), z3]
      show zF B1 j 6 = .int (zI (zgF B1 v k n.toInt.toNat) 353 e)
      rw [(gq.1.2.2.2 j 4 7 b1 (by omega) hK1).2 6 (by decide), z1, i353]
      have h : zF A1 j 6 = if zbi v e = true then .int k else zF A j 6 := h
      rw [h, b4]
      by_cases d : zbi v e = true
      · rw [if_pos d, if_pos ⟨by omega, d⟩]
      · rw [if_neg d, if_neg (fun z => d z.2)]
    · show (zI (zgF B1 v k n.toInt.toNat) 353 e).toInt = -9 ∨ 0 ≤ (zI (zgF B1 v k n.toInt.toNat) 353 e).toInt
      rw [z1, i353]
      split
      · exact Or.inr o.y.1.2.1.1
      · exact (o.y.1.2.2.2.2 e he).2
    · refine jLay_off hla.2.2.2.1 ?_ (fun e => ?_) (fun e => ?_) (fun e => ?_) zov_19
      · rw [zov_F (by omega), z3]
      · exact z5 354 e
      · exact z2 348 e (by decide)
      · exact z5 344 e
/-! drop -/
set_option maxRecDepth 20000 in
theorem pk8_drop {B : Nat → Nat} : ∀ (w w1 w2 : lW) (rv1 rv2 : Option Value) (e u : Int32), J8 B w → fLr r_X11_drop [.ref (B 0), .int e, .int u] w rv1 w1 → fLr r_X12_drop [.ref (B 343), .int e, .int u] w1 rv2 w2 → rv1 = rv2 ∧ j8 w2 := by
  intro w w1 w2 rv1 rv2 e u hJ h1 h2
  have hb := hJ.1.1.1.b
  have hb1 : bI B w1 := hb.keep h1 (by decide)
  obtain ⟨tys, hw, -⟩ := h1.2.2.2.2.1
  obtain ⟨A, n, m, q, t, k, c, hA, o⟩ := hJ.o hw
  obtain ⟨A1, u1, hA1, hv1, hQ1⟩ := zrun zc_X11_drop h1 hA (zargs hb (by decide) (s := [.int e, .int u]) ⟨rfl, rfl, trivial⟩) (K := drQ n e u (zF A (rv_ (zR A 195 e.toInt.toNat)) 6) (zuF A (rv_ (zR A 195 e.toInt.toNat)) 6 (.int u)) A) ⟨(n, e, u), rfl, o.zeV, fun _ _ h => h⟩
  have hpre : zF A1 343 8 = .int n ∧ 0 ≤ n.toInt ∧ n.toInt ≤ 12 := by
    rcases hQ1 with ⟨-, -, rfl⟩ | ⟨-, -, -, rfl⟩ | ⟨d1, -, -, rfl⟩
    · exact o.y.1.1.1
    · exact o.y.1.1.1
    · obtain ⟨j, b0, b1, -⟩ := o.zeV.2 e.toInt.toNat (by have := d1.1; have := d1.2; omega)
      refine ⟨?_, o.n⟩
      rw [b0]
      show zF (zuF A j 6 (.int u)) 343 8 = _
      rw [zuF_ne (by omega)]
      exact o.y.1.1.1.1
  obtain ⟨A2, u2, hA2, hv2, hQ2⟩ := zrun zc_X12_drop h2 hA1 (zargs hb1 (by decide) (s := [.int e, .int u]) ⟨rfl, rfl, trivial⟩) (K := drQ n e u (.int (zI A1 353 e.toInt.toNat)) (zov (zuI A1 353 e.toInt.toNat u)) A1) ⟨(n, e, u), rfl, hpre, fun _ _ h => h⟩
  rcases hQ1 with ⟨d1, e1, rfl⟩ | ⟨d1, d2, e1, rfl⟩ | ⟨d1, d2, e1, eA1⟩
  · rcases hQ2 with ⟨k1, e3, rfl⟩ | ⟨k1, k2, e3, rfl⟩ | ⟨k1, k2, e3, eA2⟩
    · exact ⟨(zv_int hv1 e1).trans (zv_int hv2 e3).symm, _, hA2, n, t, k, c, o.y⟩
    · exact absurd k1 d1
    · exact absurd k1 d1
  · rcases hQ2 with ⟨k1, e3, rfl⟩ | ⟨k1, k2, e3, rfl⟩ | ⟨k1, k2, e3, eA2⟩
    · exact absurd d1 k1
    · exact ⟨(zv_int hv1 e1).trans (zv_int hv2 e3).symm, _, hA2, n, t, k, c, o.y⟩
    · exact absurd k2 d2
  · rcases hQ2 with ⟨k1, e3, rfl⟩ | ⟨k1, k2, e3, rfl⟩ | ⟨k1, k2, e3, eA2⟩
    · exact absurd d1 k1
    · exact absurd d2 k2
    · have he : (e.toInt.toNat : Int) < n.toInt := by have := d1.1; have := d1.2; omega
      have h12 := o.n.2
      obtain ⟨⟨j, b0, ⟨b1, b2, b3⟩, b4⟩, -⟩ := o.y.1.2.2.2.2 e.toInt.toNat he
      have ei : zI A1 353 e.toInt.toNat = zI A 353 e.toInt.toNat := by rw [eA1]; rfl
      have ej : rv_ (zR A 195 e.toInt.toNat) = j := by rw [b0]; rfl
      rw [ej] at e1 eA1
      rw [b4] at e1
      rw [ei] at e3
      refine ⟨(zv_int hv1 e1).trans (zv_int hv2 e3).symm, A2, hA2, n, t, k, c, ?_⟩
      have f343 : ∀ i, zF A1 343 i = zF A 343 i := fun i => by
        rw [eA1]
        exact zuF_ne (by omega)
      rw [eA2]
      refine jy_back o.y (fun i h1 h2 h3 h4 h5 hm => ?_) (fun x => ?_) (fun x => ?_) (fun x => ?_) (fun x => ?_) (fun x => ?_) ?_ (fun j j1 j2 j3 => ?_) (fun x hx => ?_) (fun x hx => ?_) ?_
      · rw [zov_F (by omega)]
        exact f343 i
      · show zI (zuI A1 353 e.toInt.toNat u) 348 x = _
        rw [zuI_ne (by decide), eA1]
        rfl
      · show zJ A1 344 x = _
        rw [eA1]
        rfl
      · show zI (zuI A1 353 e.toInt.toNat u) 196 x = _
        rw [zuI_ne (by decide), eA1]
        rfl
      · show zI (zuI A1 353 e.toInt.toNat u) 345 x = _
        rw [zuI_ne (by decide), eA1]
        rfl
      · show zR A1 195 x = _
        rw [eA1]
        rfl
      · show zN A ≤ zN A1
        rw [eA1]
        exact Nat.le_refl _
      · show zK A1 j = _
        rw [eA1]
        exact j3
      · obtain ⟨⟨j2, c0, ⟨c1, c2, c3⟩, c4⟩, -⟩ := o.y.1.2.2.2.2 x hx
        have hj2 : rv_ (zR A 195 x) = j2 := by rw [c0]; rfl
        rw [hj2, zov_F (by
          rintro ⟨z, -⟩
          omega)]
        show zF A1 j2 6 = .int (zI (zuI A1 353 e.toInt.toNat u) 353 x)
        rw [zuI_x, eA1, zuF_x]
        by_cases d : x = e.toInt.toNat
        · have hjj : j2 = j := by rw [← hj2, ← ej, d]
          rw [if_pos ⟨hjj, rfl⟩, if_pos ⟨rfl, d⟩]
        · rw [if_neg (fun z => d (o.e.ne h12 hx he (by rw [hj2, ej]; exact z.1))), if_neg (fun z => d z.2)]
          exact c4
      · show (zI (zuI A1 353 e.toInt.toNat u) 353 x).toInt = -9 ∨ 0 ≤ (zI (zuI A1 353 e.toInt.toNat u) 353 x).toInt
        rw [zuI_x]
        by_cases d : x = e.toInt.toNat
        · rw [if_pos ⟨rfl, d⟩]
          rcases d2 with z | z
          · exact Or.inl z
          · exact Or.inr z.1
        · rw [if_neg (fun z => d z.2), eA1]
          exact (o.y.1.2.2.2.2 x hx).2
      · refine jLay_off o.y.2.2.1 ?_ (fun x => ?_) (fun x => ?_) (fun x => ?_) zov_19
        · rw [zov_F (by omega)]
          exact f343 17
        · show zJ A1 354 x = _
          rw [eA1]
          rfl
        · show zI (zuI A1 353 e.toInt.toNat u) 348 x = _
          rw [zuI_ne (by decide), eA1]
          rfl
        · show zJ A1 344 x = _
          rw [eA1]
          rfl
/-! view -/
set_option maxRecDepth 20000 in
theorem pk8_view {B : Nat → Nat} : ∀ (w w1 w2 : lW) (rv1 rv2 : Option Value) (t' k' : Int32), J8 B w → fLr r_X11_view [.ref (B 0), .int t', .int k'] w rv1 w1 → fLr r_X12_view [.ref (B 343), .int t', .int k'] w1 rv2 w2 → rv1 = rv2 ∧ j8 w2 := by
  intro w w1 w2 rv1 rv2 t' k' hJ h1 h2
  have hb := hJ.1.1.1.b
  have hb1 : bI B w1 := hb.keep h1 (by decide)
  obtain ⟨tys, hw, -⟩ := h1.2.2.2.2.1
  obtain ⟨A, n, m, q, t, k, c, hA, o⟩ := hJ.o hw
  obtain ⟨A1, u1, hA1, hv1, hQ1⟩ := zrun zc_X11_view h1 hA (zargs hb (by decide) (s := [.int t', .int k']) ⟨rfl, rfl, trivial⟩) (K := vwQc (n, t', k') A) ⟨(n, t', k'), rfl, o.zeV, fun _ _ h => h⟩
  have gC : agj S_8 (vwC A t' k') A := agj.tr (agj.nF (by decide) (by decide +kernel)) (agj.nF (by decide) (by decide +kernel))
  have hyC : jyy (vwC A t' k') n t k c := ⟨o.y.1.ag (gC.sub sB_8), o.y.2.1.ag gC, o.y.2.2.ag gC⟩
  have hpm : ∀ C : zW, jyy C n t k c → vwPm (n, t', k') C := fun C hy => ⟨(jy_la hy).1, (jy_la hy).2.1, (jy_la hy).2.2.2.1⟩
  have hpre : vwPm (n, t', k') A1 := by
    rcases hQ1 with ⟨-, -, rfl⟩ | ⟨-, -, rfl⟩
    · exact hpm _ o.y
    · exact hpm _ hyC
  obtain ⟨A2, u2, hA2, hv2, hQ2⟩ := zrun zc_X12_view h2 hA1 (zargs hb1 (by decide) (s := [.int t', .int k']) ⟨rfl, rfl, trivial⟩) (K := vwQm (n, t', k') A1) ⟨(n, t', k'), rfl, hpre, fun _ _ h => h⟩
  rcases hQ1 with ⟨d1, e1, rfl⟩ | ⟨d1, e1, eA1⟩
  · rcases hQ2 with ⟨k1, e3, rfl⟩ | ⟨k1, k2, e3⟩
    · exact ⟨(zv_int hv1 e1).trans (zv_int hv2 e3).symm, _, hA2, n, t, k, c, o.y⟩
    · exact absurd k1 d1
  · rcases hQ2 with ⟨k1, e3, rfl⟩ | ⟨k1, k2, e3⟩
    · exact absurd d1 k1
    · have k2 : laQ (n, t', k') (vwM A1 t' k') A2 := k2
      have e1 : u1 = some (.int (icV (Int32.ofNat (vwN (cvP (vwC A t' k') t' k') n.toInt.toNat)))) := e1
      have e3 : u2 = some (.int (cbA (Int32.ofNat (vwN (mvP A2 t' k') n.toInt.toNat)).toInt64 64)) := e3
      have eA1 : A1 = vwC A t' k' := eA1
      obtain ⟨gq, hla, -⟩ := k2
      have i0 : ∀ q i, zI (vwM A1 t' k') q i = zI A q i := fun q i => by rw [eA1]; rfl
      have eP : mvP A2 t' k' = mvP A t' k' := by
        rw [mvP_ag gq]
        funext e
        unfold mvP
        rw [i0, i0, i0, i0]
      have eC : vwN (cvP (vwC A t' k') t' k') n.toInt.toNat = vwN (cvP A t' k') n.toInt.toNat := vwN_eq (fun e he => by
        obtain ⟨j, b0, b1, -⟩ := o.zeV.2 e (by omega)
        have hj : rv_ (zR A 195 e) ≠ 193 := by
          rw [b0]
          show j ≠ 193
          omega
        unfold cvP
        show decide ((iv (zF (vwC A t' k') (rv_ (zR A 195 e)) 3)).toInt ≤ t'.toInt ∧ t'.toInt ≤ (iv (zF (vwC A t' k') (rv_ (zR A 195 e)) 4)).toInt ∧ (iv (zF (vwC A t' k') (rv_ (zR A 195 e)) 5)).toInt ≤ k'.toInt ∧ ((iv (zF (vwC A t' k') (rv_ (zR A 195 e)) 6)).toInt = -9 ∨ k'.toInt < (iv (zF (vwC A t' k') (rv_ (zR A 195 e)) 6)).toInt)) = _
        have hf : ∀ i, zF (vwC A t' k') (rv_ (zR A 195 e)) i = zF A (rv_ (zR A 195 e)) i := fun i => by
          unfold vwC
          rw [zuF_ne hj, zuF_ne hj]
        rw [hf, hf, hf, hf])
      have eV : vwN (cvP A t' k') n.toInt.toNat = vwN (mvP A t' k') n.toInt.toNat := jv_eq o.e o.y.1.2.2.2.2
      have hlt : vwN (mvP A t' k') n.toInt.toNat < 4096 := Nat.lt_of_lt_of_le vwN_lt (p2_le _ (by have := o.n; omega))
      rw [eC, eV, ic_cb hlt] at e1
      rw [eP] at e3
      refine ⟨(zv_int hv1 e1).trans (zv_int hv2 e3).symm, A2, hA2, n, t', k', c, ?_⟩
      have hyM : jyb (vwM A1 t' k') n t' k' c := by
        have hl := vwM_la (hpm A1 (by rw [eA1]; exact hyC))
        obtain ⟨⟨⟨⟨a1, a0⟩, a2, a3, a4⟩, b, hs, hm, hg⟩, -⟩ := hyC
        refine ⟨⟨hl.1, hl.2.2.1.1, hl.2.2.1.2, ?_⟩, ⟨d1.2.1, b.2⟩, ?_, ?_, ?_⟩
        · rw [vwM_F (by omega), eA1]
          exact a4
        · rw [eA1]
          exact hs
        · rw [eA1]
          exact hm
        · rw [eA1]
          intro e he
          obtain ⟨⟨j, b0, b1, b4⟩, h2⟩ := hg e he
          refine ⟨⟨j, b0, b1, ?_⟩, h2⟩
          rw [vwM_F (by
            rintro ⟨z, -⟩
            omega)]
          exact b4
      refine ⟨hyM.ag (gq.sub sB_Y), fun i hi => ?_, hla.2.2.2⟩
      rw [(gq.1.2.1 345 i (by decide) (by decide +kernel)).1, i0]
      exact o.y.2.1 i hi
