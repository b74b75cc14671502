/-! trust -/
set_option maxRecDepth 20000 in
theorem pk8_trust {B : Nat → Nat} : ∀ (w w1 w2 : lW) (rv1 rv2 : Option Value) (u x : Int32), J8 B w → fLr r_X11_trust [.ref (B 0), .int u, .int x] w rv1 w1 → fLr r_X12_trust [.ref (B 343), .int u, .int x] w1 rv2 w2 → j8 w2 := by
  intro w w1 w2 rv1 rv2 u x hJ h1 h2
  have hb := hJ.1.1.1.b
  have hb1 : bI B w1 := hb.keep h1 (by decide)
  obtain ⟨A, hA, n, t, k, c, hy⟩ := kp8 h1 hJ.2 (by decide) (by decide +kernel)
  obtain ⟨A2, u2, hA2, hv2, hQ2⟩ := zrun za_X12_trust h2 hA (zargs hb1 (by decide) (s := [.int u, .int x]) ⟨rfl, rfl, trivial⟩) (K := fun rv A' => zhdQ (ztrV u x) (zI A 345 u.toInt.toNat) (ztr_H u x A) A rv A') ⟨(u, x), rfl, trivial, fun _ _ h => h⟩
  unfold zhdQ at hQ2
  cases hV : ztrV u x with
  | some v =>
    rw [hV] at hQ2
    obtain ⟨-, e4⟩ := hQ2
    refine ⟨A2, hA2, ?_⟩
    rw [e4]
    exact ⟨n, t, k, c, hy⟩
  | none =>
    rw [hV] at hQ2
    obtain ⟨-, e4⟩ := hQ2
    have e4 : A2 = zuF (zov (zuI A 345 u.toInt.toNat x)) 343 43 (.int (Int32.ofInt 0)) := e4
    obtain ⟨hu, hx⟩ := ztr_g hV
    have gB : agj S_B A2 A := by
      rw [e4]
      exact agj.tr (agj.tr (agj.nI (by decide) (by decide +kernel)) (agj_ov (by decide))) (agj.nF (by decide) (by decide +kernel))
    have f2 : ∀ i, i ≠ 43 → zF A2 343 i = zF (zov A) 343 i := fun i hi => by
      rw [e4, zuF_x, if_neg (fun z => hi z.2)]
      rfl
    refine ⟨A2, hA2, n, t, k, c, hy.1.ag gB, fun i hi => ?_, jLay_off hy.2.2.1 ?_ (fun e => ?_) (ses_b gB) (fun e => ?_) ?_⟩
    · rw [e4]
      show 1 ≤ (zI (zuI A 345 u.toInt.toNat x) 345 i).toInt ∧ (zI (zuI A 345 u.toInt.toNat x) 345 i).toInt ≤ 9
      rw [zuI_x]
      split
      · exact hx
      · exact hy.2.1 i hi
    · rw [f2 17 (by decide), zov_F (by omega)]
    · rw [e4]
      rfl
    · rw [e4]
      rfl
    · rw [f2 19 (by decide)]
      exact zov_19
/-! a sentence more -/
def S_W : List (Nat × Nat) := [(17, 8), (17, 15), (17, 16), (49, 0), (51, 0), (52, 0), (53, 0), (54, 0), (29, 0), (28, 0), (7, 6), (46, 0), (17, 17), (17, 19), (17, 20), (55, 0)]
theorem jyy_more {A A' : zW} {n t k c c' : Int32} (hy : jyy A n t k c) (g : agj S_W A' A) (hc : zF A' 343 1 = .int c') (h1 : c.toInt ≤ c'.toInt) (h2 : c'.toInt ≤ 60) (hJ : ∀ i, i < 4 * c.toInt.toNat → zJ A' 344 i = zJ A 344 i) : jyy A' n t k c' := by
  obtain ⟨⟨⟨⟨a1, a0⟩, a2, a3, a4⟩, b, hs, hm, hg⟩, ht, ⟨l, l1, l2⟩, v, v1, v2⟩ := hy
  have F : ∀ q i, q < 385 → (zn lp_sh q, i) ∈ S_W → zF A' q i = zF A q i := g.1.1
  have I : ∀ q i, q < 385 → (zn lp_sh q, 0) ∈ S_W → zI A' q i = zI A q i := fun q i a b => (g.1.2.1 q i a b).1
  have i348 : ∀ e, zI A' 348 e = zI A 348 e := fun e => I 348 e (by decide) (by decide +kernel)
  have esw : ∀ e : Nat, (e : Int) < n.toInt → ∀ x, x < 4 → sew A' e x = sew A e x := fun e he x hx => by
    have h := hs e he
    unfold sew ses
    rw [i348, hJ _ (by omega)]
  have emv : mvP A' t k = mvP A t k := funext (fun e => by
    unfold mvP
    rw [I 350 e (by decide) (by decide +kernel), I 351 e (by decide) (by decide +kernel), I 352 e (by decide) (by decide +kernel), I 353 e (by decide) (by decide +kernel)])
  have eJ : zJ A' 354 = zJ A 354 := funext (fun i => g.2 354 i (by decide) (by decide +kernel))
  have hN := g.1.2.2.1
  refine ⟨⟨⟨⟨(F 343 8 (by decide) (by decide +kernel)).trans a1, a0⟩, (F 343 15 (by decide) (by decide +kernel)).trans a2, (F 343 16 (by decide) (by decide +kernel)).trans a3, hc⟩, ⟨b.1, h2⟩, fun e he => ?_, fun w hw => ?_, fun e he => ?_⟩, fun i hi => ?_, ⟨l, (F 343 17 (by decide) (by decide +kernel)).trans l1, fun z S hS q hq i hi => ?_⟩, v, (F 343 19 (by decide) (by decide +kernel)).trans v1, fun z => ?_⟩
  · rw [i348]
    have h := hs e he
    omega
  · unfold trN
    rw [I 196 w (by decide) (by decide +kernel), hm w hw]
    unfold trN
    refine congrArg Int32.ofNat (vwN_eq (fun e he => ?_))
    unfold seb
    rw [esw e (by omega) _ (by omega)]
  · obtain ⟨⟨j, b0, ⟨b1, b2, b3⟩, b4⟩, h2⟩ := hg e he
    obtain ⟨d1, d2⟩ := g.1.2.2.2 j 4 7 b1 b2 b3
    rw [(g.1.2.1 195 e (by decide) (by decide +kernel)).2, I 353 e (by decide) (by decide +kernel)]
    exact ⟨⟨j, b0, ⟨b1, by omega, d1⟩, (d2 6 (by decide)).trans b4⟩, h2⟩
  · rw [I 345 i (by decide) (by decide +kernel)]
    exact ht i hi
  · have hlt : ∀ e, S.testBit e = true → (e : Int) < n.toInt := fun e he => by
      have h : e < n.toInt.toNat := Nat.lt_of_not_le (fun z => by
        rw [Nat.testBit_lt_two_pow (Nat.lt_of_lt_of_le hS (Nat.pow_le_pow_right (by decide) z))] at he
        cases he)
      omega
    rw [eJ, l2 z S hS q hq i hi]
    constructor
    · intro y e he
      rw [esw e (hlt e he) q hq]
      exact y e he
    · intro y e he
      rw [← esw e (hlt e he) q hq]
      exact y e he
  · rw [emv]
    exact (F 343 20 (by decide) (by decide +kernel)).trans (v2 z)
/-- out of what the reference's sentences have come to -/
theorem j8_more {B : Nat → Nat} {w w1 w2 : lW} {rt1 rt2 : Nat} {Wr1 Wr2 : List (Nat × Nat)} {T1 T2 : fT} {cc1 cc2 : ByteArray} {As1 As2 : List Value} {rv1 rv2 : Option Value} {c0 c2 : Int32} {g g2 : Nat → Int64} (hJ : J8 B w) (h1 : fLr (fq cw_TT cw_SG rt1 Wr1 T1 cc1) As1 w rv1 w1) (h2 : fLr (fq cw_TT cw_SG rt2 Wr2 T2 cc2) As2 w1 rv2 w2) (k1 : bs_K.all (fun x => !(Wr1.contains x)) = true) (k2 : bs_K.all (fun x => !(Wr2.contains x)) = true) (a1 : nW S_8 Wr1 = true) (a2 : nW S_W Wr2 = true) (hc : oF B 343 12 1 (.int c0) w1) (hg : aJ B 344 240 g w1) (hc2 : oF B 343 12 1 (.int c2) w2) (hg2 : aJ B 344 240 g2 w2) (hle : c0.toInt ≤ c2.toInt) (h60 : c2.toInt ≤ 60) (hgg : ∀ u, u < 4 * c0.toInt.toNat → g2 u = g u) : j8 w2 := by
  have hb := hJ.1.1.1.b
  have hb1 : bI B w1 := hb.keep h1 k1
  have hb2 : bI B w2 := hb1.keep h2 k2
  obtain ⟨A, hA, n, t, k, c, hy⟩ := kp8 h1 hJ.2 k1 a1
  obtain ⟨X, hN, hA2⟩ := z_fr h2 hA k2
  have e1 := zo_F hA hb1 (by decide) (by decide +kernel) hc
  have ec : c = c0 := by
    have h := hy.1.1.2.2.2
    rw [e1] at h
    injection h with z
    exact z.symm
  subst ec
  refine ⟨_, hA2, n, t, k, c2, jyy_more hy (agj.hv a2 hN) (zo_F hA2 hb2 (by decide) (by decide +kernel) hc2) hle h60 (fun i hi => ?_)⟩
  rw [za_J hA2 hb2 (by decide) hg2 i, za_J hA hb1 (by decide) hg i]
  exact hgg i hi
set_option maxRecDepth 20000 in
theorem pk8_read {B : Nat → Nat} : ∀ (w w1 w2 : lW) (rv1 rv2 : Option Value) (k lane i n : Int32), J8 B w → fLr r_X11_read [.ref (B 0), .int k, .int lane, .int i, .int n] w rv1 w1 → fLr r_X12_read [.ref (B 343), .int k, .int lane, .int i, .int n] w1 rv2 w2 → j8 w2 := by
  intro w w1 w2 rv1 rv2 k lane i n hJ h1 h2
  have hJ8 := hJ
  have hJ := hJ8.1.1
  have e6 := pk6_read w w1 w2 rv1 rv2 k lane i n hJ h1 h2
  obtain ⟨h4, c, W, g, hc, hW, hg, hE⟩ := hJ
  have hb := h4.b
  have hb1 : bI B w1 := hb.keep h1 (by decide)
  obtain ⟨tys, hw, -⟩ := h1.2.2.2.2.1
  have e2 := pk2_read w w1 w2 rv1 rv2 k lane i n h4.1 h1 h2
  obtain ⟨c0, hc0, hm⟩ := h4.1.2
  have ec : c0 = c := hc0.uni hc
  subst ec
  obtain ⟨l, s, z, y, r, f, al, as, ar, az, ay, af, hj⟩ := sh_of h4.1.1 hw
  have hr := rng_0 hb hw hc
  have hm1 := hm.keep hb h1 bl_343 bt_343 (by decide)
  have hg1 := hg.keep hb h1 bl_344 bt_344 (by decide) (by decide)
  have P2 : rm_P (B, c0, y, z, f, k, lane, i, n) w1 := ⟨⟨hb1, hm1, az.keep hb h1 bl_381 bt_381 (by decide) (by decide), ay.keep hb h1 bl_382 bt_382 (by decide) (by decide), af.keep hb h1 bl_383 bt_383 (by decide) (by decide)⟩, hr, fun k hk => by rcases hj k hk with z | z <;> omega⟩
  obtain ⟨c2, g2, b4, b5, b6⟩ := s7_X12_read ((B, c0, y, z, f, k, lane, i, n), g) w1 w2 rv2 h2 ⟨P2, hg1⟩
  have hb2 : bI B w2 := hb1.keep h2 (by decide)
  obtain ⟨tysz, -, hwz⟩ := h2.2.2.2.2.1
  obtain ⟨AZ, hAZ⟩ := zA_ini hb2.1 hwz hb2.2
  obtain ⟨cz, -, hz, -, hz60⟩ := j7_c e6.2 hAZ hwz
  have ez : cz = c2 := by
    have h := zo_F hAZ hb2 (by decide) (by decide +kernel) b4
    rw [hz] at h
    injection h
  subst ez
  refine j8_more hJ8 h1 h2 (by decide) (by decide) (by decide +kernel) (by decide +kernel) hm1 hg1 b4 b5 ?_ hz60 (fun u hu => ?_)
  · rcases b6 with ⟨z, -⟩ | ⟨z, -⟩ <;> omega
  · rcases b6 with ⟨-, z⟩ | ⟨-, z, -⟩
    · exact z u
    · exact z u (Or.inl hu)
set_option maxRecDepth 20000 in
theorem pk8_make {B : Nat → Nat} : ∀ (w w1 w2 : lW) (rv1 rv2 : Option Value) (how a b : Int32), J8 B w → fLr r_X11_make [.ref (B 0), .int how, .int a, .int b] w rv1 w1 → fLr r_X12_make [.ref (B 343), .int how, .int a, .int b] w1 rv2 w2 → j8 w2 := by
  intro w w1 w2 rv1 rv2 how a b hJ h1 h2
  have hJ8 := hJ
  have hJ := hJ8.1.1
  have e6 := pk6_make w w1 w2 rv1 rv2 how a b hJ h1 h2
  obtain ⟨h4, c, W, g, hc, hW, hg, hE⟩ := hJ
  have hb := h4.b
  have hb1 : bI B w1 := hb.keep h1 (by decide)
  obtain ⟨tys, hw, -⟩ := h1.2.2.2.2.1
  have e2 := pk2_make w w1 w2 rv1 rv2 how a b h4.1 h1 h2
  obtain ⟨c0, hc0, hm⟩ := h4.1.2
  have ec : c0 = c := hc0.uni hc
  subst ec
  have hr := rng_0 hb hw hc
  have hm1 := hm.keep hb h1 bl_343 bt_343 (by decide)
  obtain ⟨cT, hT⟩ := hg.keep hb h1 bl_344 bt_344 (by decide) (by decide)
  obtain ⟨fs, hp, hl, hv⟩ := id hm1
  obtain ⟨fs2, hp2, -, hA⟩ := hm1.ref hb1 bl_343 (show _ = some (2, 0, 344) from rfl) (k' := 2)
  have e : fs = fs2 := congrArg Prod.snd (Sum.inr.inj (Option.some.inj (hp.symm.trans hp2)))
  subst e
  obtain ⟨v2, c2, g2, -, ⟨fs', p1, p2, p3⟩, p4, q2, b6⟩ := (s7_X12_make _ _ _ _ _ _ h2).2 ((B 343, fs, c0), (B 344, cT, g), how, a, b) rfl ⟨hp, ⟨hv, hA, hl⟩, hT, hr⟩
  have b4 : oF B 343 12 1 (.int c2) w2 := ⟨fs', p1, p2, p3⟩
  have hb2 : bI B w2 := hb1.keep h2 (by decide)
  obtain ⟨tysz, -, hwz⟩ := h2.2.2.2.2.1
  obtain ⟨AZ, hAZ⟩ := zA_ini hb2.1 hwz hb2.2
  obtain ⟨cz, -, hz, -, hz60⟩ := j7_c e6.2 hAZ hwz
  have ez : cz = c2 := by
    have h := zo_F hAZ hb2 (by decide) (by decide +kernel) b4
    rw [hz] at h
    injection h
  subst ez
  refine j8_more hJ8 h1 h2 (by decide) (by decide) (by decide +kernel) (by decide +kernel) hm1 (hg.keep hb h1 bl_344 bt_344 (by decide) (by decide)) b4 p4 ?_ hz60 (fun u hu => ?_)
  · rcases b6 with ⟨z, -⟩ | ⟨z, -⟩ <;> omega
  · rcases b6 with ⟨-, z⟩ | ⟨-, z, -⟩
    · exact z u
    · exact z u (Or.inl hu)
/-! an entry more -/
theorem agj.sI {S : List (Nat × Nat)} {A : zW} {q : Nat} {f : Nat → Int32} (hs : ¬ (zn lp_sh q, 0) ∈ S) : agj S (zsI A q f) A :=
  ⟨⟨fun _ _ _ _ => rfl, fun p i hp hm => ⟨zsI_ne (fun e => by
    subst e
    exact hs hm), rfl⟩, Nat.le_refl _, fun _ _ _ _ _ h => ⟨h, fun _ _ => rfl⟩⟩, fun _ _ _ _ => rfl⟩
theorem agj_znE {S : List (Nat × Nat)} {A : zW} {D : Nat → Value} {s u f t k : Int32} (h : ¬ (13, 1) ∈ S ∧ ¬ (28, 0) ∈ S ∧ ¬ (29, 0) ∈ S) (hN : 385 ≤ zN A) : agj S (znE A D s u f t k) A := by
  have g0 : agj S (zent (zuN A 4 7 D) (zN A) (iv (zF A 193 1)) s u f t k) A := by
    unfold zent
    exact ((((((((agj.new hN).dF (Nat.le_refl _) hN).dF (Nat.le_refl _) hN).dF (Nat.le_refl _) hN).dF (Nat.le_refl _) hN).dF (Nat.le_refl _) hN).dF (Nat.le_refl _) hN).dF (Nat.le_refl _) hN)
  unfold znE zkp
  exact agj.tr (agj.tr (agj.tr g0 (agj.sI (by rw [show zn lp_sh 196 = 29 by decide +kernel]; exact h.2.2))) (agj.nR (by decide) (by rw [show zn lp_sh 195 = 28 by decide +kernel]; exact h.2.1))) (agj.nF (by decide) (by rw [show zn lp_sh 193 = 13 by decide +kernel]; exact h.1))
/-- the worlds that the class notes of a new entry -/
theorem znE_196 {A : zW} {D : Nat → Value} {n s u f t k : Int32} {w : Nat} (hN : 385 ≤ zN A) (hn : zF A 193 1 = .int n) (hw : w < 256) : zI (znE A D s u f t k) 196 w = if zhW (zJ A (2 + 2 * s.toInt.toNat + 1)) w = true then zI A 196 w ||| (Int32.ofInt 1 <<< (n &&& 31)) else zI A 196 w := by
  unfold znE zkp
  rw [zI_uF, zI_uR, zsI_at]
  unfold ztr
  rw [znE_c hN hn]
  by_cases c : zhW (zJ A (2 + 2 * s.toInt.toNat + 1)) w = true
  · rw [if_pos ⟨hw, c⟩, if_pos c]
    rfl
  · rw [if_neg (fun z => c z.2), if_neg c]
    rfl
theorem znE_J {A : zW} {D : Nat → Value} {s u f t k : Int32} {q i : Nat} : zJ (znE A D s u f t k) q i = zJ A q i := rfl
/-- the reference's new entry closes the gap -/
theorem jy_plus {Y : zW} {n t k c s u f t' k' : Int32} {jn : Nat} (h8 : zF Y 343 8 = .int n) (n0 : 0 ≤ n.toInt) (n12 : n.toInt < 12) (h15 : zF Y 343 15 = .int t) (h16 : zF Y 343 16 = .int k) (hc : zF Y 343 1 = .int c) (hk : 0 ≤ k.toInt ∧ c.toInt ≤ 60) (hs : jS Y n c) (hsc : 0 ≤ s.toInt ∧ s.toInt < c.toInt) (hg : jG Y n) (hj : zR Y 195 n.toInt.toNat = .ref jn) (hj1 : 385 ≤ jn ∧ jn < zN Y ∧ zK Y jn = (4, 7)) (hj6 : zF Y jn 6 = .int (Int32.ofInt (-9))) (hM : ∀ w, w < 256 → zI Y 196 w = Int32.ofNat (trN Y n.toInt.toNat w + (if (zJ Y 344 (4 * s.toInt.toNat + w / 64)).toBitVec.getLsbD (w % 64) = true then 2 ^ n.toInt.toNat else 0))) (ht : jTr Y) : jyy (zae Y s u f t' k') (n + 1) t k c := by
  have hi := n_inc n0 (by omega)
  have hi2 : (n + 1).toInt.toNat = n.toInt.toNat + 1 := by omega
  have hz := fun e => zae_at (A := Y) (s := s) (u := u) (f := f) (t := t') (k := k') h8 e
  have J344 : ∀ q i, zJ (zae Y s u f t' k') q i = zJ Y q i := fun q i => rfl
  have esw : ∀ e, e ≠ n.toInt.toNat → ∀ x, sew (zae Y s u f t' k') e x = sew Y e x := fun e he x => by
    unfold sew ses
    rw [(hz e).1, if_neg he, J344]
  have esn : ∀ x, sew (zae Y s u f t' k') n.toInt.toNat x = zJ Y 344 (4 * s.toInt.toNat + x) := fun x => by
    unfold sew ses
    rw [(hz n.toInt.toNat).1, if_pos rfl, J344]
  refine ⟨⟨⟨⟨zae_8 h8, by omega, by omega⟩, (zae_F (by omega)).trans h15, (zae_F (by omega)).trans h16, (zae_F (by omega)).trans hc⟩, hk, fun e he => ?_, fun w hw => ?_, fun e he => ?_⟩, fun i hi => ?_, ⟨Int32.ofInt 0, ?_, fun z => absurd (by decide) z⟩, Int32.ofInt 0, ?_, fun z => absurd (by decide) z⟩
  · rw [(hz e).1]
    by_cases ee : e = n.toInt.toNat
    · rw [if_pos ee]
      exact hsc
    · rw [if_neg ee]
      exact hs e (by omega)
  · rw [zae_I (by omega), hM w hw, hi2]
    refine congrArg Int32.ofNat ?_
    show _ = vwN (seb (zae Y s u f t' k') w) n.toInt.toNat + (if seb (zae Y s u f t' k') w n.toInt.toNat = true then 2 ^ n.toInt.toNat else 0)
    have e1 : vwN (seb (zae Y s u f t' k') w) n.toInt.toNat = trN Y n.toInt.toNat w := vwN_eq (fun e he => by
      unfold seb
      rw [esw e (by omega)])
    rw [e1]
    unfold seb
    rw [esn]
  · rw [zae_R, (hz e).2.2.2.2.2, zae_N]
    by_cases ee : e = n.toInt.toNat
    · rw [if_pos ee, ee]
      refine ⟨⟨jn, hj, ⟨hj1.1, hj1.2.1, by rw [zae_K]; exact hj1.2.2⟩, ?_⟩, Or.inl (by decide)⟩
      rw [zae_F (by
        rintro ⟨z, -⟩
        omega)]
      exact hj6
    · rw [if_neg ee]
      obtain ⟨⟨j, b0, ⟨b1, b2, b3⟩, b4⟩, h2⟩ := hg e (by omega)
      refine ⟨⟨j, b0, ⟨b1, b2, by rw [zae_K]; exact b3⟩, ?_⟩, h2⟩
      rw [zae_F (by
        rintro ⟨z, -⟩
        omega)]
      exact b4
  · rw [zae_I (by omega)]
    exact ht i hi
  · unfold zae zov
    rw [zuF_x, if_neg (by decide), zuF_x, if_neg (by decide), zuF_x, if_neg (by decide), zuF_x, if_pos ⟨rfl, rfl⟩]
  · unfold zae
    exact zov_19
/-- what is true where, with the new one, over the class's words -/
theorem jM_plus {A Y : zW} {n : Int32} {s : Nat} {T : Nat → Int32} (n0 : 0 ≤ n.toInt) (n12 : n.toInt < 12) (hM : jM A n) (hT : ∀ w, w < 256 → T w = if zhW (zJ A (2 + 2 * s + 1)) w = true then zI A 196 w ||| (Int32.ofInt 1 <<< (n &&& 31)) else zI A 196 w) (hw : ∀ x, x < 4 → zJ A (2 + 2 * s + 1) x = zJ Y 344 (4 * s + x)) (ht : ∀ w, trN Y n.toInt.toNat w = trN A n.toInt.toNat w) : ∀ w, w < 256 → T w = Int32.ofNat (trN Y n.toInt.toNat w + (if (zJ Y 344 (4 * s + w / 64)).toBitVec.getLsbD (w % 64) = true then 2 ^ n.toInt.toNat else 0)) := fun w hw2 => by
  have en : n = Int32.ofNat n.toInt.toNat := n32_of (by omega)
  have ez : zhW (zJ A (2 + 2 * s + 1)) w = (zJ Y 344 (4 * s + w / 64)).toBitVec.getLsbD (w % 64) := by
    unfold zhW
    rw [hbB_b (by omega), hw (w / 64) (by omega)]
  have e1 := n32_1 n.toInt.toNat (by omega)
  rw [← en] at e1
  rw [hT w hw2, ez, ht, hM w hw2]
  by_cases c : (zJ Y 344 (4 * s + w / 64)).toBitVec.getLsbD (w % 64) = true
  · rw [if_pos c, if_pos c, e1, n32_or, or_p2 (show trN A n.toInt.toNat w < 2 ^ n.toInt.toNat from vwN_lt)]
  · rw [if_neg c, if_neg c, Nat.add_zero]
set_option maxRecDepth 20000 in
theorem pk8_hold {B : Nat → Nat} : ∀ (w w1 w2 : lW) (rv1 rv2 : Option Value) (s u f t' k' : Int32), J8 B w → fLr r_X11_hold [.ref (B 0), .int s, .int u, .int f, .int t', .int k'] w rv1 w1 → fLr r_X12_hold [.ref (B 343), .int s, .int u, .int f, .int t', .int k'] w1 rv2 w2 → j8 w2 := by
  intro w w1 w2 rv1 rv2 s u f t' k' hJ h1 h2
  have hb := hJ.1.1.1.b
  have hb1 : bI B w1 := hb.keep h1 (by decide)
  obtain ⟨tys, hw, -⟩ := h1.2.2.2.2.1
  obtain ⟨A, n, m, q, t, k, c, hA, ob⟩ := hJ.o hw
  have hN : 385 ≤ zN A := hA.2.1.2.2
  have c60 : c.toInt ≤ 60 := ob.y.1.2.1.2
  have hc' : zF A 343 1 = .int c := ob.y.1.1.2.2.2
  obtain ⟨A1, u1, hA1, hv1, hQ1⟩ := zrun za_X11_hold h1 hA (zargs hb (by decide) (s := [.int s, .int u, .int f, .int t', .int k']) ⟨rfl, rfl, rfl, rfl, rfl, trivial⟩) (K := fun rv A' => zhd_Q ((c, n), s, u, f, t', k') A rv A') ⟨((c, n), s, u, f, t', k'), rfl, ⟨⟨ob.c0, c60⟩, ob.e.1, hN⟩, fun _ _ h => h⟩
  have hQ1 : zhdQ (zhdV c n s u f t' k') n (fun A' => ∃ D, A' = znE A D s u f t' k') A u1 A1 := hQ1
  have hpre : zF A1 343 1 = .int c ∧ zF A1 343 8 = .int n ∧ 0 ≤ n.toInt ∧ n.toInt ≤ 12 := by
    unfold zhdQ at hQ1
    split at hQ1
    · rw [hQ1.2]
      exact ⟨hc', ob.e.2.1, ob.n⟩
    · obtain ⟨-, D, rfl⟩ := hQ1
      exact ⟨(znE_F hN (by decide) (by decide)).trans hc', (znE_F hN (by decide) (by decide)).trans ob.e.2.1, ob.n⟩
  obtain ⟨A2, u2, hA2, hv2, hQ2⟩ := zrun za_X12_hold h2 hA1 (zargs hb1 (by decide) (s := [.int s, .int u, .int f, .int t', .int k']) ⟨rfl, rfl, rfl, rfl, rfl, trivial⟩) (K := fun rv A' => zhm_Q ((c, n), s, u, f, t', k') A1 rv A') ⟨((c, n), s, u, f, t', k'), rfl, hpre, fun _ _ h => h⟩
  have hQ2 : zhdQ (zhdV c n s u f t' k') n (fun A' => A' = zae A1 s u f t' k') A1 u2 A2 := hQ2
  unfold zhdQ at hQ1 hQ2
  cases hV : zhdV c n s u f t' k' with
  | some v =>
    rw [hV] at hQ1 hQ2
    obtain ⟨-, e2⟩ := hQ1
    obtain ⟨-, e4⟩ := hQ2
    refine ⟨A2, hA2, n, t, k, c, ?_⟩
    rw [e4, e2]
    exact ob.y
  | none =>
    rw [hV] at hQ1 hQ2
    obtain ⟨-, D, e2⟩ := hQ1
    obtain ⟨-, e4⟩ := hQ2
    have e4 : A2 = zae A1 s u f t' k' := e4
    obtain ⟨⟨hsc, hu⟩, -, hn⟩ := zhd_g hV
    have n0 := ob.n.1
    have a1 : zF A 193 1 = .int n := ob.e.1.1
    refine ⟨A2, hA2, n + 1, t, k, c, ?_⟩
    rw [e4, e2]
    refine jy_plus (jn := zN A) ((znE_F hN (by decide) (by decide)).trans ob.e.2.1) n0 hn ((znE_F hN (by decide) (by decide)).trans ob.y.1.1.2.1) ((znE_F hN (by decide) (by decide)).trans ob.y.1.1.2.2.1) ((znE_F hN (by decide) (by decide)).trans hc') ob.y.1.2.1 (fun e he => ?_) hsc (fun e he => ?_) ?_ ⟨hN, ?_, znE_Kn⟩ ?_ (jM_plus n0 hn ob.y.1.2.2.2.1 (fun w hw2 => znE_196 hN a1 hw2) (fun x hx => ?_) (fun w => ?_)) (fun i hi => ?_)
    · rw [znE_I (by decide)]
      exact ob.y.1.2.2.1 e he
    · obtain ⟨⟨j, b0, ⟨b1, b2, b3⟩, b4⟩, h6⟩ := ob.y.1.2.2.2.2 e he
      rw [znE_R hN a1, if_neg (fun z => by omega), znE_I (by decide), znE_N]
      exact ⟨⟨j, b0, ⟨b1, by omega, (znE_K (by omega)).trans b3⟩, (znE_d (by omega) b1).trans b4⟩, h6⟩
    · rw [znE_R hN a1, if_pos ⟨rfl, rfl⟩]
    · rw [znE_N]
      omega
    · rw [znE_n hN]
      unfold zent
      rw [zuF_x, if_pos ⟨rfl, rfl⟩]
    · exact ob.w s.toInt.toNat (by omega) x hx
    · unfold trN
      refine vwN_eq (fun e he => ?_)
      unfold seb sew ses
      rw [znE_I (by decide)]
      rfl
    · rw [znE_I (by decide)]
      exact ob.y.2.1 i hi
