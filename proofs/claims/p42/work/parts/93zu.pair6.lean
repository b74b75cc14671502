section
/-! read and make keep the two's sentences alike -/
theorem rdQ_gd {k lane i n c : Int32} {lo di : Bool} {Z t : Int} {v c' ft : Int32} (h : rdQ k lane i n c lo di Z t v c' ft) (hc : c'.toInt = c.toInt + 1) : (0 ≤ k.toInt ∧ k.toInt < 4) ∧ lo = false ∧ 0 ≤ n.toInt ∧ 0 ≤ i.toInt ∧ i.toInt + n.toInt ≤ Z := by
  unfold rdQ at h
  have no : ∀ {p : Prop}, c' = c → p := fun e => absurd hc (by rw [e]; omega)
  by_cases hk : 0 ≤ k.toInt ∧ k.toInt < 4
  · rw [if_pos hk] at h
    by_cases hl : 0 ≤ lane.toInt ∧ lane.toInt < 3
    · rw [if_pos hl] at h
      cases lo with
      | true => exact no h.2.1
      | false =>
        cases di with
        | true => exact no h.2.1
        | false =>
          dsimp only at h
          by_cases hn : n.toInt < 0
          · rw [if_pos hn] at h
            exact no h.2.1
          · rw [if_neg hn] at h
            by_cases hi : 0 ≤ i.toInt ∧ i.toInt + n.toInt ≤ Z
            · exact ⟨hk, rfl, by omega, hi.1, hi.2⟩
            · rw [if_neg hi] at h
              exact no h.2.1
    · rw [if_neg hl] at h
      exact no h.2.1
  · rw [if_neg hk] at h
    exact no h.2.1
theorem mkQ_gd {how a b c v c' : Int32} (h : mkQ how a b c v c') (hc : c'.toInt = c.toInt + 1) : (0 ≤ a.toInt ∧ a.toInt < c.toInt) ∧ (how.toInt = 0 ∨ (0 ≤ b.toInt ∧ b.toInt < c.toInt)) := by
  unfold mkQ at h
  have no : ∀ {p : Prop}, c' = c → p := fun e => absurd hc (by rw [e]; omega)
  split at h
  · split at h
    · rename_i a2
      exact a2
    · exact no h.2
  · exact no h.2
theorem pk6_read {B : Nat → Nat} : ∀ (w w1 w2 : lW) (rv1 rv2 : Option Value) (k lane i n : Int32), J6 B w → fLr r_X11_read [.ref (B 0), .int k, .int lane, .int i, .int n] w rv1 w1 → fLr r_X12_read [.ref (B 343), .int k, .int lane, .int i, .int n] w1 rv2 w2 → rv1 = rv2 ∧ J6 B w2 := by
  intro w w1 w2 rv1 rv2 k lane i n hJ h1 h2
  obtain ⟨h4, c, W, g, hc, hW, hg, hE⟩ := hJ
  have hb := h4.b
  have hb1 : bI B w1 := hb.keep h1 (by decide)
  obtain ⟨tys, hw, -⟩ := h1.2.2.2.2.1
  have e2 := pk2_read w w1 w2 rv1 rv2 k lane i n h4.1 h1 h2
  refine ⟨e2.1, up2 h4 h1 h2 (by decide) (by decide) (by decide) e2.2, ?_⟩
  obtain ⟨c0, hc0, hm⟩ := h4.1.2
  have ec : c0 = c := hc0.uni hc
  subst ec
  obtain ⟨l, s, z, y, r, f, al, as, ar, az, ay, af, hj⟩ := sh_of h4.1.1 hw
  have hr := rng_0 hb hw hc
  obtain ⟨fs, hp, hlen⟩ := ln_0 hb hw
  have hm1 := hm.keep hb h1 bl_343 bt_343 (by decide)
  have hg1 := hg.keep hb h1 bl_344 bt_344 (by decide) (by decide)
  have P1 : rd_P (B, c0, l, s, r, k, lane, i, n) w := ⟨⟨hb, sN.of hb hw, rI.of hb hw, hc, al, as, ar⟩, ⟨_, ⟨fs, hp, by omega, rfl⟩⟩, hr, fun k hk => (hj k hk).imp (fun z => z.1) (fun z => by rw [z.1.2.2.1]; exact ⟨z.1.2.2.2.1, z.1.2.2.2.2⟩)⟩
  have P2 : rm_P (B, c0, y, z, f, k, lane, i, n) w1 := ⟨⟨hb1, hm1, az.keep hb h1 bl_381 bt_381 (by decide) (by decide), ay.keep hb h1 bl_382 bt_382 (by decide) (by decide), af.keep hb h1 bl_383 bt_383 (by decide) (by decide)⟩, hr, fun k hk => by rcases hj k hk with z | z <;> omega⟩
  obtain ⟨v1, d1, f1, -, a1, -, q1⟩ := s_X11_read (B, c0, l, s, r, k, lane, i, n) w w1 rv1 h1 P1
  obtain ⟨c1, W1, b1, b2, b3⟩ := s6_X11_read ((B, c0, l, s, r, k, lane, i, n), W) w w1 rv1 h1 ⟨P1, hW⟩
  obtain ⟨c2, g2, b4, b5, b6⟩ := s7_X12_read ((B, c0, y, z, f, k, lane, i, n), g) w1 w2 rv2 h2 ⟨P2, hg1⟩
  obtain ⟨cx, n1, n2⟩ := e2.2.2
  have o1 : oF B 0 11 1 (.int c1) w2 := b1.keep hb1 h2 bl_0 bt_0 (by decide)
  have e12 : c1.toInt = c2.toInt := by rw [o1.uni n1, b4.uni n2]
  refine j6_step hr.1 hE e12 o1 (b2.keep hb1 h2 (by decide)) b5 b3 b6 (fun hx x hx4 => ?_)
  obtain ⟨hk, hlo, n0, i0, hin⟩ := rdQ_gd q1 (by rw [a1.uni b1]; exact hx)
  have hlo : decide ((l k.toInt.toNat).toInt = -1) = false := hlo
  have hin : i.toInt + n.toInt ≤ (s k.toInt.toNat).toInt := hin
  rcases hj k.toInt.toNat (by omega) with ⟨z1, z2⟩ | ⟨⟨z1, z2, z3, z4, z5⟩, z6⟩
  · rw [decide_eq_true z1] at hlo
    cases hlo
  · rw [z3] at hin
    have e6 : (60 : Int32).toInt = 60 := by decide
    have m1 : (60 * k).toInt = 60 * k.toInt := by
      rw [i_mul (by rw [e6]; omega) (by rw [e6]; omega), e6]
    have m2 : (60 * k + i).toInt = 60 * k.toInt + i.toInt := by
      rw [i_add (by rw [m1]; omega) (by rw [m1]; omega), m1]
    have er : runA (vo_g i (r k.toInt.toNat)) n.toInt.toNat = runA (vo_g (60 * k + i) f) n.toInt.toNat := runA_eq (fun u hu => by
      show r k.toInt.toNat (i.toInt.toNat + u) = f ((60 * k + i).toInt.toNat + u)
      rw [z6 _ (by omega), m2]
      exact congrArg f (by omega))
    show (bdS 1 (runA (vo_g i (r k.toInt.toNat)) n.toInt.toNat)).2.2 0 x = (bdS 1 (runA (vo_g (60 * k + i) f) n.toInt.toNat)).2.2 0 x
    rw [er]
theorem pk6_make {B : Nat → Nat} : ∀ (w w1 w2 : lW) (rv1 rv2 : Option Value) (how a b : Int32), J6 B w → fLr r_X11_make [.ref (B 0), .int how, .int a, .int b] w rv1 w1 → fLr r_X12_make [.ref (B 343), .int how, .int a, .int b] w1 rv2 w2 → rv1 = rv2 ∧ J6 B w2 := by
  intro w w1 w2 rv1 rv2 how a b hJ h1 h2
  obtain ⟨h4, c, W, g, hc, hW, hg, hE⟩ := hJ
  have hb := h4.b
  have hb1 : bI B w1 := hb.keep h1 (by decide)
  obtain ⟨tys, hw, -⟩ := h1.2.2.2.2.1
  have e2 := pk2_make w w1 w2 rv1 rv2 how a b h4.1 h1 h2
  refine ⟨e2.1, up2 h4 h1 h2 (by decide) (by decide) (by decide) e2.2, ?_⟩
  obtain ⟨c0, hc0, hm⟩ := h4.1.2
  have ec : c0 = c := hc0.uni hc
  subst ec
  have hr := rng_0 hb hw hc
  have hm1 := hm.keep hb h1 bl_343 bt_343 (by decide)
  obtain ⟨cT, hT⟩ := hg.keep hb h1 bl_344 bt_344 (by decide) (by decide)
  obtain ⟨fs, hp, hl, hv⟩ := id hm1
  obtain ⟨fs2, hp2, -, hA⟩ := hm1.ref hb1 bl_343 (show _ = some (2, 0, 344) from rfl) (k' := 2)
  have e : fs = fs2 := congrArg Prod.snd (Sum.inr.inj (Option.some.inj (hp.symm.trans hp2)))
  subst e
  obtain ⟨v1, c1, W1, -, b1, b2, q1, b3⟩ := s6_X11_make ((B, c0, W), how, a, b) w w1 rv1 h1 ⟨⟨hb, sN.of hb hw, hc⟩, hW, hr⟩
  obtain ⟨v2, c2, g2, -, ⟨fs', p1, p2, p3⟩, p4, q2, b6⟩ := (s7_X12_make _ _ _ _ _ _ h2).2 ((B 343, fs, c0), (B 344, cT, g), how, a, b) rfl ⟨hp, ⟨hv, hA, hl⟩, hT, hr⟩
  have b4 : oF B 343 12 1 (.int c2) w2 := ⟨fs', p1, p2, p3⟩
  obtain ⟨cx, n1, n2⟩ := e2.2.2
  have o1 : oF B 0 11 1 (.int c1) w2 := b1.keep hb1 h2 bl_0 bt_0 (by decide)
  have e12 : c1.toInt = c2.toInt := by rw [o1.uni n1, b4.uni n2]
  refine j6_step (V := fun x => opV how (W a.toInt.toNat x) (W b.toInt.toNat x)) (V2 := fun u => opV how (g (4 * a.toInt.toNat + u)) (g (4 * b.toInt.toNat + u))) hr.1 hE e12 o1 (b2.keep hb1 h2 (by decide)) p4 b3 b6 (fun hx x hx4 => ?_)
  obtain ⟨ga, gb⟩ := mkQ_gd q1 hx
  show opV how (W a.toInt.toNat x) (W b.toInt.toNat x) = opV how (g (4 * a.toInt.toNat + x)) (g (4 * b.toInt.toNat + x))
  rw [hE a.toInt.toNat (by omega) x hx4]
  rcases gb with g0 | gb
  · unfold opV
    rw [if_pos g0, if_pos g0]
  · rw [hE b.toInt.toNat (by omega) x hx4]
section
variable {B : Nat → Nat} {rt1 rt2 : Nat} {Wr1 Wr2 : List (Nat × Nat)} {T1 T2 : fT} {cc1 cc2 : ByteArray} {As1 As2 : List Value} {w w1 w2 : lW} {rv1 rv2 : Option Value}
theorem up4 (hJ : J6 B w) (h1 : fLr (fq cw_TT cw_SG rt1 Wr1 T1 cc1) As1 w rv1 w1) (h2 : fLr (fq cw_TT cw_SG rt2 Wr2 T2 cc2) As2 w1 rv2 w2) (k1 : bs_K.all (fun x => !(Wr1.contains x)) = true) (a1 : (11, 1) ∉ Wr1 ∧ (87, 0) ∉ Wr1 ∧ (45, 0) ∉ Wr1) (a2 : (11, 1) ∉ Wr2 ∧ (87, 0) ∉ Wr2 ∧ (45, 0) ∉ Wr2) (hJ4 : J4 B w2) : J6 B w2 :=
  ⟨hJ4, kp6 h2 (hJ.1.b.keep h1 k1) (kp6 h1 hJ.1.b hJ.2 a1) a2⟩
end
end
section
/-! counting bits -/
/-- how many of the lowest k bits are there -/
def pcN : Nat → Nat → Nat
  | 0, _ => 0
  | k + 1, n => pcN k n + n / 2 ^ k % 2
theorem pcN_s : ∀ {k n : Nat}, pcN (k + 1) n = n % 2 + pcN k (n / 2)
  | 0, n => by
    show 0 + n / 2 ^ 0 % 2 = n % 2 + 0
    rw [Nat.pow_zero, Nat.div_one]
    omega
  | k + 1, n => by
    show pcN (k + 1) n + n / 2 ^ (k + 1) % 2 = n % 2 + (pcN k (n / 2) + n / 2 / 2 ^ k % 2)
    rw [pcN_s (k := k), Nat.div_div_eq_div_mul, show 2 * 2 ^ k = 2 ^ (k + 1) from Nat.pow_succ'.symm]
    omega
theorem pcN_le : ∀ {k n : Nat}, pcN k n ≤ k
  | 0, _ => Nat.le_refl _
  | k + 1, n => by
    have h := pcN_le (k := k) (n := n)
    show pcN k n + n / 2 ^ k % 2 ≤ k + 1
    omega
theorem pcN_0 {n : Nat} : pcN 0 n = 0 := rfl
theorem pcN_8s {k n : Nat} : pcN (k + 8) n = n % 2 + (n / 2 % 2 + (n / 4 % 2 + (n / 8 % 2 + (n / 16 % 2 + (n / 32 % 2 + (n / 64 % 2 + (n / 128 % 2 + pcN k (n / 256)))))))) := by
  rw [show k + 8 = k + 7 + 1 from rfl, pcN_s, show k + 7 = k + 6 + 1 from rfl, pcN_s, show k + 6 = k + 5 + 1 from rfl, pcN_s, show k + 5 = k + 4 + 1 from rfl, pcN_s, show k + 4 = k + 3 + 1 from rfl, pcN_s, show k + 3 = k + 2 + 1 from rfl, pcN_s, show k + 2 = k + 1 + 1 from rfl, pcN_s, pcN_s]
  simp only [Nat.div_div_eq_div_mul, Nat.reduceMul]
theorem pcN_8 {k n : Nat} : pcN (k + 8) n = pcN 8 n + pcN k (n / 256) := by
  have a := pcN_8s (k := 0) (n := n)
  rw [Nat.zero_add, pcN_0] at a
  rw [pcN_8s, a]
  simp only [Nat.add_assoc, Nat.add_zero]
/-- fields cut by a mask -/
theorem and_f (j : Nat) {a b q m : Nat} (ha : a < 2 ^ j) (hb : b < 2 ^ j) : (2 ^ j * q + a) &&& (2 ^ j * m + b) = 2 ^ j * (q &&& m) + (a &&& b) := by
  refine Nat.eq_of_testBit_eq (fun i => ?_)
  rw [Nat.testBit_and, Nat.testBit_two_pow_mul_add _ ha, Nat.testBit_two_pow_mul_add _ hb, Nat.testBit_two_pow_mul_add _ (Nat.lt_of_le_of_lt Nat.and_le_left ha)]
  split
  · rw [Nat.testBit_and]
  · rw [Nat.testBit_and]
def mkF (B v : Nat) : Nat → Nat
  | 0 => 0
  | k + 1 => B * mkF B v k + v
def h1F : Nat → Nat → Nat
  | 0, _ => 0
  | k + 1, n => 4 * h1F k (n / 4) + n / 2 % 2
def e1F : Nat → Nat → Nat
  | 0, _ => 0
  | k + 1, n => 4 * e1F k (n / 4) + pcN 2 n
def e2F : Nat → Nat → Nat
  | 0, _ => 0
  | k + 1, n => 16 * e2F k (n / 16) + pcN 4 n
def e3F : Nat → Nat → Nat
  | 0, _ => 0
  | k + 1, n => 256 * e3F k (n / 256) + pcN 8 n
theorem pcN_2 {n : Nat} : pcN 2 n = n % 2 + n / 2 % 2 := by
  rw [pcN_s, pcN_s]
  rfl
theorem pcN_4 {n : Nat} : pcN 4 n = pcN 2 n + pcN 2 (n / 4) := by
  rw [pcN_2, pcN_2, pcN_s, pcN_s, pcN_s, pcN_s, pcN_0]
  simp only [Nat.div_div_eq_div_mul, Nat.reduceMul, Nat.add_assoc, Nat.add_zero]
theorem pcN_84 {n : Nat} : pcN 8 n = pcN 4 n + pcN 4 (n / 16) := by
  have a := pcN_8s (k := 0) (n := n)
  rw [Nat.zero_add, pcN_0] at a
  rw [a, pcN_4, pcN_4, pcN_2, pcN_2, pcN_2, pcN_2]
  simp only [Nat.div_div_eq_div_mul, Nat.reduceMul, Nat.add_assoc, Nat.add_zero]
theorem st_1a : ∀ {k n : Nat}, n / 2 &&& mkF 4 1 k = h1F k n
  | 0, n => Nat.and_zero _
  | k + 1, n => by
    show n / 2 &&& (4 * mkF 4 1 k + 1) = 4 * h1F k (n / 4) + n / 2 % 2
    have e : n / 2 = 4 * (n / 4 / 2) + n / 2 % 4 := by omega
    have h := and_f 2 (a := n / 2 % 4) (b := 1) (q := n / 4 / 2) (m := mkF 4 1 k) (by omega) (by decide)
    have h : (4 * (n / 4 / 2) + n / 2 % 4) &&& (4 * mkF 4 1 k + 1) = 4 * (n / 4 / 2 &&& mkF 4 1 k) + (n / 2 % 4 &&& 1) := h
    rw [← e, st_1a (k := k) (n := n / 4), Nat.and_one_is_mod] at h
    rw [h]
    omega
theorem st_1b : ∀ {k n : Nat}, n < 4 ^ k → n = e1F k n + h1F k n
  | 0, n, h => by
    have h : n < 1 := h
    show n = 0 + 0
    omega
  | k + 1, n, h => by
    rw [Nat.pow_succ] at h
    have h2 := st_1b (k := k) (n := n / 4) (by omega)
    show n = 4 * e1F k (n / 4) + pcN 2 n + (4 * h1F k (n / 4) + n / 2 % 2)
    rw [pcN_2]
    omega
theorem st_1 {k n : Nat} (h : n < 4 ^ k) : n - (n / 2 &&& mkF 4 1 k) = e1F k n := by
  have h2 := st_1b h
  rw [st_1a]
  omega
theorem e1F_2 {k n : Nat} : e1F (k + 2) n = 16 * e1F k (n / 16) + 4 * pcN 2 (n / 4) + pcN 2 n := by
  show 4 * (4 * e1F k (n / 4 / 4) + pcN 2 (n / 4)) + pcN 2 n = _
  rw [Nat.div_div_eq_div_mul, show 4 * 4 = 16 from rfl]
  omega
theorem st_2 : ∀ {k n : Nat}, (e1F (2 * k) n &&& mkF 16 3 k) + (e1F (2 * k) n / 4 &&& mkF 16 3 k) = e2F k n
  | 0, n => by
    show (0 &&& 0) + (0 / 4 &&& 0) = 0
    decide
  | k + 1, n => by
    have l0 : pcN 2 n ≤ 2 := pcN_le
    have l1 : pcN 2 (n / 4) ≤ 2 := pcN_le
    have l2 := st_2 (k := k) (n := n / 16)
    show (e1F (2 * k + 2) n &&& (16 * mkF 16 3 k + 3)) + (e1F (2 * k + 2) n / 4 &&& (16 * mkF 16 3 k + 3)) = 16 * e2F k (n / 16) + pcN 4 n
    rw [e1F_2, pcN_4]
    generalize pcN 2 n = a at *
    generalize pcN 2 (n / 4) = b at *
    generalize e1F (2 * k) (n / 16) = r at *
    have h1 := and_f 4 (a := 4 * b + a) (b := 3) (q := r) (m := mkF 16 3 k) (by omega) (by decide)
    have h1 : (16 * r + (4 * b + a)) &&& (16 * mkF 16 3 k + 3) = 16 * (r &&& mkF 16 3 k) + ((4 * b + a) &&& 3) := h1
    have h2 := and_f 4 (a := 4 * (r % 4) + b) (b := 3) (q := r / 4) (m := mkF 16 3 k) (by omega) (by decide)
    have h2 : (16 * (r / 4) + (4 * (r % 4) + b)) &&& (16 * mkF 16 3 k + 3) = 16 * (r / 4 &&& mkF 16 3 k) + ((4 * (r % 4) + b) &&& 3) := h2
    have m1 : (4 * b + a) &&& 3 = a := (Nat.and_two_pow_sub_one_eq_mod (4 * b + a) 2).trans (by omega)
    have m2 : (4 * (r % 4) + b) &&& 3 = b := (Nat.and_two_pow_sub_one_eq_mod (4 * (r % 4) + b) 2).trans (by omega)
    rw [show 16 * r + 4 * b + a = 16 * r + (4 * b + a) by omega, h1, show (16 * r + (4 * b + a)) / 4 = 16 * (r / 4) + (4 * (r % 4) + b) by omega, h2, m1, m2]
    omega
theorem e2F_2 {k n : Nat} : e2F (k + 2) n = 256 * e2F k (n / 256) + 16 * pcN 4 (n / 16) + pcN 4 n := by
  show 16 * (16 * e2F k (n / 16 / 16) + pcN 4 (n / 16)) + pcN 4 n = _
  rw [Nat.div_div_eq_div_mul, show 16 * 16 = 256 from rfl]
  omega
theorem e2F_m : ∀ {k n : Nat}, e2F k n % 16 ≤ 4
  | 0, _ => Nat.zero_le _
  | k + 1, n => by
    have l0 : pcN 4 n ≤ 4 := pcN_le
    show (16 * e2F k (n / 16) + pcN 4 n) % 16 ≤ 4
    omega
theorem st_3 : ∀ {k n : Nat}, (e2F (2 * k) n + e2F (2 * k) n / 16) &&& mkF 256 15 k = e3F k n
  | 0, n => by
    show (0 + 0 / 16) &&& 0 = 0
    decide
  | k + 1, n => by
    have l0 : pcN 4 n ≤ 4 := pcN_le
    have l1 : pcN 4 (n / 16) ≤ 4 := pcN_le
    have l2 := st_3 (k := k) (n := n / 256)
    have l3 := e2F_m (k := 2 * k) (n := n / 256)
    show (e2F (2 * k + 2) n + e2F (2 * k + 2) n / 16) &&& (256 * mkF 256 15 k + 15) = 256 * e3F k (n / 256) + pcN 8 n
    rw [e2F_2, pcN_84]
    generalize pcN 4 n = a at *
    generalize pcN 4 (n / 16) = b at *
    generalize e2F (2 * k) (n / 256) = r at *
    have h1 := and_f 8 (a := 16 * (b + r % 16) + (a + b)) (b := 15) (q := r + r / 16) (m := mkF 256 15 k) (by omega) (by decide)
    have h1 : (256 * (r + r / 16) + (16 * (b + r % 16) + (a + b))) &&& (256 * mkF 256 15 k + 15) = 256 * ((r + r / 16) &&& mkF 256 15 k) + ((16 * (b + r % 16) + (a + b)) &&& 15) := h1
    have m1 : (16 * (b + r % 16) + (a + b)) &&& 15 = a + b := (Nat.and_two_pow_sub_one_eq_mod (16 * (b + r % 16) + (a + b)) 4).trans (by omega)
    rw [show 256 * r + 16 * b + a + (256 * r + 16 * b + a) / 16 = 256 * (r + r / 16) + (16 * (b + r % 16) + (a + b)) by omega, h1, m1, l2]
theorem dvN_ {m x q r : Nat} (h : x = m * q + r) (hr : r < m) : x / m = q := by
  rw [h, Nat.mul_add_div (by omega), Nat.div_eq_of_lt hr, Nat.add_zero]
theorem mdN_ {m x q r : Nat} (h : x = m * q + r) (hr : r < m) : x % m = r := by
  rw [h, Nat.mul_add_mod, Nat.mod_eq_of_lt hr]
theorem st_4a {v w a b w2 v4 : Nat} (h1 : v = 256 * w + a) (hw : w = 256 * w2 + b) (h2 : v4 = v + w) : v4 = 256 * (w + w2) + (a + b) := by omega
theorem st_4b {w w2 w3 a b c v4 : Nat} (hw : w = 256 * w2 + b) (hw2 : w2 = 256 * w3 + c) (h : v4 = 256 * (w + w2) + (a + b)) : v4 = 65536 * (w2 + w3) + (256 * (b + c) + (a + b)) := by omega
theorem st_4c {w2 w3 w4 w5 a b c d e v4 v5 : Nat} (hw2 : w2 = 256 * w3 + c) (hw3 : w3 = 256 * w4 + d) (hw4 : w4 = 256 * w5 + e) (h : v4 = 65536 * (w2 + w3) + (256 * (b + c) + (a + b))) (h5 : v5 = v4 + (w2 + w3)) : v5 = 65536 * ((w2 + w3) + (w4 + w5)) + (256 * (b + c + d + e) + (a + b + c + d)) := by omega
theorem st_4d {w2 w3 w4 w5 w6 w7 a b c d e f g v5 : Nat} (hw2 : w2 = 256 * w3 + c) (hw3 : w3 = 256 * w4 + d) (hw4 : w4 = 256 * w5 + e) (hw5 : w5 = 256 * w6 + f) (hw6 : w6 = 256 * w7 + g) (h : v5 = 65536 * ((w2 + w3) + (w4 + w5)) + (256 * (b + c + d + e) + (a + b + c + d))) : v5 = 4294967296 * ((w4 + w5) + (w6 + w7)) + (65536 * (256 * (d + e + f + g) + (c + d + e + f)) + (256 * (b + c + d + e) + (a + b + c + d))) := by omega
theorem st_4e {w4 w5 w6 w7 a b c d e f g h v5 v6 : Nat} (hw4 : w4 = 256 * w5 + e) (hw5 : w5 = 256 * w6 + f) (hw6 : w6 = 256 * w7 + g) (hw7 : w7 = h) (h5 : v5 = 4294967296 * ((w4 + w5) + (w6 + w7)) + (65536 * (256 * (d + e + f + g) + (c + d + e + f)) + (256 * (b + c + d + e) + (a + b + c + d)))) (h6 : v6 = v5 + ((w4 + w5) + (w6 + w7))) : v6 = 128 * (33554432 * ((w4 + w5) + (w6 + w7)) + (512 * (256 * (d + e + f + g) + (c + d + e + f)) + 2 * (b + c + d + e)) + 2 * (w5 + w6 + w7)) + (a + b + c + d + e + f + g + h) := by omega
theorem st_4 {a b c d e f g h w w2 w3 w4 w5 w6 v v4 v5 v6 : Nat} (ha : a ≤ 8) (hb : b ≤ 8) (hc : c ≤ 8) (hd : d ≤ 8) (he : e ≤ 8) (hf : f ≤ 8) (hg : g ≤ 8) (hh : h ≤ 8) (hv : v = 256 * w + a) (hw : w = 256 * w2 + b) (hw2 : w2 = 256 * w3 + c) (hw3 : w3 = 256 * w4 + d) (hw4 : w4 = 256 * w5 + e) (hw5 : w5 = 256 * w6 + f) (hw6 : w6 = 256 * h + g) (h4 : v4 = v + v / 256) (h5 : v5 = v4 + v4 / 65536) (h6 : v6 = v5 + v5 / 4294967296) : v6 % 128 = a + b + c + d + e + f + g + h := by
  rw [dvN_ hv (Nat.lt_of_le_of_lt ha (by decide))] at h4
  have k4 := st_4b hw hw2 (st_4a hv hw h4)
  rw [dvN_ k4 (by clear hv hw hw2 hw3 hw4 hw5 hw6 h4 h5 h6 k4; omega)] at h5
  have k5 := st_4d hw2 hw3 hw4 hw5 hw6 (st_4c hw2 hw3 hw4 k4 h5)
  rw [dvN_ k5 (by clear hv hw hw2 hw3 hw4 hw5 hw6 h4 h5 h6 k4 k5; omega)] at h6
  exact mdN_ (st_4e hw4 hw5 hw6 rfl k5 h6) (by clear hv hw hw2 hw3 hw4 hw5 hw6 h4 h5 h6 k4 k5; omega)
theorem st_4l {a b c d e f g h w w2 w3 w4 w5 w6 v : Nat} (ha : a ≤ 8) (hb : b ≤ 8) (hc : c ≤ 8) (hd : d ≤ 8) (he : e ≤ 8) (hf : f ≤ 8) (hg : g ≤ 8) (hh : h ≤ 8) (hv : v = 256 * w + a) (hw : w = 256 * w2 + b) (hw2 : w2 = 256 * w3 + c) (hw3 : w3 = 256 * w4 + d) (hw4 : w4 = 256 * w5 + e) (hw5 : w5 = 256 * w6 + f) (hw6 : w6 = 256 * h + g) : v < 1152921504606846976 := by omega
theorem e3F_8 {n : Nat} : e3F 8 n = 256 * (256 * (256 * (256 * (256 * (256 * (256 * pcN 8 (n / 72057594037927936) + pcN 8 (n / 281474976710656)) + pcN 8 (n / 1099511627776)) + pcN 8 (n / 4294967296)) + pcN 8 (n / 16777216)) + pcN 8 (n / 65536)) + pcN 8 (n / 256)) + pcN 8 n := by
  show 256 * (256 * (256 * (256 * (256 * (256 * (256 * (256 * 0 + pcN 8 (n / 256 / 256 / 256 / 256 / 256 / 256 / 256)) + pcN 8 (n / 256 / 256 / 256 / 256 / 256 / 256)) + pcN 8 (n / 256 / 256 / 256 / 256 / 256)) + pcN 8 (n / 256 / 256 / 256 / 256)) + pcN 8 (n / 256 / 256 / 256)) + pcN 8 (n / 256 / 256)) + pcN 8 (n / 256)) + pcN 8 n = _
  simp only [Nat.div_div_eq_div_mul, Nat.reduceMul, Nat.mul_zero, Nat.zero_add]
theorem pcN_64 {n : Nat} : pcN 64 n = pcN 8 n + pcN 8 (n / 256) + pcN 8 (n / 65536) + pcN 8 (n / 16777216) + pcN 8 (n / 4294967296) + pcN 8 (n / 1099511627776) + pcN 8 (n / 281474976710656) + pcN 8 (n / 72057594037927936) := by
  rw [show 64 = 56 + 8 from rfl, pcN_8 (k := 56), show 56 = 48 + 8 from rfl, pcN_8 (k := 48), show 48 = 40 + 8 from rfl, pcN_8 (k := 40), show 40 = 32 + 8 from rfl, pcN_8 (k := 32), show 32 = 24 + 8 from rfl, pcN_8 (k := 24), show 24 = 16 + 8 from rfl, pcN_8 (k := 16), show 16 = 8 + 8 from rfl, pcN_8 (k := 8)]
  simp only [Nat.div_div_eq_div_mul, Nat.reduceMul, Nat.add_assoc]
theorem pc_nat {n v1 v2 v3 v4 v5 v6 : Nat} (h : n < 18446744073709551616) (h1 : v1 = n - (n / 2 &&& 6148914691236517205)) (h2 : v2 = (v1 &&& 3689348814741910323) + (v1 / 4 &&& 3689348814741910323)) (h3 : v3 = (v2 + v2 / 16) &&& 1085102592571150095) (h4 : v4 = v3 + v3 / 256) (h5 : v5 = v4 + v4 / 65536) (h6 : v6 = v5 + v5 / 4294967296) : v2 < 9223372036854775808 ∧ v3 < 1152921504606846976 ∧ v6 % 128 = pcN 64 n := by
  have b2 : v2 < 9223372036854775808 := by
    have a1 : v1 &&& 3689348814741910323 ≤ 3689348814741910323 := Nat.and_le_right
    have a2 : v1 / 4 &&& 3689348814741910323 ≤ 3689348814741910323 := Nat.and_le_right
    rw [h2]
    exact Nat.lt_of_le_of_lt (Nat.add_le_add a1 a2) (by decide)
  have b3 : v3 < 1152921504606846976 := by
    rw [h3]
    exact Nat.lt_of_le_of_lt Nat.and_le_right (by decide)
  rw [show 6148914691236517205 = mkF 4 1 32 by decide +kernel, st_1 (show n < 4 ^ 32 from h)] at h1
  rw [show 3689348814741910323 = mkF 16 3 16 by decide +kernel, h1, show 32 = 2 * 16 from rfl, st_2] at h2
  rw [show 1085102592571150095 = mkF 256 15 8 by decide +kernel, h2, show 16 = 2 * 8 from rfl] at h3
  have h3 : v3 = e3F 8 n := h3.trans st_3
  rw [e3F_8] at h3
  exact ⟨b2, b3, (st_4 pcN_le pcN_le pcN_le pcN_le pcN_le pcN_le pcN_le pcN_le h3 rfl rfl rfl rfl rfl rfl h4 h5 h6).trans pcN_64.symm⟩
def us_ (a : Int64) (k : Int32) : Int64 := (a.toUInt64 >>> (k.toInt64.toUInt64 &&& Int64.toUInt64 63)).toInt64
def nL (a : Int64) : Nat := a.toBitVec.toNat
theorem nL_lt {a : Int64} : nL a < 18446744073709551616 := a.toBitVec.isLt
theorem us_N {a : Int64} {k : Int32} {j : Nat} (hk : (k.toInt64.toUInt64 &&& Int64.toUInt64 63).toNat % 64 = j) : nL (us_ a k) = nL a / 2 ^ j := by
  show (a.toUInt64 >>> (k.toInt64.toUInt64 &&& Int64.toUInt64 63)).toNat = _
  rw [UInt64.toNat_shiftRight, hk, Nat.shiftRight_eq_div_pow]
  rfl
theorem nL_and {a b : Int64} : nL (a &&& b) = nL a &&& nL b := BitVec.toNat_and _ _
theorem nL_sub {a b : Int64} (h : nL b ≤ nL a) : nL (a - b) = nL a - nL b := by
  show (a.toBitVec - b.toBitVec).toNat = _
  exact BitVec.toNat_sub_of_le h
theorem nL_add {a b : Int64} (h : nL a + nL b < 18446744073709551616) : nL (a + b) = nL a + nL b := by
  show (a.toBitVec + b.toBitVec).toNat = _
  rw [BitVec.toNat_add]
  exact Nat.mod_eq_of_lt h
/-- Long.bitCount -/
def bcV (a : Int64) : Int32 :=
  let v1 := a - (us_ a (Int32.ofInt 1) &&& Int64.ofInt 6148914691236517205)
  let v2 := (v1 &&& Int64.ofInt 3689348814741910323) + (us_ v1 (Int32.ofInt 2) &&& Int64.ofInt 3689348814741910323)
  let v3 := (v2 + us_ v2 (Int32.ofInt 4)) &&& Int64.ofInt 1085102592571150095
  let v4 := v3 + us_ v3 (Int32.ofInt 8)
  let v5 := v4 + us_ v4 (Int32.ofInt 16)
  let v6 := v5 + us_ v5 (Int32.ofInt 32)
  v6.toInt32 &&& Int32.ofInt 127
theorem i127 {x : Int64} : (x.toInt32 &&& Int32.ofInt 127).toInt = ((nL x % 128 : Nat) : Int) := by
  have e : (x.toInt32 &&& Int32.ofInt 127).toBitVec.toNat = nL x % 128 := by
    show (x.toInt32.toBitVec &&& (127 : BitVec 32)).toNat = _
    rw [BitVec.toNat_and]
    show (x.toInt32.toBitVec).toNat &&& 127 = _
    have h : x.toInt32.toBitVec.toNat = nL x % 4294967296 := by
      show (x.toBitVec.signExtend 32).toNat = _
      rw [BitVec.signExtend_eq_setWidth_of_le _ (by decide), BitVec.toNat_setWidth]
      rfl
    rw [h]
    exact (Nat.and_two_pow_sub_one_eq_mod _ 7).trans (Nat.mod_mod_of_dvd _ (by decide))
  show (x.toInt32 &&& Int32.ofInt 127).toBitVec.toInt = _
  rw [BitVec.toInt_eq_toNat_of_lt (by rw [e]; omega), e]
theorem bcV_eq {a : Int64} : (bcV a).toInt = (pcN 64 (nL a) : Nat) := by
  unfold bcV
  dsimp only
  rw [i127]
  have s1 : ∀ {x : Int64}, nL (us_ x (Int32.ofInt 1)) = nL x / 2 := us_N (j := 1) (by decide +kernel)
  have s2 : ∀ {x : Int64}, nL (us_ x (Int32.ofInt 2)) = nL x / 4 := us_N (j := 2) (by decide +kernel)
  have s4 : ∀ {x : Int64}, nL (us_ x (Int32.ofInt 4)) = nL x / 16 := us_N (j := 4) (by decide +kernel)
  have s8 : ∀ {x : Int64}, nL (us_ x (Int32.ofInt 8)) = nL x / 256 := us_N (j := 8) (by decide +kernel)
  have s16 : ∀ {x : Int64}, nL (us_ x (Int32.ofInt 16)) = nL x / 65536 := us_N (j := 16) (by decide +kernel)
  have s32 : ∀ {x : Int64}, nL (us_ x (Int32.ofInt 32)) = nL x / 4294967296 := us_N (j := 32) (by decide +kernel)
  generalize e1 : a - (us_ a (Int32.ofInt 1) &&& Int64.ofInt 6148914691236517205) = v1
  generalize e2 : (v1 &&& Int64.ofInt 3689348814741910323) + (us_ v1 (Int32.ofInt 2) &&& Int64.ofInt 3689348814741910323) = v2
  generalize e3 : (v2 + us_ v2 (Int32.ofInt 4)) &&& Int64.ofInt 1085102592571150095 = v3
  generalize e4 : v3 + us_ v3 (Int32.ofInt 8) = v4
  generalize e5 : v4 + us_ v4 (Int32.ofInt 16) = v5
  generalize e6 : v5 + us_ v5 (Int32.ofInt 32) = v6
  have m1 : nL (Int64.ofInt 6148914691236517205) = 6148914691236517205 := by decide +kernel
  have m2 : nL (Int64.ofInt 3689348814741910323) = 3689348814741910323 := by decide +kernel
  have m3 : nL (Int64.ofInt 1085102592571150095) = 1085102592571150095 := by decide +kernel
  have n1 : nL v1 = nL a - (nL a / 2 &&& 6148914691236517205) := by
    have le : nL (us_ a (Int32.ofInt 1) &&& Int64.ofInt 6148914691236517205) ≤ nL a := by
      rw [nL_and, s1]
      exact Nat.le_trans Nat.and_le_left (Nat.div_le_self _ _)
    rw [← e1, nL_sub le, nL_and, s1, m1]
  have n2 : nL v2 = (nL v1 &&& 3689348814741910323) + (nL v1 / 4 &&& 3689348814741910323) := by
    rw [← e2, nL_add, nL_and, nL_and, s2, m2]
    rw [nL_and, nL_and, s2, m2]
    exact Nat.lt_of_le_of_lt (Nat.add_le_add Nat.and_le_right Nat.and_le_right) (by decide)
  have b2 := (pc_nat nL_lt n1 n2 rfl rfl rfl rfl).1
  have n3 : nL v3 = (nL v2 + nL v2 / 16) &&& 1085102592571150095 := by
    rw [← e3, nL_and, nL_add, s4, m3]
    rw [s4]
    omega
  have b3 := (pc_nat nL_lt n1 n2 n3 rfl rfl rfl).2.1
  have n4 : nL v4 = nL v3 + nL v3 / 256 := by
    rw [← e4, nL_add, s8]
    rw [s8]
    omega
  have n5 : nL v5 = nL v4 + nL v4 / 65536 := by
    rw [← e5, nL_add, s16]
    rw [s16, n4]
    clear n1 n2 n3 e1 e2 e3 e4 e5 e6
    omega
  have n6 : nL v6 = nL v5 + nL v5 / 4294967296 := by
    have l4 : nL v4 < 2305843009213693952 := by
      rw [n4]
      clear n1 n2 n3 e1 e2 e3 e4 e5 e6 n5
      omega
    have l5 : nL v5 < 4611686018427387904 := by
      rw [n5]
      clear n1 n2 n3 e1 e2 e3 e4 e5 e6 n4
      omega
    rw [← e6, nL_add, s32]
    rw [s32]
    clear n1 n2 n3 e1 e2 e3 e4 e5 e6 n4 n5
    omega
  rw [(pc_nat nL_lt n1 n2 n3 n4 n5 n6).2.2]
theorem i1_ {x : Int64} : ((x &&& Int64.ofNat 1).toInt32).toInt = ((nL x % 2 : Nat) : Int) := by
  have e : (x &&& Int64.ofNat 1).toInt32.toBitVec.toNat = nL x % 2 := by
    show ((x &&& Int64.ofNat 1).toBitVec.signExtend 32).toNat = _
    rw [BitVec.signExtend_eq_setWidth_of_le _ (by decide), BitVec.toNat_setWidth]
    have h : (x &&& Int64.ofNat 1).toBitVec.toNat = nL x % 2 := by
      rw [show (x &&& Int64.ofNat 1).toBitVec.toNat = nL x &&& nL (Int64.ofNat 1) from nL_and, show nL (Int64.ofNat 1) = 1 by decide +kernel]
      exact Nat.and_one_is_mod _
    rw [h]
    exact Nat.mod_eq_of_lt (by omega)
  show (x &&& Int64.ofNat 1).toInt32.toBitVec.toInt = _
  rw [BitVec.toInt_eq_toNat_of_lt (by rw [e]; omega), e]
theorem sh_63 : ∀ j, j < 64 → ((Int32.ofNat j).toInt64.toUInt64 &&& Int64.toUInt64 63).toNat % 64 = j := by decide +kernel
/-- bit by bit -/
def cbA (a : Int64) : Nat → Int32
  | 0 => 0
  | k + 1 => cbA a k + (us_ a (Int32.ofNat k) &&& Int64.ofNat 1).toInt32
theorem cbA_eq {a : Int64} : ∀ {k : Nat}, k ≤ 64 → (cbA a k).toInt = (pcN k (nL a) : Nat)
  | 0, _ => rfl
  | k + 1, h => by
    have h1 := cbA_eq (a := a) (k := k) (by omega)
    have h2 := pcN_le (k := k) (n := nL a)
    have h3 : ((us_ a (Int32.ofNat k) &&& Int64.ofNat 1).toInt32).toInt = ((nL a / 2 ^ k % 2 : Nat) : Int) := by
      rw [i1_, us_N (sh_63 k (by omega))]
    show (cbA a k + (us_ a (Int32.ofNat k) &&& Int64.ofNat 1).toInt32).toInt = ((pcN k (nL a) + nL a / 2 ^ k % 2 : Nat) : Int)
    generalize (us_ a (Int32.ofNat k) &&& Int64.ofNat 1).toInt32 = y at *
    have hz : nL a / 2 ^ k % 2 < 2 := Nat.mod_lt _ (by decide)
    generalize nL a / 2 ^ k % 2 = z at *
    rw [i_add (by omega) (by omega), h1, h3]
    omega
theorem bc_cb {a : Int64} : bcV a = cbA a 64 := Int32.toInt_inj.mp (bcV_eq.trans (cbA_eq (Nat.le_refl _)).symm)
/-- four words -/
def szA (b : Int64 → Int32) (f : Nat → Int64) : Nat → Int32
  | 0 => 0
  | k + 1 => szA b f k + b (f k)
theorem szA_eq {b b2 : Int64 → Int32} {f f2 : Nat → Int64} (hb : ∀ v, b v = b2 v) : ∀ {k : Nat}, (∀ x, x < k → f x = f2 x) → szA b f k = szA b2 f2 k
  | 0, _ => rfl
  | k + 1, h => by
    show szA b f k + b (f k) = szA b2 f2 k + b2 (f2 k)
    rw [szA_eq hb (fun x hx => h x (by omega)), h k (by omega), hb]
/-- a world's word and bit -/
theorem wd_n : ∀ n, n < 256 → (Int32.ofNat n >>> (Int32.ofInt 6 &&& 31)).toInt = ((n / 64 : Nat) : Int) ∧ (Int32.ofNat n / Int32.ofInt 64).toInt = ((n / 64 : Nat) : Int) ∧ (Int32.ofNat n &&& Int32.ofInt 63) = Int32.ofNat (n % 64) ∧ Int32.ofNat n % Int32.ofInt 64 = Int32.ofNat (n % 64) := by decide +kernel
end
section
/-! sets of worlds: counted, asked, compared -/
theorem fo_J13 : f_ok5 fl_J13 pl_J13 nw_J13 kl_J13 il_J13 = true := by decide +kernel
theorem s_J13_bitCount : f_do r_J13_bitCount_95d88 (fun As h rv h' => ∀ a : Int64, As = [.long a] → True → h' = h ∧ rv = some (.int (bcV a))) := by
  refine do_ofP (fun a : Int64 => [.long a]) (fun _ _ => True) (fun a h rv h' => h' = h ∧ rv = some (.int (bcV a))) [] (fun _ _ => []) 60 fo_J13 no_sp k_J13_bitCount_95d88 (fun _ _ _ => no_hd) (fun a h0 _ => ?_)
  exact ⟨rfl, rfl⟩
def in_sz (p : Nat) (f : Nat → Int64) (h0 : fH) : fL_ → List Value → fH → Prop := fun lg vs w => ∃ t : Int32, f_sub [(2, false, .int t), (1, false, .int (szA bcV f t.toInt.toNat)), (0, false, .ref p)] lg ∧ vs = [] ∧ w = h0 ∧ 0 ≤ t.toInt ∧ t.toInt ≤ 4
set_option maxHeartbeats 4000000 in
theorem s_X1_size : f_do r_X1_size (fun As h rv h' => ∀ a : bxA, As = [.ref a.1] → bx a h → h' = h ∧ rv = some (.int (szA bcV a.2.2.2.2 4))) := by
  refine do_ofP (fun a : bxA => [.ref a.1]) (fun a h => bx a h) (fun a h rv h' => h' = h ∧ rv = some (.int (szA bcV a.2.2.2.2 4))) [(139, 1, _)] (fun a h => [(4, in_sz a.1 a.2.2.2.2 h)]) 60 fo_X1 (List.forall_mem_cons.mpr ⟨sp_one rfl s_J13_bitCount, no_sp⟩) k_X1_size (fun a h0 hp => ?_) (fun a h0 hp => ?_)
  · refine List.forall_mem_cons.mpr ⟨?_, fun _ h => absurd h List.not_mem_nil⟩
    obtain ⟨p, fs, a, cA, f⟩ := a
    obtain ⟨hp, h0a, ha⟩ := hp
    have hp : h0 p = some (.inr (1, fs)) := hp
    have h0a : fs.getD 0 .null = .ref a := h0a
    have ha : h0 a = some (.inl (cA, 4, .inr (.inl f))) := ha
    rintro lg vs w ⟨t, hs, rfl, ew, t0, t4⟩
    have ew : w = h0 := ew
    have g1 : eG fl_X1 13 (w p) = .ref a := by
      rw [ew, hp, ← h0a]
      rfl
    have wa : w a = some (.inl (cA, 4, .inr (.inl f))) := by rw [ew]; exact ha
    have el : (Int32.ofNat (eL (w (rv_ (eG fl_X1 13 (w p)))))).toInt = 4 := by
      rw [g1]
      show (Int32.ofNat (eL (w a))).toInt = 4
      rw [wa]
      exact e4_
    refine ⟨_, 60, hs, fun hc => ?_, fun hc => ?_⟩
    · have hc : (Int32.ofNat (eL (w (rv_ (eG fl_X1 13 (w p)))))).toInt ≤ t.toInt := hc
      rw [el] at hc
      refine ⟨ew, ?_⟩
      show some (Value.int (szA bcV f t.toInt.toNat)) = some (.int (szA bcV f 4))
      rw [t_end t4 hc]
    · have hc : ¬ (Int32.ofNat (eL (w (rv_ (eG fl_X1 13 (w p)))))).toInt ≤ t.toInt := hc
      rw [el] at hc
      obtain ⟨i1, i2, i3⟩ := t_inc t0 (show t.toInt < 4 by omega)
      have eu : eJ (w (rv_ (eG fl_X1 13 (w p)))) t.toNatClampNeg = f t.toInt.toNat := by
        rw [g1]
        show eJ (w a) t.toInt.toNat = _
        rw [wa]
        rfl
      intro rv h1 hx
      obtain ⟨e1, rfl⟩ := hx (eJ (w (rv_ (eG fl_X1 13 (w p)))) t.toNatClampNeg) rfl trivial
      have e1 : h1 = w := e1
      refine ⟨t + 1, ⟨rfl, ?_, rfl, trivial⟩, rfl, e1.trans ew, i1, i2⟩
      show some (false, Value.int (szA bcV f t.toInt.toNat + bcV (eJ (w (rv_ (eG fl_X1 13 (w p)))) t.toNatClampNeg))) = some (false, .int (szA bcV f (t + 1).toInt.toNat))
      rw [eu, i3]
      rfl
  · obtain ⟨p, fs, a, cA, f⟩ := a
    exact ⟨0, ⟨rfl, rfl, rfl, trivial⟩, rfl, rfl, by decide, by decide⟩
def in_cb (a : Int64) (h0 : fH) : fL_ → List Value → fH → Prop := fun lg vs w => ∃ t : Int32, f_sub [(3, false, .int t), (2, false, .int (cbA a t.toInt.toNat)), (0, true, .long a)] lg ∧ vs = [] ∧ w = h0 ∧ 0 ≤ t.toInt ∧ t.toInt ≤ 64
set_option maxHeartbeats 4000000 in
theorem s_X12_countBits : f_do r_X12_countBits (fun As h rv h' => ∀ a : Int64, As = [.long a] → True → h' = h ∧ rv = some (.int (cbA a 64))) := by
  refine do_ofP (fun a : Int64 => [.long a]) (fun _ _ => True) (fun a h rv h' => h' = h ∧ rv = some (.int (cbA a 64))) [] (fun a h => [(4, in_cb a h)]) 60 fo_X12 no_sp k_X12_countBits (fun a h0 hp => ?_) (fun a h0 hp => ?_)
  · refine List.forall_mem_cons.mpr ⟨?_, fun _ h => absurd h List.not_mem_nil⟩
    rintro lg vs w ⟨t, hs, rfl, ew, t0, t4⟩
    have ew : w = h0 := ew
    have e64 : (Int32.ofInt 64).toInt = 64 := by decide
    refine ⟨_, 60, hs, fun hc => ?_, fun hc => ?_⟩
    · have hc : (Int32.ofInt 64).toInt ≤ t.toInt := hc
      rw [e64] at hc
      refine ⟨ew, ?_⟩
      show some (Value.int (cbA a t.toInt.toNat)) = some (.int (cbA a 64))
      rw [show t.toInt.toNat = 64 by omega]
    · have hc : ¬ (Int32.ofInt 64).toInt ≤ t.toInt := hc
      rw [e64] at hc
      have i0 := i_inc t0 (by omega)
      have i3 : (t + 1).toInt.toNat = t.toInt.toNat + 1 := by rw [i0]; omega
      have et : t = Int32.ofNat t.toInt.toNat := n32_of (by omega)
      refine ⟨t + 1, ⟨rfl, ?_, rfl, trivial⟩, rfl, ew, by omega, by omega⟩
      rw [i3]
      show some (false, Value.int (cbA a t.toInt.toNat + (us_ a t &&& Int64.ofNat 1).toInt32)) = some (false, .int (cbA a t.toInt.toNat + (us_ a (Int32.ofNat t.toInt.toNat) &&& Int64.ofNat 1).toInt32))
      rw [← et]
  · exact ⟨0, ⟨rfl, rfl, rfl, trivial⟩, rfl, rfl, by decide, by decide⟩
/-- the reference's sentences in its one array -/
abbrev rtA : Type := (Nat × List Value) × Nat × ClassId × (Nat → Int64)
def rt (x : rtA) (h : fH) : Prop := h x.1.1 = some (.inr (12, x.1.2)) ∧ x.1.2.getD 2 .null = .ref x.2.1 ∧ h x.2.1 = some (.inl (x.2.2.1, 240, .inr (.inl x.2.2.2)))
def rtW (g : Nat → Int64) (s : Int32) : Nat → Int64 := fun x => g (4 * s.toInt.toNat + x)
theorem rt_at {x : rtA} {h : fH} (hr : rt x h) {s t : Int32} (hs : 0 ≤ s.toInt ∧ s.toInt < 60) (t0 : 0 ≤ t.toInt) (t4 : t.toInt ≤ 4) : eJ (h (rv_ (eG fl_X12 7 (h x.1.1)))) (Int32.ofInt 4 * s + t).toNatClampNeg = rtW x.2.2.2 s t.toInt.toNat := by
  obtain ⟨hp, h2, ha⟩ := hr
  have g1 : eG fl_X12 7 (h x.1.1) = .ref x.2.1 := by
    rw [hp, ← h2]
    rfl
  rw [g1]
  show eJ (h x.2.1) (Int32.ofInt 4 * s + t).toInt.toNat = _
  rw [ha, four_ix hs t0 t4]
  rfl
def in_ca (x : rtA) (s : Int32) (h0 : fH) : fL_ → List Value → fH → Prop := fun lg vs w => ∃ t : Int32, f_sub [(3, false, .int t), (2, false, .int (szA (fun v => cbA v 64) (rtW x.2.2.2 s) t.toInt.toNat)), (0, false, .ref x.1.1), (1, false, .int s)] lg ∧ vs = [] ∧ w = h0 ∧ 0 ≤ t.toInt ∧ t.toInt ≤ 4
set_option maxHeartbeats 4000000 in
theorem s_X12_countAt : f_do r_X12_countAt (fun As h rv h' => ∀ a : rtA × Int32, As = [.ref a.1.1.1, .int a.2] → (rt a.1 h ∧ 0 ≤ a.2.toInt ∧ a.2.toInt < 60) → h' = h ∧ rv = some (.int (szA (fun v => cbA v 64) (rtW a.1.2.2.2 a.2) 4))) := by
  refine do_ofP (fun a : rtA × Int32 => [.ref a.1.1.1, .int a.2]) (fun a h => rt a.1 h ∧ 0 ≤ a.2.toInt ∧ a.2.toInt < 60) (fun a h rv h' => h' = h ∧ rv = some (.int (szA (fun v => cbA v 64) (rtW a.1.2.2.2 a.2) 4))) [(679, 1, _)] (fun a h => [(4, in_ca a.1 a.2 h)]) 60 fo_X12 (List.forall_mem_cons.mpr ⟨sp_one rfl s_X12_countBits, no_sp⟩) k_X12_countAt (fun a h0 hp => ?_) (fun a h0 hp => ?_)
  · refine List.forall_mem_cons.mpr ⟨?_, fun _ h => absurd h List.not_mem_nil⟩
    obtain ⟨x, s⟩ := a
    obtain ⟨hr, hs0⟩ := hp
    have hr : rt x h0 := hr
    have hs0 : 0 ≤ s.toInt ∧ s.toInt < 60 := hs0
    rintro lg vs w ⟨t, hs, rfl, ew, t0, t4⟩
    have ew : w = h0 := ew
    have e4 : (Int32.ofInt 4).toInt = 4 := by decide
    refine ⟨_, 60, hs, fun hc => ?_, fun hc => ?_⟩
    · have hc : (Int32.ofInt 4).toInt ≤ t.toInt := hc
      rw [e4] at hc
      refine ⟨ew, ?_⟩
      show some (Value.int (szA (fun v => cbA v 64) (rtW x.2.2.2 s) t.toInt.toNat)) = some (.int (szA (fun v => cbA v 64) (rtW x.2.2.2 s) 4))
      rw [t_end t4 hc]
    · have hc : ¬ (Int32.ofInt 4).toInt ≤ t.toInt := hc
      rw [e4] at hc
      obtain ⟨i1, i2, i3⟩ := t_inc t0 (show t.toInt < 4 by omega)
      have eu := rt_at (h := w) (by rw [ew]; exact hr) hs0 t0 t4
      intro rv h1 hx
      obtain ⟨e1, rfl⟩ := hx (eJ (w (rv_ (eG fl_X12 7 (w x.1.1)))) (Int32.ofInt 4 * s + t).toNatClampNeg) rfl trivial
      have e1 : h1 = w := e1
      refine ⟨t + 1, ⟨rfl, ?_, rfl, rfl, trivial⟩, rfl, e1.trans ew, i1, i2⟩
      show some (false, Value.int (szA (fun v => cbA v 64) (rtW x.2.2.2 s) t.toInt.toNat + cbA (eJ (w (rv_ (eG fl_X12 7 (w x.1.1)))) (Int32.ofInt 4 * s + t).toNatClampNeg) 64)) = some (false, .int (szA (fun v => cbA v 64) (rtW x.2.2.2 s) (t + 1).toInt.toNat))
      rw [eu, i3]
      rfl
  · exact ⟨0, ⟨rfl, rfl, rfl, rfl, trivial⟩, rfl, rfl, by decide, by decide⟩
/-- word by word -/
def o_in (u v : Int64) : Int64 := u &&& (v ^^^ m1_)
def allB (o : Int64 → Int64 → Int64) (f f2 : Nat → Int64) : Nat → Bool
  | 0 => true
  | k + 1 => allB o f f2 k && decide ((o (f k) (f2 k)).toInt = (Int64.ofNat 0).toInt)
theorem allB_eq {o : Int64 → Int64 → Int64} {f f2 g g2 : Nat → Int64} : ∀ {k : Nat}, (∀ x, x < k → f x = g x) → (∀ x, x < k → f2 x = g2 x) → allB o f f2 k = allB o g g2 k
  | 0, _, _ => rfl
  | k + 1, h, h2 => by
    show (allB o f f2 k && decide ((o (f k) (f2 k)).toInt = (Int64.ofNat 0).toInt)) = (allB o g g2 k && decide ((o (g k) (g2 k)).toInt = (Int64.ofNat 0).toInt))
    rw [allB_eq (fun x hx => h x (by omega)) (fun x hx => h2 x (by omega)), h k (by omega), h2 k (by omega)]
theorem allB_s {o : Int64 → Int64 → Int64} {f f2 : Nat → Int64} {k : Nat} (h : allB o f f2 k = true) : allB o f f2 (k + 1) = decide ((o (f k) (f2 k)).toInt = (Int64.ofNat 0).toInt) := by
  show (allB o f f2 k && _) = _
  rw [h, Bool.true_and]
theorem allB_n {o : Int64 → Int64 → Int64} {f f2 : Nat → Int64} {k : Nat} : ∀ {m : Nat}, allB o f f2 k = false → allB o f f2 (k + m) = false
  | 0, h => h
  | m + 1, h => by
    show (allB o f f2 (k + m) && _) = false
    rw [allB_n h, Bool.false_and]
theorem wv_0 {b : Bool} (h : (wv b).toInt = 0) : b = false := by
  cases b with
  | false => rfl
  | true => exact absurd h (by decide)
theorem wv_1 {b : Bool} (h : ¬ (wv b).toInt = 0) : b = true := by
  cases b with
  | true => rfl
  | false => exact absurd (by decide) h
def in_al (o : Int64 → Int64 → Int64) (p p2 : Nat) (f f2 : Nat → Int64) (h0 : fH) : fL_ → List Value → fH → Prop := fun lg vs w => ∃ t : Int32, f_sub [(2, false, .int t), (0, false, .ref p), (1, false, .ref p2)] lg ∧ vs = [] ∧ w = h0 ∧ 0 ≤ t.toInt ∧ t.toInt ≤ 4 ∧ allB o f f2 t.toInt.toNat = true
def in_rl (o : Int64 → Int64 → Int64) (x : rtA) (a b : Int32) (h0 : fH) : fL_ → List Value → fH → Prop := fun lg vs w => ∃ t : Int32, f_sub [(4, false, .int t), (3, false, .int (wv (allB o (rtW x.2.2.2 a) (rtW x.2.2.2 b) t.toInt.toNat))), (0, false, .ref x.1.1), (1, false, .int a), (2, false, .int b)] lg ∧ vs = [] ∧ w = h0 ∧ 0 ≤ t.toInt ∧ t.toInt ≤ 4
set_option maxHeartbeats 4000000 in
theorem s_X1_within : f_do r_X1_within (fun As h rv h' => ∀ a : bxA × bxA, As = [.ref a.1.1, .ref a.2.1] → (bx a.1 h ∧ bx a.2 h) → h' = h ∧ rv = some (.int (wv (allB o_in a.1.2.2.2.2 a.2.2.2.2.2 4)))) := by
  refine do_ofP (fun a : bxA × bxA => [.ref a.1.1, .ref a.2.1]) (fun a h => bx a.1 h ∧ bx a.2 h) (fun a h rv h' => h' = h ∧ rv = some (.int (wv (allB o_in a.1.2.2.2.2 a.2.2.2.2.2 4)))) [] (fun a h => [(2, in_al o_in a.1.1 a.2.1 a.1.2.2.2.2 a.2.2.2.2.2 h)]) 60 fo_X1 no_sp k_X1_within (fun a h0 hp => ?_) (fun a h0 hp => ?_)
  · refine List.forall_mem_cons.mpr ⟨?_, fun _ h => absurd h List.not_mem_nil⟩
    obtain ⟨⟨p, fs, a, cA, f⟩, ⟨p2, fs2, a2, cA2, f2⟩⟩ := a
    obtain ⟨⟨hp, h0a, ha⟩, ⟨hp2, h0a2, ha2⟩⟩ := hp
    have hp : h0 p = some (.inr (1, fs)) := hp
    have h0a : fs.getD 0 .null = .ref a := h0a
    have ha : h0 a = some (.inl (cA, 4, .inr (.inl f))) := ha
    have hp2 : h0 p2 = some (.inr (1, fs2)) := hp2
    have h0a2 : fs2.getD 0 .null = .ref a2 := h0a2
    have ha2 : h0 a2 = some (.inl (cA2, 4, .inr (.inl f2))) := ha2
    rintro lg vs w ⟨t, hs, rfl, ew, t0, t4, hB⟩
    have ew : w = h0 := ew
    have hB : allB o_in f f2 t.toInt.toNat = true := hB
    have g1 : eG fl_X1 13 (w p) = .ref a := by
      rw [ew, hp, ← h0a]
      rfl
    have g2 : eG fl_X1 13 (w p2) = .ref a2 := by
      rw [ew, hp2, ← h0a2]
      rfl
    have el : (Int32.ofNat (eL (w (rv_ (eG fl_X1 13 (w p)))))).toInt = 4 := by
      rw [g1]
      show (Int32.ofNat (eL (w a))).toInt = 4
      rw [ew, ha]
      exact e4_
    have el2 : (Int32.ofNat (eL (w (rv_ (eG fl_X1 13 (w p2)))))).toInt = 4 := by
      rw [g2]
      show (Int32.ofNat (eL (w a2))).toInt = 4
      rw [ew, ha2]
      exact e4_
    have eu : eJ (w (rv_ (eG fl_X1 13 (w p)))) t.toNatClampNeg = f t.toInt.toNat := by
      rw [g1]
      show eJ (w a) t.toInt.toNat = _
      rw [ew, ha]
      rfl
    have eu2 : eJ (w (rv_ (eG fl_X1 13 (w p2)))) t.toNatClampNeg = f2 t.toInt.toNat := by
      rw [g2]
      show eJ (w a2) t.toInt.toNat = _
      rw [ew, ha2]
      rfl
    have yes : 4 ≤ t.toInt → w = h0 ∧ some (Value.int 1) = some (.int (wv (allB o_in f f2 4))) := fun hc => by
      refine ⟨ew, ?_⟩
      rw [t_end t4 hc] at hB
      rw [hB]
      rfl
    refine ⟨_, 60, hs, fun hc => ?_, fun hc => ⟨fun hd => ?_, fun hd => ⟨fun he => ?_, fun he => ?_⟩⟩⟩
    · have hc : (Int32.ofNat (eL (w (rv_ (eG fl_X1 13 (w p)))))).toInt ≤ t.toInt := hc
      rw [el] at hc
      exact yes hc
    · have hd : (Int32.ofNat (eL (w (rv_ (eG fl_X1 13 (w p2)))))).toInt ≤ t.toInt := hd
      rw [el2] at hd
      exact yes hd
    · have hc : ¬ (Int32.ofNat (eL (w (rv_ (eG fl_X1 13 (w p)))))).toInt ≤ t.toInt := hc
      rw [el] at hc
      obtain ⟨i1, i2, i3⟩ := t_inc t0 (show t.toInt < 4 by omega)
      have he : ck_cm .eq (lg_cmp (eJ (w (rv_ (eG fl_X1 13 (w p)))) t.toNatClampNeg &&& (eJ (w (rv_ (eG fl_X1 13 (w p2)))) t.toNatClampNeg ^^^ m1_)) (Int64.ofNat 0)).toInt 0 := he
      have he : ((eJ (w (rv_ (eG fl_X1 13 (w p)))) t.toNatClampNeg &&& (eJ (w (rv_ (eG fl_X1 13 (w p2)))) t.toNatClampNeg ^^^ m1_))).toInt = (Int64.ofNat 0).toInt := ck_cm_lg.mp he
      rw [eu, eu2] at he
      refine ⟨t + 1, ⟨rfl, rfl, rfl, trivial⟩, rfl, ew, i1, i2, ?_⟩
      show allB o_in f f2 (t + 1).toInt.toNat = true
      rw [i3, allB_s hB]
      exact decide_eq_true he
    · have hc : ¬ (Int32.ofNat (eL (w (rv_ (eG fl_X1 13 (w p)))))).toInt ≤ t.toInt := hc
      rw [el] at hc
      have he : ¬ ck_cm .eq (lg_cmp (eJ (w (rv_ (eG fl_X1 13 (w p)))) t.toNatClampNeg &&& (eJ (w (rv_ (eG fl_X1 13 (w p2)))) t.toNatClampNeg ^^^ m1_)) (Int64.ofNat 0)).toInt 0 := he
      have he : ¬ ((eJ (w (rv_ (eG fl_X1 13 (w p)))) t.toNatClampNeg &&& (eJ (w (rv_ (eG fl_X1 13 (w p2)))) t.toNatClampNeg ^^^ m1_))).toInt = (Int64.ofNat 0).toInt := fun z => he (ck_cm_lg.mpr z)
      rw [eu, eu2] at he
      have hn : allB o_in f f2 (t.toInt.toNat + 1) = false := by
        rw [allB_s hB]
        exact decide_eq_false he
      have h4 : allB o_in f f2 4 = false := by
        rw [show 4 = t.toInt.toNat + 1 + (3 - t.toInt.toNat) by omega]
        exact allB_n hn
      refine ⟨ew, ?_⟩
      show some (Value.int 0) = some (.int (wv (allB o_in f f2 4)))
      rw [h4]
      rfl
  · exact ⟨0, ⟨rfl, rfl, rfl, trivial⟩, rfl, rfl, by decide, by decide, rfl⟩
set_option maxHeartbeats 4000000 in
theorem s_X1_apart : f_do r_X1_apart (fun As h rv h' => ∀ a : bxA × bxA, As = [.ref a.1.1, .ref a.2.1] → (bx a.1 h ∧ bx a.2 h) → h' = h ∧ rv = some (.int (wv (allB o_meet a.1.2.2.2.2 a.2.2.2.2.2 4)))) := by
  refine do_ofP (fun a : bxA × bxA => [.ref a.1.1, .ref a.2.1]) (fun a h => bx a.1 h ∧ bx a.2 h) (fun a h rv h' => h' = h ∧ rv = some (.int (wv (allB o_meet a.1.2.2.2.2 a.2.2.2.2.2 4)))) [] (fun a h => [(2, in_al o_meet a.1.1 a.2.1 a.1.2.2.2.2 a.2.2.2.2.2 h)]) 60 fo_X1 no_sp k_X1_apart (fun a h0 hp => ?_) (fun a h0 hp => ?_)
  · refine List.forall_mem_cons.mpr ⟨?_, fun _ h => absurd h List.not_mem_nil⟩
    obtain ⟨⟨p, fs, a, cA, f⟩, ⟨p2, fs2, a2, cA2, f2⟩⟩ := a
    obtain ⟨⟨hp, h0a, ha⟩, ⟨hp2, h0a2, ha2⟩⟩ := hp
    have hp : h0 p = some (.inr (1, fs)) := hp
    have h0a : fs.getD 0 .null = .ref a := h0a
    have ha : h0 a = some (.inl (cA, 4, .inr (.inl f))) := ha
    have hp2 : h0 p2 = some (.inr (1, fs2)) := hp2
    have h0a2 : fs2.getD 0 .null = .ref a2 := h0a2
    have ha2 : h0 a2 = some (.inl (cA2, 4, .inr (.inl f2))) := ha2
    rintro lg vs w ⟨t, hs, rfl, ew, t0, t4, hB⟩
    have ew : w = h0 := ew
    have hB : allB o_meet f f2 t.toInt.toNat = true := hB
    have g1 : eG fl_X1 13 (w p) = .ref a := by
      rw [ew, hp, ← h0a]
      rfl
    have g2 : eG fl_X1 13 (w p2) = .ref a2 := by
      rw [ew, hp2, ← h0a2]
      rfl
    have el : (Int32.ofNat (eL (w (rv_ (eG fl_X1 13 (w p)))))).toInt = 4 := by
      rw [g1]
      show (Int32.ofNat (eL (w a))).toInt = 4
      rw [ew, ha]
      exact e4_
    have el2 : (Int32.ofNat (eL (w (rv_ (eG fl_X1 13 (w p2)))))).toInt = 4 := by
      rw [g2]
      show (Int32.ofNat (eL (w a2))).toInt = 4
      rw [ew, ha2]
      exact e4_
    have eu : eJ (w (rv_ (eG fl_X1 13 (w p)))) t.toNatClampNeg = f t.toInt.toNat := by
      rw [g1]
      show eJ (w a) t.toInt.toNat = _
      rw [ew, ha]
      rfl
    have eu2 : eJ (w (rv_ (eG fl_X1 13 (w p2)))) t.toNatClampNeg = f2 t.toInt.toNat := by
      rw [g2]
      show eJ (w a2) t.toInt.toNat = _
      rw [ew, ha2]
      rfl
    have yes : 4 ≤ t.toInt → w = h0 ∧ some (Value.int 1) = some (.int (wv (allB o_meet f f2 4))) := fun hc => by
      refine ⟨ew, ?_⟩
      rw [t_end t4 hc] at hB
      rw [hB]
      rfl
    refine ⟨_, 60, hs, fun hc => ?_, fun hc => ⟨fun hd => ?_, fun hd => ⟨fun he => ?_, fun he => ?_⟩⟩⟩
    · have hc : (Int32.ofNat (eL (w (rv_ (eG fl_X1 13 (w p)))))).toInt ≤ t.toInt := hc
      rw [el] at hc
      exact yes hc
    · have hd : (Int32.ofNat (eL (w (rv_ (eG fl_X1 13 (w p2)))))).toInt ≤ t.toInt := hd
      rw [el2] at hd
      exact yes hd
    · have hc : ¬ (Int32.ofNat (eL (w (rv_ (eG fl_X1 13 (w p)))))).toInt ≤ t.toInt := hc
      rw [el] at hc
      obtain ⟨i1, i2, i3⟩ := t_inc t0 (show t.toInt < 4 by omega)
      have he : ck_cm .eq (lg_cmp (eJ (w (rv_ (eG fl_X1 13 (w p)))) t.toNatClampNeg &&& eJ (w (rv_ (eG fl_X1 13 (w p2)))) t.toNatClampNeg) (Int64.ofNat 0)).toInt 0 := he
      have he : ((eJ (w (rv_ (eG fl_X1 13 (w p)))) t.toNatClampNeg &&& eJ (w (rv_ (eG fl_X1 13 (w p2)))) t.toNatClampNeg)).toInt = (Int64.ofNat 0).toInt := ck_cm_lg.mp he
      rw [eu, eu2] at he
      refine ⟨t + 1, ⟨rfl, rfl, rfl, trivial⟩, rfl, ew, i1, i2, ?_⟩
      show allB o_meet f f2 (t + 1).toInt.toNat = true
      rw [i3, allB_s hB]
      exact decide_eq_true he
    · have hc : ¬ (Int32.ofNat (eL (w (rv_ (eG fl_X1 13 (w p)))))).toInt ≤ t.toInt := hc
      rw [el] at hc
      have he : ¬ ck_cm .eq (lg_cmp (eJ (w (rv_ (eG fl_X1 13 (w p)))) t.toNatClampNeg &&& eJ (w (rv_ (eG fl_X1 13 (w p2)))) t.toNatClampNeg) (Int64.ofNat 0)).toInt 0 := he
      have he : ¬ ((eJ (w (rv_ (eG fl_X1 13 (w p)))) t.toNatClampNeg &&& eJ (w (rv_ (eG fl_X1 13 (w p2)))) t.toNatClampNeg)).toInt = (Int64.ofNat 0).toInt := fun z => he (ck_cm_lg.mpr z)
      rw [eu, eu2] at he
      have hn : allB o_meet f f2 (t.toInt.toNat + 1) = false := by
        rw [allB_s hB]
        exact decide_eq_false he
      have h4 : allB o_meet f f2 4 = false := by
        rw [show 4 = t.toInt.toNat + 1 + (3 - t.toInt.toNat) by omega]
        exact allB_n hn
      refine ⟨ew, ?_⟩
      show some (Value.int 0) = some (.int (wv (allB o_meet f f2 4)))
      rw [h4]
      rfl
  · exact ⟨0, ⟨rfl, rfl, rfl, trivial⟩, rfl, rfl, by decide, by decide, rfl⟩
set_option maxHeartbeats 4000000 in
theorem s_X12_isWithin : f_do r_X12_isWithin (fun As h rv h' => ∀ a : rtA × Int32 × Int32, As = [.ref a.1.1.1, .int a.2.1, .int a.2.2] → (rt a.1 h ∧ (0 ≤ a.2.1.toInt ∧ a.2.1.toInt < 60) ∧ (0 ≤ a.2.2.toInt ∧ a.2.2.toInt < 60)) → h' = h ∧ rv = some (.int (wv (allB o_in (rtW a.1.2.2.2 a.2.1) (rtW a.1.2.2.2 a.2.2) 4)))) := by
  refine do_ofP (fun a : rtA × Int32 × Int32 => [.ref a.1.1.1, .int a.2.1, .int a.2.2]) (fun a h => rt a.1 h ∧ (0 ≤ a.2.1.toInt ∧ a.2.1.toInt < 60) ∧ (0 ≤ a.2.2.toInt ∧ a.2.2.toInt < 60)) (fun a h rv h' => h' = h ∧ rv = some (.int (wv (allB o_in (rtW a.1.2.2.2 a.2.1) (rtW a.1.2.2.2 a.2.2) 4)))) [] (fun a h => [(5, in_rl o_in a.1 a.2.1 a.2.2 h)]) 60 fo_X12 no_sp k_X12_isWithin (fun a h0 hp => ?_) (fun a h0 hp => ?_)
  · refine List.forall_mem_cons.mpr ⟨?_, fun _ h => absurd h List.not_mem_nil⟩
    obtain ⟨x, a, b⟩ := a
    obtain ⟨hr, ha, hb⟩ := hp
    have hr : rt x h0 := hr
    have ha : 0 ≤ a.toInt ∧ a.toInt < 60 := ha
    have hb : 0 ≤ b.toInt ∧ b.toInt < 60 := hb
    rintro lg vs w ⟨t, hs, rfl, ew, t0, t4⟩
    have ew : w = h0 := ew
    have e4 : (Int32.ofInt 4).toInt = 4 := by decide
    have hrw : rt x w := by rw [ew]; exact hr
    have eu := rt_at hrw ha t0 t4
    have eu2 := rt_at hrw hb t0 t4
    refine ⟨_, 80, hs, fun hc => ?_, fun hc => ⟨fun hd => ?_, fun hd => ⟨fun he => ?_, fun he => ?_⟩⟩⟩
    · have hc : (Int32.ofInt 4).toInt ≤ t.toInt := hc
      rw [e4] at hc
      refine ⟨ew, ?_⟩
      show some (Value.int (wv (allB o_in (rtW x.2.2.2 a) (rtW x.2.2.2 b) t.toInt.toNat))) = some (.int (wv (allB o_in (rtW x.2.2.2 a) (rtW x.2.2.2 b) 4)))
      rw [t_end t4 hc]
    · have hc : ¬ (Int32.ofInt 4).toInt ≤ t.toInt := hc
      rw [e4] at hc
      obtain ⟨i1, i2, i3⟩ := t_inc t0 (show t.toInt < 4 by omega)
      have hd : (wv (allB o_in (rtW x.2.2.2 a) (rtW x.2.2.2 b) t.toInt.toNat)).toInt = 0 := hd
      have hn := allB_n (m := 1) (wv_0 hd)
      refine ⟨t + 1, ⟨rfl, ?_, rfl, rfl, rfl, trivial⟩, rfl, ew, i1, i2⟩
      show some (false, Value.int 0) = some (false, .int (wv (allB o_in (rtW x.2.2.2 a) (rtW x.2.2.2 b) (t + 1).toInt.toNat)))
      rw [i3, hn]
      rfl
    · have hc : ¬ (Int32.ofInt 4).toInt ≤ t.toInt := hc
      rw [e4] at hc
      obtain ⟨i1, i2, i3⟩ := t_inc t0 (show t.toInt < 4 by omega)
      have hd : ¬ (wv (allB o_in (rtW x.2.2.2 a) (rtW x.2.2.2 b) t.toInt.toNat)).toInt = 0 := hd
      have hB := wv_1 hd
      have he : ck_cm .ne (lg_cmp (eJ (w (rv_ (eG fl_X12 7 (w x.1.1)))) (Int32.ofInt 4 * a + t).toNatClampNeg &&& (eJ (w (rv_ (eG fl_X12 7 (w x.1.1)))) (Int32.ofInt 4 * b + t).toNatClampNeg ^^^ m1_)) (Int64.ofNat 0)).toInt 0 := he
      have he : ¬ ((eJ (w (rv_ (eG fl_X12 7 (w x.1.1)))) (Int32.ofInt 4 * a + t).toNatClampNeg &&& (eJ (w (rv_ (eG fl_X12 7 (w x.1.1)))) (Int32.ofInt 4 * b + t).toNatClampNeg ^^^ m1_))).toInt = (Int64.ofNat 0).toInt := ck_cm_lg.mp he
      rw [eu, eu2] at he
      refine ⟨t + 1, ⟨rfl, ?_, rfl, rfl, rfl, trivial⟩, rfl, ew, i1, i2⟩
      show some (false, Value.int 0) = some (false, .int (wv (allB o_in (rtW x.2.2.2 a) (rtW x.2.2.2 b) (t + 1).toInt.toNat)))
      rw [i3, allB_s hB, show decide ((o_in (rtW x.2.2.2 a t.toInt.toNat) (rtW x.2.2.2 b t.toInt.toNat)).toInt = (Int64.ofNat 0).toInt) = false from decide_eq_false he]
      rfl
    · have hc : ¬ (Int32.ofInt 4).toInt ≤ t.toInt := hc
      rw [e4] at hc
      obtain ⟨i1, i2, i3⟩ := t_inc t0 (show t.toInt < 4 by omega)
      have hd : ¬ (wv (allB o_in (rtW x.2.2.2 a) (rtW x.2.2.2 b) t.toInt.toNat)).toInt = 0 := hd
      have hB := wv_1 hd
      have he : ¬ ck_cm .ne (lg_cmp (eJ (w (rv_ (eG fl_X12 7 (w x.1.1)))) (Int32.ofInt 4 * a + t).toNatClampNeg &&& (eJ (w (rv_ (eG fl_X12 7 (w x.1.1)))) (Int32.ofInt 4 * b + t).toNatClampNeg ^^^ m1_)) (Int64.ofNat 0)).toInt 0 := he
      have he : ((eJ (w (rv_ (eG fl_X12 7 (w x.1.1)))) (Int32.ofInt 4 * a + t).toNatClampNeg &&& (eJ (w (rv_ (eG fl_X12 7 (w x.1.1)))) (Int32.ofInt 4 * b + t).toNatClampNeg ^^^ m1_))).toInt = (Int64.ofNat 0).toInt := Classical.byContradiction fun z => he (ck_cm_lg.mpr z)
      rw [eu, eu2] at he
      refine ⟨t + 1, ⟨rfl, ?_, rfl, rfl, rfl, trivial⟩, rfl, ew, i1, i2⟩
      show some (false, Value.int 1) = some (false, .int (wv (allB o_in (rtW x.2.2.2 a) (rtW x.2.2.2 b) (t + 1).toInt.toNat)))
      rw [i3, allB_s hB, show decide ((o_in (rtW x.2.2.2 a t.toInt.toNat) (rtW x.2.2.2 b t.toInt.toNat)).toInt = (Int64.ofNat 0).toInt) = true from decide_eq_true he]
      rfl
  · exact ⟨0, ⟨rfl, rfl, rfl, rfl, rfl, trivial⟩, rfl, rfl, by decide, by decide⟩
set_option maxHeartbeats 4000000 in
theorem s_X12_areApart : f_do r_X12_areApart (fun As h rv h' => ∀ a : rtA × Int32 × Int32, As = [.ref a.1.1.1, .int a.2.1, .int a.2.2] → (rt a.1 h ∧ (0 ≤ a.2.1.toInt ∧ a.2.1.toInt < 60) ∧ (0 ≤ a.2.2.toInt ∧ a.2.2.toInt < 60)) → h' = h ∧ rv = some (.int (wv (allB o_meet (rtW a.1.2.2.2 a.2.1) (rtW a.1.2.2.2 a.2.2) 4)))) := by
  refine do_ofP (fun a : rtA × Int32 × Int32 => [.ref a.1.1.1, .int a.2.1, .int a.2.2]) (fun a h => rt a.1 h ∧ (0 ≤ a.2.1.toInt ∧ a.2.1.toInt < 60) ∧ (0 ≤ a.2.2.toInt ∧ a.2.2.toInt < 60)) (fun a h rv h' => h' = h ∧ rv = some (.int (wv (allB o_meet (rtW a.1.2.2.2 a.2.1) (rtW a.1.2.2.2 a.2.2) 4)))) [] (fun a h => [(5, in_rl o_meet a.1 a.2.1 a.2.2 h)]) 60 fo_X12 no_sp k_X12_areApart (fun a h0 hp => ?_) (fun a h0 hp => ?_)
  · refine List.forall_mem_cons.mpr ⟨?_, fun _ h => absurd h List.not_mem_nil⟩
    obtain ⟨x, a, b⟩ := a
    obtain ⟨hr, ha, hb⟩ := hp
    have hr : rt x h0 := hr
    have ha : 0 ≤ a.toInt ∧ a.toInt < 60 := ha
    have hb : 0 ≤ b.toInt ∧ b.toInt < 60 := hb
    rintro lg vs w ⟨t, hs, rfl, ew, t0, t4⟩
    have ew : w = h0 := ew
    have e4 : (Int32.ofInt 4).toInt = 4 := by decide
    have hrw : rt x w := by rw [ew]; exact hr
    have eu := rt_at hrw ha t0 t4
    have eu2 := rt_at hrw hb t0 t4
    refine ⟨_, 80, hs, fun hc => ?_, fun hc => ⟨fun hd => ?_, fun hd => ⟨fun he => ?_, fun he => ?_⟩⟩⟩
    · have hc : (Int32.ofInt 4).toInt ≤ t.toInt := hc
      rw [e4] at hc
      refine ⟨ew, ?_⟩
      show some (Value.int (wv (allB o_meet (rtW x.2.2.2 a) (rtW x.2.2.2 b) t.toInt.toNat))) = some (.int (wv (allB o_meet (rtW x.2.2.2 a) (rtW x.2.2.2 b) 4)))
      rw [t_end t4 hc]
    · have hc : ¬ (Int32.ofInt 4).toInt ≤ t.toInt := hc
      rw [e4] at hc
      obtain ⟨i1, i2, i3⟩ := t_inc t0 (show t.toInt < 4 by omega)
      have hd : (wv (allB o_meet (rtW x.2.2.2 a) (rtW x.2.2.2 b) t.toInt.toNat)).toInt = 0 := hd
      have hn := allB_n (m := 1) (wv_0 hd)
      refine ⟨t + 1, ⟨rfl, ?_, rfl, rfl, rfl, trivial⟩, rfl, ew, i1, i2⟩
      show some (false, Value.int 0) = some (false, .int (wv (allB o_meet (rtW x.2.2.2 a) (rtW x.2.2.2 b) (t + 1).toInt.toNat)))
      rw [i3, hn]
      rfl
    · have hc : ¬ (Int32.ofInt 4).toInt ≤ t.toInt := hc
      rw [e4] at hc
      obtain ⟨i1, i2, i3⟩ := t_inc t0 (show t.toInt < 4 by omega)
      have hd : ¬ (wv (allB o_meet (rtW x.2.2.2 a) (rtW x.2.2.2 b) t.toInt.toNat)).toInt = 0 := hd
      have hB := wv_1 hd
      have he : ck_cm .ne (lg_cmp (eJ (w (rv_ (eG fl_X12 7 (w x.1.1)))) (Int32.ofInt 4 * a + t).toNatClampNeg &&& eJ (w (rv_ (eG fl_X12 7 (w x.1.1)))) (Int32.ofInt 4 * b + t).toNatClampNeg) (Int64.ofNat 0)).toInt 0 := he
      have he : ¬ ((eJ (w (rv_ (eG fl_X12 7 (w x.1.1)))) (Int32.ofInt 4 * a + t).toNatClampNeg &&& eJ (w (rv_ (eG fl_X12 7 (w x.1.1)))) (Int32.ofInt 4 * b + t).toNatClampNeg)).toInt = (Int64.ofNat 0).toInt := ck_cm_lg.mp he
      rw [eu, eu2] at he
      refine ⟨t + 1, ⟨rfl, ?_, rfl, rfl, rfl, trivial⟩, rfl, ew, i1, i2⟩
      show some (false, Value.int 0) = some (false, .int (wv (allB o_meet (rtW x.2.2.2 a) (rtW x.2.2.2 b) (t + 1).toInt.toNat)))
      rw [i3, allB_s hB, show decide ((o_meet (rtW x.2.2.2 a t.toInt.toNat) (rtW x.2.2.2 b t.toInt.toNat)).toInt = (Int64.ofNat 0).toInt) = false from decide_eq_false he]
      rfl
    · have hc : ¬ (Int32.ofInt 4).toInt ≤ t.toInt := hc
      rw [e4] at hc
      obtain ⟨i1, i2, i3⟩ := t_inc t0 (show t.toInt < 4 by omega)
      have hd : ¬ (wv (allB o_meet (rtW x.2.2.2 a) (rtW x.2.2.2 b) t.toInt.toNat)).toInt = 0 := hd
      have hB := wv_1 hd
      have he : ¬ ck_cm .ne (lg_cmp (eJ (w (rv_ (eG fl_X12 7 (w x.1.1)))) (Int32.ofInt 4 * a + t).toNatClampNeg &&& eJ (w (rv_ (eG fl_X12 7 (w x.1.1)))) (Int32.ofInt 4 * b + t).toNatClampNeg) (Int64.ofNat 0)).toInt 0 := he
      have he : ((eJ (w (rv_ (eG fl_X12 7 (w x.1.1)))) (Int32.ofInt 4 * a + t).toNatClampNeg &&& eJ (w (rv_ (eG fl_X12 7 (w x.1.1)))) (Int32.ofInt 4 * b + t).toNatClampNeg)).toInt = (Int64.ofNat 0).toInt := Classical.byContradiction fun z => he (ck_cm_lg.mpr z)
      rw [eu, eu2] at he
      refine ⟨t + 1, ⟨rfl, ?_, rfl, rfl, rfl, trivial⟩, rfl, ew, i1, i2⟩
      show some (false, Value.int 1) = some (false, .int (wv (allB o_meet (rtW x.2.2.2 a) (rtW x.2.2.2 b) (t + 1).toInt.toNat)))
      rw [i3, allB_s hB, show decide ((o_meet (rtW x.2.2.2 a t.toInt.toNat) (rtW x.2.2.2 b t.toInt.toNat)).toInt = (Int64.ofNat 0).toInt) = true from decide_eq_true he]
      rfl
  · exact ⟨0, ⟨rfl, rfl, rfl, rfl, rfl, trivial⟩, rfl, rfl, by decide, by decide⟩
end
section
/-! worlds, truth, compare: the class's -/
theorem cl_size {B : Nat → Nat} {C : Nat} {W1 : Nat → Nat → Int64} {w1 w2 : lW} {rv : Option Value} (hx : fLr r_X1_size [.ref (B (2 + 2 * C))] w1 rv w2) (hI : bI B w1) (hW : wS B W1 w1) (hC : C < 60) : rv = some (.int (szA bcV (W1 C) 4)) := by
  obtain ⟨tys, hw, -⟩ := hx.2.2.2.2.1
  obtain ⟨fs1, c1, b1⟩ := hW.bx hI hw hC
  exact ((s_X1_size _ _ _ _ _ _ hx).2 _ rfl b1).2
theorem cl_within {B : Nat → Nat} {C D : Nat} {W1 : Nat → Nat → Int64} {w1 w2 : lW} {rv : Option Value} (hx : fLr r_X1_within [.ref (B (2 + 2 * C)), .ref (B (2 + 2 * D))] w1 rv w2) (hI : bI B w1) (hW : wS B W1 w1) (hC : C < 60) (hD : D < 60) : rv = some (.int (wv (allB o_in (W1 C) (W1 D) 4))) := by
  obtain ⟨tys, hw, -⟩ := hx.2.2.2.2.1
  obtain ⟨fs1, c1, b1⟩ := hW.bx hI hw hC
  obtain ⟨fs2, c2, b2⟩ := hW.bx hI hw hD
  exact ((s_X1_within _ _ _ _ _ _ hx).2 (_, _) rfl ⟨b1, b2⟩).2
theorem cl_apart {B : Nat → Nat} {C D : Nat} {W1 : Nat → Nat → Int64} {w1 w2 : lW} {rv : Option Value} (hx : fLr r_X1_apart [.ref (B (2 + 2 * C)), .ref (B (2 + 2 * D))] w1 rv w2) (hI : bI B w1) (hW : wS B W1 w1) (hC : C < 60) (hD : D < 60) : rv = some (.int (wv (allB o_meet (W1 C) (W1 D) 4))) := by
  obtain ⟨tys, hw, -⟩ := hx.2.2.2.2.1
  obtain ⟨fs1, c1, b1⟩ := hW.bx hI hw hC
  obtain ⟨fs2, c2, b2⟩ := hW.bx hI hw hD
  exact ((s_X1_apart _ _ _ _ _ _ hx).2 (_, _) rfl ⟨b1, b2⟩).2
abbrev w1A : Type := ((Nat → Nat) × Int32 × (Nat → Nat → Int64)) × Int32
def w1_F : w1A → List Value := fun ((B, _, _), s) => [.ref (B 0), .int s]
def w1_P : w1A → lW → Prop := fun ((B, c, W), _) w => nS B c w ∧ wS B W w ∧ 0 ≤ c.toInt ∧ c.toInt ≤ 60
def w1V (c s v : Int32) : Int32 := if 0 ≤ s.toInt ∧ s.toInt < c.toInt then v else -1
def w1_Q : w1A → lW → Option Value → lW → Prop := fun ((_, c, W), s) _ rv _ => rv = some (.int (w1V c s (szA bcV (W s.toInt.toNat) 4)))
def Sp_w1 : fP lW := [(381, 2, fLr r_X11_sentenceAt), (438, 1, fLr r_X1_size)]
theorem Sp_w1_ok : f_sp T_X11_worlds Sp_w1 wW := List.forall_mem_cons.mpr ⟨sp_w rfl (fun _ _ _ _ _ _ h => h.2.2.1), List.forall_mem_cons.mpr ⟨sp_w rfl (fun _ _ _ _ _ _ h => h.2.2.1), fun _ h => absurd h List.not_mem_nil⟩⟩
set_option maxHeartbeats 4000000 in
theorem s_X11_worlds : ∀ (a : w1A) (w w' : lW) (rv : Option Value), fLr r_X11_worlds (w1_F a) w rv w' → w1_P a w → w1_Q a w rv w' := by
  refine do_ofW w1_F w1_P w1_Q Sp_w1 (fun _ _ => []) 40 fo_X11 Sp_w1_ok k_X11_worlds (fun _ _ _ => no_hd) (fun a w0 hp hd0 => ?_)
  obtain ⟨⟨B, c, W⟩, s⟩ := a
  obtain ⟨hI, hW, hc60⟩ := hp
  have hI : nS B c w0 := hI
  have hW : wS B W w0 := hW
  have hc60 : 0 ≤ c.toInt ∧ c.toInt ≤ 60 := hc60
  intro rv w1 hx
  have hx : fLr r_X11_sentenceAt [.ref (B 0), .int s] w0 rv w1 := hx
  obtain ⟨rfl, hI1⟩ := cl_at hI hc60.2 hx
  have hW1 := hW.keep hI.1 hx (by decide)
  refine ⟨fun h => ?_, fun h => ?_⟩
  · have h : ¬ at_ B c s = .null := h
    have hs : 0 ≤ s.toInt ∧ s.toInt < c.toInt := Classical.byContradiction fun z => h (at_nul.mpr z)
    intro rv w2 hx2
    have hx2 : fLr r_X1_size [at_ B c s] w1 rv w2 := hx2
    rw [at_ref hs] at hx2
    have er := cl_size hx2 hI1.1 hW1 (by omega)
    subst er
    show some (Value.int (szA bcV (W s.toInt.toNat) 4)) = some (.int (w1V c s (szA bcV (W s.toInt.toNat) 4)))
    unfold w1V
    rw [if_pos hs]
  · have h : at_ B c s = .null := h
    have hs := at_nul.mp h
    show some (Value.int (-1)) = some (.int (w1V c s (szA bcV (W s.toInt.toNat) 4)))
    unfold w1V
    rw [if_neg hs]
theorem s_X11_isWorld : f_do r_X11_isWorld (fun As h rv h' => ∀ k : Int32, As = [.int k] → True → h' = h ∧ rv = some (.int (if 0 ≤ k.toInt ∧ k.toInt < 256 then 1 else 0))) := by
  refine do_ofP (fun k : Int32 => [.int k]) (fun _ _ => True) (fun k h rv h' => h' = h ∧ rv = some (.int (if 0 ≤ k.toInt ∧ k.toInt < 256 then 1 else 0))) [] (fun _ _ => []) 40 fo_X11 no_sp k_X11_isWorld (fun _ _ _ => no_hd) (fun k h0 _ => ?_)
  have e : (Int32.ofInt 256).toInt = 256 := by decide
  refine ⟨fun h => ?_, fun h => ⟨fun h2 => ?_, fun h2 => ?_⟩⟩
  · have h : k.toInt < 0 := h
    refine ⟨rfl, ?_⟩
    show some (Value.int 0) = some (.int (if 0 ≤ k.toInt ∧ k.toInt < 256 then 1 else 0))
    rw [if_neg (by omega)]
  · have h2 : (Int32.ofInt 256).toInt ≤ k.toInt := h2
    rw [e] at h2
    refine ⟨rfl, ?_⟩
    show some (Value.int 0) = some (.int (if 0 ≤ k.toInt ∧ k.toInt < 256 then 1 else 0))
    rw [if_neg (by omega)]
  · have h : ¬ k.toInt < 0 := h
    have h2 : ¬ (Int32.ofInt 256).toInt ≤ k.toInt := h2
    rw [e] at h2
    refine ⟨rfl, ?_⟩
    show some (Value.int 1) = some (.int (if 0 ≤ k.toInt ∧ k.toInt < 256 then 1 else 0))
    rw [if_pos ⟨by omega, by omega⟩]
/-- whether a world is there -/
def hasW (f : Nat → Int64) (k : Int32) : Bool := hbB (f (k.toInt.toNat / 64)) (Int32.ofNat (k.toInt.toNat % 64))
set_option maxHeartbeats 4000000 in
theorem s_X1_has : f_do r_X1_has (fun As h rv h' => ∀ a : bxA × Int32, As = [.ref a.1.1, .int a.2] → (bx a.1 h ∧ 0 ≤ a.2.toInt ∧ a.2.toInt < 256) → h' = h ∧ rv = some (.int (wv (hasW a.1.2.2.2.2 a.2)))) := by
  refine do_ofP (fun a : bxA × Int32 => [.ref a.1.1, .int a.2]) (fun a h => bx a.1 h ∧ 0 ≤ a.2.toInt ∧ a.2.toInt < 256) (fun a h rv h' => h' = h ∧ rv = some (.int (wv (hasW a.1.2.2.2.2 a.2)))) [] (fun _ _ => []) 60 fo_X1 no_sp k_X1_has (fun _ _ _ => no_hd) (fun a h0 hp => ?_)
  obtain ⟨⟨p, fs, a, cA, f⟩, k⟩ := a
  obtain ⟨⟨hp, h0a, ha⟩, k0, k1⟩ := hp
  have hp : h0 p = some (.inr (1, fs)) := hp
  have h0a : fs.getD 0 .null = .ref a := h0a
  have ha : h0 a = some (.inl (cA, 4, .inr (.inl f))) := ha
  have k0 : 0 ≤ k.toInt := k0
  have k1 : k.toInt < 256 := k1
  have ek : k = Int32.ofNat k.toInt.toNat := n32_of (by omega)
  obtain ⟨q1, -, q3, -⟩ := wd_n k.toInt.toNat (by omega)
  rw [← ek] at q1 q3
  have g1 : eG fl_X1 13 (h0 p) = .ref a := by
    rw [hp, ← h0a]
    rfl
  have el : (Int32.ofNat (eL (h0 (rv_ (eG fl_X1 13 (h0 p)))))).toInt = 4 := by
    rw [g1]
    show (Int32.ofNat (eL (h0 a))).toInt = 4
    rw [ha]
    exact e4_
  have eu : eJ (h0 (rv_ (eG fl_X1 13 (h0 p)))) (k >>> (Int32.ofInt 6 &&& 31)).toNatClampNeg = f (k.toInt.toNat / 64) := by
    rw [g1]
    show eJ (h0 a) (k >>> (Int32.ofInt 6 &&& 31)).toInt.toNat = _
    rw [q1, ha]
    rfl
  refine ⟨fun h1 => ?_, fun h1 => ⟨fun h2 => ?_, fun h2 => ⟨fun h3 => ?_, fun h3 => ?_⟩⟩⟩
  · have h1 : (k >>> (Int32.ofInt 6 &&& 31)).toInt < 0 := h1
    rw [q1] at h1
    omega
  · have h2 : (Int32.ofNat (eL (h0 (rv_ (eG fl_X1 13 (h0 p)))))).toInt ≤ (k >>> (Int32.ofInt 6 &&& 31)).toInt := h2
    rw [el, q1] at h2
    omega
  · have h3 : ck_cm .ne (lg_cmp (us_ (eJ (h0 (rv_ (eG fl_X1 13 (h0 p)))) (k >>> (Int32.ofInt 6 &&& 31)).toNatClampNeg) (k &&& Int32.ofInt 63) &&& Int64.ofNat 1) (Int64.ofNat 1)).toInt 0 := h3
    rw [eu, q3] at h3
    have h3 : ¬ hb (f (k.toInt.toNat / 64)) (Int32.ofNat (k.toInt.toNat % 64)) := ck_cm_lg.mp h3
    refine ⟨rfl, ?_⟩
    show some (Value.int 0) = some (.int (wv (hbB (f (k.toInt.toNat / 64)) (Int32.ofNat (k.toInt.toNat % 64)))))
    rw [show hbB (f (k.toInt.toNat / 64)) (Int32.ofNat (k.toInt.toNat % 64)) = false from Bool.eq_false_iff.mpr (fun z => h3 (hbB_t.mp z))]
    rfl
  · have h3 : ¬ ck_cm .ne (lg_cmp (us_ (eJ (h0 (rv_ (eG fl_X1 13 (h0 p)))) (k >>> (Int32.ofInt 6 &&& 31)).toNatClampNeg) (k &&& Int32.ofInt 63) &&& Int64.ofNat 1) (Int64.ofNat 1)).toInt 0 := h3
    rw [eu, q3] at h3
    have h3 : ¬ ¬ hb (f (k.toInt.toNat / 64)) (Int32.ofNat (k.toInt.toNat % 64)) := fun z => h3 (ck_cm_lg.mpr z)
    refine ⟨rfl, ?_⟩
    show some (Value.int 1) = some (.int (wv (hbB (f (k.toInt.toNat / 64)) (Int32.ofNat (k.toInt.toNat % 64)))))
    rw [hbB_t.mpr (Classical.not_not.mp h3)]
    rfl
abbrev t1A : Type := ((Nat → Nat) × Int32 × (Nat → Nat → Int64)) × Int32 × Int32
def t1_F : t1A → List Value := fun ((B, _, _), s, k) => [.ref (B 0), .int s, .int k]
def t1_P : t1A → lW → Prop := fun ((B, c, W), _, _) w => nS B c w ∧ wS B W w ∧ 0 ≤ c.toInt ∧ c.toInt ≤ 60
def t1V (c s k : Int32) (b : Bool) : Int32 := if (0 ≤ s.toInt ∧ s.toInt < c.toInt) ∧ (0 ≤ k.toInt ∧ k.toInt < 256) then wv b else -1
def t1_Q : t1A → lW → Option Value → lW → Prop := fun ((_, c, W), s, k) _ rv _ => rv = some (.int (t1V c s k (hasW (W s.toInt.toNat) k)))
def in_t19 (B : Nat → Nat) (c : Int32) (W : Nat → Nat → Int64) (s k : Int32) : fL_ → List Value → lW → Prop := fun lg vs w => f_sub [(3, false, at_ B c s), (2, false, .int k)] lg ∧ vs = [] ∧ nS B c w ∧ wS B W w ∧ (0 ≤ s.toInt ∧ s.toInt < c.toInt) ∧ (0 ≤ k.toInt ∧ k.toInt < 256)
def t1_hd : t1A → lW → fI lW := fun ((B, c, W), s, k) _ => [(19, in_t19 B c W s k)]
def Sp_t1 : fP lW := [(381, 2, fLr r_X11_sentenceAt), (448, 1, fLr r_X11_isWorld), (456, 2, fLr r_X1_has)]
theorem Sp_t1_ok : f_sp T_X11_truth Sp_t1 wW := List.forall_mem_cons.mpr ⟨sp_w rfl (fun _ _ _ _ _ _ h => h.2.2.1), List.forall_mem_cons.mpr ⟨sp_w rfl (fun _ _ _ _ _ _ h => h.2.2.1), List.forall_mem_cons.mpr ⟨sp_w rfl (fun _ _ _ _ _ _ h => h.2.2.1), fun _ h => absurd h List.not_mem_nil⟩⟩⟩
set_option maxHeartbeats 4000000 in
theorem s_X11_truth : ∀ (a : t1A) (w w' : lW) (rv : Option Value), fLr r_X11_truth (t1_F a) w rv w' → t1_P a w → t1_Q a w rv w' := by
  refine do_ofW t1_F t1_P t1_Q Sp_t1 t1_hd 40 fo_X11 Sp_t1_ok k_X11_truth (fun a w0 hp => ?_) (fun a w0 hp hd0 => ?_)
  · obtain ⟨⟨B, c, W⟩, s, k⟩ := a
    obtain ⟨-, -, hc60⟩ := hp
    have hc60 : 0 ≤ c.toInt ∧ c.toInt ≤ 60 := hc60
    refine List.forall_mem_cons.mpr ⟨?_, fun _ h => absurd h List.not_mem_nil⟩
    rintro lg vs w ⟨hs, rfl, hI, hW, h1, h2⟩
    refine ⟨_, 40, hs, ?_⟩
    intro rv w1 hx
    have hx : fLr r_X1_has [at_ B c s, .int k] w rv w1 := hx
    rw [at_ref h1] at hx
    obtain ⟨tys, hw, -⟩ := hx.2.2.2.2.1
    obtain ⟨fs1, c1, b1⟩ := hW.bx hI.1 hw (i := s.toInt.toNat) (by omega)
    obtain ⟨-, rfl⟩ := (s_X1_has _ _ _ _ _ _ hx).2 (_, k) rfl ⟨b1, h2⟩
    refine ⟨fun h => ?_, fun h => ?_⟩
    · have h : (wv (hasW (W s.toInt.toNat) k)).toInt = 0 := h
      show some (Value.int 0) = some (.int (t1V c s k (hasW (W s.toInt.toNat) k)))
      unfold t1V
      rw [if_pos ⟨h1, h2⟩, wv_0 h]
      rfl
    · have h : ¬ (wv (hasW (W s.toInt.toNat) k)).toInt = 0 := h
      show some (Value.int 1) = some (.int (t1V c s k (hasW (W s.toInt.toNat) k)))
      unfold t1V
      rw [if_pos ⟨h1, h2⟩, wv_1 h]
      rfl
  · obtain ⟨⟨B, c, W⟩, s, k⟩ := a
    obtain ⟨hI, hW, hc60⟩ := hp
    have hI : nS B c w0 := hI
    have hW : wS B W w0 := hW
    have hc60 : 0 ≤ c.toInt ∧ c.toInt ≤ 60 := hc60
    intro rv w1 hx
    have hx : fLr r_X11_sentenceAt [.ref (B 0), .int s] w0 rv w1 := hx
    obtain ⟨rfl, hI1⟩ := cl_at hI hc60.2 hx
    have hW1 := hW.keep hI.1 hx (by decide)
    have no : ¬ ((0 ≤ s.toInt ∧ s.toInt < c.toInt) ∧ (0 ≤ k.toInt ∧ k.toInt < 256)) → some (Value.int (-1)) = some (.int (t1V c s k (hasW (W s.toInt.toNat) k))) := fun z => by
      unfold t1V
      rw [if_neg z]
    refine ⟨fun h => ?_, fun h => ?_⟩
    · have h : at_ B c s = .null := h
      exact no (fun z => at_nul.mp h z.1)
    · have h : ¬ at_ B c s = .null := h
      have hs : 0 ≤ s.toInt ∧ s.toInt < c.toInt := Classical.byContradiction fun z => h (at_nul.mpr z)
      intro rv w2 hx2
      have hx2 : fLr r_X11_isWorld [.int k] w1 rv w2 := hx2
      have hI2 := hI1.keep hx2 (by decide) (by decide)
      have hW2 := hW1.keep hI1.1 hx2 (by decide)
      obtain ⟨-, rfl⟩ := (s_X11_isWorld _ _ _ _ _ _ hx2).2 k rfl trivial
      refine ⟨fun h2 => ?_, fun h2 => ?_⟩
      · have h2 : ¬ (if 0 ≤ k.toInt ∧ k.toInt < 256 then (1 : Int32) else 0).toInt = 0 := h2
        have hk : 0 ≤ k.toInt ∧ k.toInt < 256 := by
          by_cases z : 0 ≤ k.toInt ∧ k.toInt < 256
          · exact z
          · rw [if_neg z] at h2
            exact absurd rfl h2
        exact ⟨⟨rfl, rfl, trivial⟩, rfl, hI2, hW2, hs, hk⟩
      · have h2 : ¬ ¬ (if 0 ≤ k.toInt ∧ k.toInt < 256 then (1 : Int32) else 0).toInt = 0 := h2
        exact no (fun z => h2 (by rw [if_pos z.2]; decide))
/-- how two sentences stand to one another -/
def cmV (b1 b2 b3 : Bool) : Int32 := if b1 = true then (if b2 = true then 3 else 1) else if b2 = true then 2 else if b3 = true then 4 else 0
abbrev c1A : Type := ((Nat → Nat) × Int32 × (Nat → Nat → Int64)) × Int32 × Int32
def c1_F : c1A → List Value := fun ((B, _, _), a, b) => [.ref (B 0), .int a, .int b]
def c1_P : c1A → lW → Prop := fun ((B, c, W), _, _) w => nS B c w ∧ wS B W w ∧ 0 ≤ c.toInt ∧ c.toInt ≤ 60
def c1V (c a b v : Int32) : Int32 := if (0 ≤ a.toInt ∧ a.toInt < c.toInt) ∧ (0 ≤ b.toInt ∧ b.toInt < c.toInt) then v else -1
def c1W (f g : Nat → Int64) : Int32 := cmV (allB o_in f g 4) (allB o_in g f 4) (allB o_meet f g 4)
def c1_Q : c1A → lW → Option Value → lW → Prop := fun ((_, c, W), a, b) _ rv _ => rv = some (.int (c1V c a b (c1W (W a.toInt.toNat) (W b.toInt.toNat))))
def g1_ (B : Nat → Nat) (c : Int32) (W : Nat → Nat → Int64) (a b : Int32) (w : lW) : Prop := nS B c w ∧ wS B W w ∧ (0 ≤ a.toInt ∧ a.toInt < c.toInt) ∧ (0 ≤ b.toInt ∧ b.toInt < c.toInt)
def in_c24 (B : Nat → Nat) (c : Int32) (W : Nat → Nat → Int64) (a b : Int32) : fL_ → List Value → lW → Prop := fun lg vs w => f_sub [(4, false, at_ B c b), (3, false, at_ B c a)] lg ∧ vs = [] ∧ g1_ B c W a b w
def in_c40 (B : Nat → Nat) (c : Int32) (W : Nat → Nat → Int64) (a b : Int32) : fL_ → List Value → lW → Prop := fun lg vs w => f_sub [(6, false, .int (wv (allB o_in (W b.toInt.toNat) (W a.toInt.toNat) 4))), (5, false, .int (wv (allB o_in (W a.toInt.toNat) (W b.toInt.toNat) 4))), (4, false, at_ B c b), (3, false, at_ B c a)] lg ∧ vs = [] ∧ g1_ B c W a b w
def in_c32 (B : Nat → Nat) (c : Int32) (W : Nat → Nat → Int64) (a b : Int32) : fL_ → List Value → lW → Prop := fun lg vs w => f_sub [(5, false, .int (wv (allB o_in (W a.toInt.toNat) (W b.toInt.toNat) 4))), (4, false, at_ B c b), (3, false, at_ B c a)] lg ∧ vs = [] ∧ g1_ B c W a b w
def c1_hd : c1A → lW → fI lW := fun ((B, c, W), a, b) _ => [(24, in_c24 B c W a b), (32, in_c32 B c W a b), (40, in_c40 B c W a b)]
def Sp_c1 : fP lW := [(381, 2, fLr r_X11_sentenceAt), (465, 2, fLr r_X1_within), (477, 2, fLr r_X1_apart)]
theorem Sp_c1_ok : f_sp T_X11_compare Sp_c1 wW := List.forall_mem_cons.mpr ⟨sp_w rfl (fun _ _ _ _ _ _ h => h.2.2.1), List.forall_mem_cons.mpr ⟨sp_w rfl (fun _ _ _ _ _ _ h => h.2.2.1), List.forall_mem_cons.mpr ⟨sp_w rfl (fun _ _ _ _ _ _ h => h.2.2.1), fun _ h => absurd h List.not_mem_nil⟩⟩⟩
section
variable {B : Nat → Nat} {c a b : Int32} {W : Nat → Nat → Int64} {w0 : lW}
theorem c1_no (z : ¬ ((0 ≤ a.toInt ∧ a.toInt < c.toInt) ∧ (0 ≤ b.toInt ∧ b.toInt < c.toInt))) {v : Int32} : some (Value.int (-1)) = some (.int (c1V c a b v)) := by
  unfold c1V
  rw [if_neg z]
theorem c1_ye (z : (0 ≤ a.toInt ∧ a.toInt < c.toInt) ∧ (0 ≤ b.toInt ∧ b.toInt < c.toInt)) {v u : Int32} (h : v = u) : some (Value.int v) = some (.int (c1V c a b u)) := by
  unfold c1V
  rw [if_pos z, h]
set_option maxHeartbeats 4000000 in
theorem c1_h24 (hc60 : 0 ≤ c.toInt ∧ c.toInt ≤ 60) : ∀ (lg : fL_) (vs : List Value) (w : lW), in_c24 B c W a b lg vs w → ∃ (L : fL_) (f : Nat), f_sub L lg ∧ wh oW T_X11_compare Sp_c1 (c1_Q ((B, c, W), a, b) w0) K_X11_compare (c1_hd ((B, c, W), a, b) w0) f 24 L vs w := by
  rintro lg vs w ⟨hs, rfl, hI, hW, h1, h2⟩
  refine ⟨_, 40, hs, ?_⟩
  intro rv w1 hx
  have hx : fLr r_X1_within [at_ B c a, at_ B c b] w rv w1 := hx
  rw [at_ref h1, at_ref h2] at hx
  have hI1 := hI.keep hx (by decide) (by decide)
  have hW1 := hW.keep hI.1 hx (by decide)
  have er := cl_within hx hI.1 hW (by omega) (by omega)
  subst er
  exact ⟨⟨rfl, rfl, rfl, trivial⟩, rfl, hI1, hW1, h1, h2⟩
set_option maxHeartbeats 4000000 in
theorem c1_h32 (hc60 : 0 ≤ c.toInt ∧ c.toInt ≤ 60) : ∀ (lg : fL_) (vs : List Value) (w : lW), in_c32 B c W a b lg vs w → ∃ (L : fL_) (f : Nat), f_sub L lg ∧ wh oW T_X11_compare Sp_c1 (c1_Q ((B, c, W), a, b) w0) K_X11_compare (c1_hd ((B, c, W), a, b) w0) f 32 L vs w := by
  rintro lg vs w ⟨hs, rfl, hI, hW, h1, h2⟩
  refine ⟨_, 40, hs, ?_⟩
  intro rv w2 hx2
  have hx2 : fLr r_X1_within [at_ B c b, at_ B c a] w rv w2 := hx2
  rw [at_ref h1, at_ref h2] at hx2
  have hI2 := hI.keep hx2 (by decide) (by decide)
  have hW2 := hW.keep hI.1 hx2 (by decide)
  have er := cl_within hx2 hI.1 hW (by omega) (by omega)
  subst er
  exact ⟨⟨rfl, rfl, rfl, rfl, trivial⟩, rfl, hI2, hW2, h1, h2⟩
set_option maxHeartbeats 4000000 in
theorem c1_h40 (hc60 : 0 ≤ c.toInt ∧ c.toInt ≤ 60) : ∀ (lg : fL_) (vs : List Value) (w : lW), in_c40 B c W a b lg vs w → ∃ (L : fL_) (f : Nat), f_sub L lg ∧ wh oW T_X11_compare Sp_c1 (c1_Q ((B, c, W), a, b) w0) K_X11_compare (c1_hd ((B, c, W), a, b) w0) f 40 L vs w := by
  rintro lg vs w ⟨hs, rfl, hI, hW, k1, k2⟩
  refine ⟨_, 80, hs, fun h1 => ⟨fun h2 => ⟨fun h3 => ?_, fun h3 => ?_⟩, fun h2 => absurd h1 h2⟩, fun h1 => ⟨fun h2 => ⟨fun h3 => absurd h3 h1, fun h3 => ?_⟩, fun h2 => ?_⟩⟩
  · have e1 := wv_0 (show (wv (allB o_in (W a.toInt.toNat) (W b.toInt.toNat) 4)).toInt = 0 from h1)
    have e2 := wv_0 (show (wv (allB o_in (W b.toInt.toNat) (W a.toInt.toNat) 4)).toInt = 0 from h3)
    intro rv w1 hx
    have hx : fLr r_X1_apart [at_ B c a, at_ B c b] w rv w1 := hx
    rw [at_ref k1, at_ref k2] at hx
    have er := cl_apart hx hI.1 hW (by omega) (by omega)
    subst er
    refine ⟨fun h => ?_, fun h => ?_⟩
    · have e3 := wv_0 (show (wv (allB o_meet (W a.toInt.toNat) (W b.toInt.toNat) 4)).toInt = 0 from h)
      exact c1_ye ⟨k1, k2⟩ (by unfold c1W cmV; rw [e1, e2, e3]; rfl)
    · have e3 := wv_1 (show ¬ (wv (allB o_meet (W a.toInt.toNat) (W b.toInt.toNat) 4)).toInt = 0 from h)
      exact c1_ye ⟨k1, k2⟩ (by unfold c1W cmV; rw [e1, e2, e3]; rfl)
  · have e1 := wv_0 (show (wv (allB o_in (W a.toInt.toNat) (W b.toInt.toNat) 4)).toInt = 0 from h1)
    have e2 := wv_1 (show ¬ (wv (allB o_in (W b.toInt.toNat) (W a.toInt.toNat) 4)).toInt = 0 from h3)
    exact c1_ye ⟨k1, k2⟩ (by unfold c1W cmV; rw [e1, e2]; rfl)
  · have e1 := wv_1 (show ¬ (wv (allB o_in (W a.toInt.toNat) (W b.toInt.toNat) 4)).toInt = 0 from h1)
    have e2 := wv_0 (show (wv (allB o_in (W b.toInt.toNat) (W a.toInt.toNat) 4)).toInt = 0 from h2)
    exact c1_ye ⟨k1, k2⟩ (by unfold c1W cmV; rw [e1, e2]; rfl)
  · have e1 := wv_1 (show ¬ (wv (allB o_in (W a.toInt.toNat) (W b.toInt.toNat) 4)).toInt = 0 from h1)
    have e2 := wv_1 (show ¬ (wv (allB o_in (W b.toInt.toNat) (W a.toInt.toNat) 4)).toInt = 0 from h2)
    exact c1_ye ⟨k1, k2⟩ (by unfold c1W cmV; rw [e1, e2]; rfl)
end
set_option maxHeartbeats 4000000 in
theorem s_X11_compare : ∀ (a : c1A) (w w' : lW) (rv : Option Value), fLr r_X11_compare (c1_F a) w rv w' → c1_P a w → c1_Q a w rv w' := by
  refine do_ofW c1_F c1_P c1_Q Sp_c1 c1_hd 40 fo_X11 Sp_c1_ok k_X11_compare (fun a w0 hp => ?_) (fun a w0 hp hd0 => ?_)
  · obtain ⟨⟨B, c, W⟩, a, b⟩ := a
    obtain ⟨-, -, hc60⟩ := hp
    exact List.forall_mem_cons.mpr ⟨c1_h24 hc60, List.forall_mem_cons.mpr ⟨c1_h32 hc60, List.forall_mem_cons.mpr ⟨c1_h40 hc60, fun _ h => absurd h List.not_mem_nil⟩⟩⟩
  · obtain ⟨⟨B, c, W⟩, a, b⟩ := a
    obtain ⟨hI, hW, hc60⟩ := hp
    have hI : nS B c w0 := hI
    have hW : wS B W w0 := hW
    have hc60 : 0 ≤ c.toInt ∧ c.toInt ≤ 60 := hc60
    intro rv w1 hx
    have hx : fLr r_X11_sentenceAt [.ref (B 0), .int a] w0 rv w1 := hx
    obtain ⟨rfl, hI1⟩ := cl_at hI hc60.2 hx
    have hW1 := hW.keep hI.1 hx (by decide)
    intro rv w2 hx2
    have hx2 : fLr r_X11_sentenceAt [.ref (B 0), .int b] w1 rv w2 := hx2
    obtain ⟨rfl, hI2⟩ := cl_at hI1 hc60.2 hx2
    have hW2 := hW1.keep hI1.1 hx2 (by decide)
    refine ⟨fun h => ?_, fun h => ⟨fun h2 => ?_, fun h2 => ?_⟩⟩
    · have h : at_ B c a = .null := h
      exact c1_no (fun z => at_nul.mp h z.1)
    · have h : ¬ at_ B c a = .null := h
      have h2 : ¬ at_ B c b = .null := h2
      exact ⟨⟨rfl, rfl, trivial⟩, rfl, hI2, hW2, Classical.byContradiction fun z => h (at_nul.mpr z), Classical.byContradiction fun z => h2 (at_nul.mpr z)⟩
    · have h2 : at_ B c b = .null := h2
      exact c1_no (fun z => at_nul.mp h2 z.2)
/-! the reference's -/
theorem s_X12_worlds : f_do r_X12_worlds (fun As h rv h' => ∀ a : rtA × Int32 × Int32, As = [.ref a.1.1.1, .int a.2.2] → (rt a.1 h ∧ a.1.1.2.getD 1 .null = .int a.2.1 ∧ a.2.1.toInt ≤ 60) → h' = h ∧ rv = some (.int (w1V a.2.1 a.2.2 (szA (fun v => cbA v 64) (rtW a.1.2.2.2 a.2.2) 4)))) := by
  refine do_ofP (fun a : rtA × Int32 × Int32 => [.ref a.1.1.1, .int a.2.2]) (fun a h => rt a.1 h ∧ a.1.1.2.getD 1 .null = .int a.2.1 ∧ a.2.1.toInt ≤ 60) (fun a h rv h' => h' = h ∧ rv = some (.int (w1V a.2.1 a.2.2 (szA (fun v => cbA v 64) (rtW a.1.2.2.2 a.2.2) 4)))) [(669, 2, _), (690, 2, _)] (fun _ _ => []) 40 fo_X12 (List.forall_mem_cons.mpr ⟨sp_one rfl s_X12_noSentence, List.forall_mem_cons.mpr ⟨sp_one rfl s_X12_countAt, no_sp⟩⟩) k_X12_worlds (fun _ _ _ => no_hd) (fun a h0 hp => ?_)
  obtain ⟨⟨⟨p, fs⟩, aT, cT, g⟩, c, s⟩ := a
  obtain ⟨hr, hc, hc60⟩ := hp
  have hr : rt ((p, fs), aT, cT, g) h0 := hr
  have hc : fs.getD 1 .null = .int c := hc
  have hc60 : c.toInt ≤ 60 := hc60
  intro rv h1 hx
  obtain ⟨e1, rfl⟩ := hx (p, fs, c, s) rfl ⟨hr.1, hc⟩
  have e1 : h1 = h0 := e1
  subst h1
  refine ⟨fun h => ?_, fun h => ?_⟩
  · have h : (if 0 ≤ s.toInt ∧ s.toInt < c.toInt then (0 : Int32) else 1).toInt = 0 := h
    have hs : 0 ≤ s.toInt ∧ s.toInt < c.toInt := by
      by_cases z : 0 ≤ s.toInt ∧ s.toInt < c.toInt
      · exact z
      · rw [if_neg z] at h
        exact absurd h (by decide)
    intro rv h1 hx2
    obtain ⟨e1, rfl⟩ := hx2 (((p, fs), aT, cT, g), s) rfl ⟨hr, hs.1, (show s.toInt < 60 by omega)⟩
    have e1 : h1 = h0 := e1
    refine ⟨e1, ?_⟩
    show some (Value.int (szA (fun v => cbA v 64) (rtW g s) 4)) = some (.int (w1V c s (szA (fun v => cbA v 64) (rtW g s) 4)))
    unfold w1V
    rw [if_pos hs]
  · have h : ¬ (if 0 ≤ s.toInt ∧ s.toInt < c.toInt then (0 : Int32) else 1).toInt = 0 := h
    have hs : ¬ (0 ≤ s.toInt ∧ s.toInt < c.toInt) := fun z => h (by rw [if_pos z]; decide)
    refine ⟨rfl, ?_⟩
    show some (Value.int (-1)) = some (.int (w1V c s (szA (fun v => cbA v 64) (rtW g s) 4)))
    unfold w1V
    rw [if_neg hs]
def in_t24 (x : rtA) (c s k : Int32) (h0 : fH) : fL_ → List Value → fH → Prop := fun lg vs w => f_sub [(0, false, .ref x.1.1), (1, false, .int s), (2, false, .int k)] lg ∧ vs = [] ∧ w = h0 ∧ (0 ≤ s.toInt ∧ s.toInt < c.toInt) ∧ (0 ≤ k.toInt ∧ k.toInt < 256)
set_option maxHeartbeats 4000000 in
theorem s_X12_truth : f_do r_X12_truth (fun As h rv h' => ∀ a : rtA × Int32 × Int32 × Int32, As = [.ref a.1.1.1, .int a.2.2.1, .int a.2.2.2] → (rt a.1 h ∧ a.1.1.2.getD 1 .null = .int a.2.1 ∧ a.2.1.toInt ≤ 60) → h' = h ∧ rv = some (.int (t1V a.2.1 a.2.2.1 a.2.2.2 (hasW (rtW a.1.2.2.2 a.2.2.1) a.2.2.2)))) := by
  refine do_ofP (fun a : rtA × Int32 × Int32 × Int32 => [.ref a.1.1.1, .int a.2.2.1, .int a.2.2.2]) (fun a h => rt a.1 h ∧ a.1.1.2.getD 1 .null = .int a.2.1 ∧ a.2.1.toInt ≤ 60) (fun a h rv h' => h' = h ∧ rv = some (.int (t1V a.2.1 a.2.2.1 a.2.2.2 (hasW (rtW a.1.2.2.2 a.2.2.1) a.2.2.2)))) [(669, 2, _), (457, 3, _), (475, 2, _)] (fun a h => [(24, in_t24 a.1 a.2.1 a.2.2.1 a.2.2.2 h)]) 60 fo_X12 (List.forall_mem_cons.mpr ⟨sp_one rfl s_X12_noSentence, List.forall_mem_cons.mpr ⟨sp_one rfl s_X12_in, List.forall_mem_cons.mpr ⟨sp_one rfl s_X12_hasBit, no_sp⟩⟩⟩) k_X12_truth (fun a h0 hp => ?_) (fun a h0 hp => ?_)
  · obtain ⟨⟨⟨p, fs⟩, aT, cT, g⟩, c, s, k⟩ := a
    obtain ⟨hr, hc, hc60⟩ := hp
    have hr : rt ((p, fs), aT, cT, g) h0 := hr
    have hc60 : c.toInt ≤ 60 := hc60
    refine List.forall_mem_cons.mpr ⟨?_, fun _ h => absurd h List.not_mem_nil⟩
    rintro lg vs w ⟨hs, rfl, ew, h1, h2⟩
    have ew : w = h0 := ew
    have h1 : 0 ≤ s.toInt ∧ s.toInt < c.toInt := h1
    have h2 : 0 ≤ k.toInt ∧ k.toInt < 256 := h2
    have ek : k = Int32.ofNat k.toInt.toNat := n32_of (by omega)
    obtain ⟨-, q2, -, q4⟩ := wd_n k.toInt.toNat (by omega)
    rw [← ek] at q2 q4
    have eu := rt_at (x := ((p, fs), aT, cT, g)) (h := w) (by rw [ew]; exact hr) (s := s) (t := k / Int32.ofInt 64) ⟨h1.1, by omega⟩ (by rw [q2]; omega) (by rw [q2]; omega)
    have eu : eJ (w (rv_ (eG fl_X12 7 (w p)))) (Int32.ofInt 4 * s + k / Int32.ofInt 64).toNatClampNeg = rtW g s (k.toInt.toNat / 64) := by
      refine eu.trans ?_
      rw [q2]
      rfl
    refine ⟨_, 60, hs, ?_⟩
    intro rv h3 hx
    obtain ⟨e1, er⟩ := hx (eJ (w (rv_ (eG fl_X12 7 (w p)))) (Int32.ofInt 4 * s + k / Int32.ofInt 64).toNatClampNeg, k % Int32.ofInt 64) rfl trivial
    have e1 : h3 = w := e1
    have er : rv = some (.int (wv (hbB (eJ (w (rv_ (eG fl_X12 7 (w p)))) (Int32.ofInt 4 * s + k / Int32.ofInt 64).toNatClampNeg) (k % Int32.ofInt 64)))) := er
    rw [eu, q4] at er
    subst er
    refine ⟨fun h => ?_, fun h => ?_⟩
    · have h : (wv (hasW (rtW g s) k)).toInt = 0 := h
      refine ⟨e1.trans ew, ?_⟩
      show some (Value.int 0) = some (.int (t1V c s k (hasW (rtW g s) k)))
      unfold t1V
      rw [if_pos ⟨h1, h2⟩, wv_0 h]
      rfl
    · have h : ¬ (wv (hasW (rtW g s) k)).toInt = 0 := h
      refine ⟨e1.trans ew, ?_⟩
      show some (Value.int 1) = some (.int (t1V c s k (hasW (rtW g s) k)))
      unfold t1V
      rw [if_pos ⟨h1, h2⟩, wv_1 h]
      rfl
  · obtain ⟨⟨⟨p, fs⟩, aT, cT, g⟩, c, s, k⟩ := a
    obtain ⟨hr, hc, hc60⟩ := hp
    have hr : rt ((p, fs), aT, cT, g) h0 := hr
    have hc : fs.getD 1 .null = .int c := hc
    have e0 : (Int64.ofNat 0).toInt = 0 := by decide
    have e2 : (Int64.ofInt 255).toInt = 255 := by decide
    have no : ¬ ((0 ≤ s.toInt ∧ s.toInt < c.toInt) ∧ (0 ≤ k.toInt ∧ k.toInt < 256)) → h0 = h0 ∧ some (Value.int (-1)) = some (.int (t1V c s k (hasW (rtW g s) k))) := fun z => by
      refine ⟨rfl, ?_⟩
      unfold t1V
      rw [if_neg z]
    intro rv h1 hx
    obtain ⟨e1, rfl⟩ := hx (p, fs, c, s) rfl ⟨hr.1, hc⟩
    have e1 : h1 = h0 := e1
    subst h1
    refine ⟨fun h => ?_, fun h => ?_⟩
    · have h : ¬ (if 0 ≤ s.toInt ∧ s.toInt < c.toInt then (0 : Int32) else 1).toInt = 0 := h
      exact no (fun z => h (by rw [if_pos z.1]; decide))
    · have h : ¬ ¬ (if 0 ≤ s.toInt ∧ s.toInt < c.toInt then (0 : Int32) else 1).toInt = 0 := h
      have hs : 0 ≤ s.toInt ∧ s.toInt < c.toInt := by
        by_cases z : 0 ≤ s.toInt ∧ s.toInt < c.toInt
        · exact z
        · rw [if_neg z] at h
          exact absurd (by decide) h
      intro rv h1 hx2
      obtain ⟨e1, er⟩ := hx2 (k.toInt64, Int64.ofNat 0, Int64.ofInt 255) rfl trivial
      have e1 : h1 = h0 := e1
      subst h1
      have er : rv = some (.int (if (Int64.ofNat 0).toInt ≤ k.toInt64.toInt ∧ k.toInt64.toInt ≤ (Int64.ofInt 255).toInt then 1 else 0)) := er
      rw [e0, e2, Int32.toInt_toInt64] at er
      subst er
      refine ⟨fun h2 => ?_, fun h2 => ?_⟩
      · have h2 : ¬ (if 0 ≤ k.toInt ∧ k.toInt ≤ 255 then (1 : Int32) else 0).toInt = 0 := h2
        have hk : 0 ≤ k.toInt ∧ k.toInt ≤ 255 := by
          by_cases z : 0 ≤ k.toInt ∧ k.toInt ≤ 255
          · exact z
          · rw [if_neg z] at h2
            exact absurd rfl h2
        exact ⟨⟨rfl, rfl, rfl, trivial⟩, rfl, rfl, hs, hk.1, (show k.toInt < 256 by omega)⟩
      · have h2 : ¬ ¬ (if 0 ≤ k.toInt ∧ k.toInt ≤ 255 then (1 : Int32) else 0).toInt = 0 := h2
        exact no (fun z => h2 (by rw [if_pos ⟨z.2.1, by omega⟩]; decide))
def g2_ (c a b : Int32) : Prop := (0 ≤ a.toInt ∧ a.toInt < c.toInt) ∧ (0 ≤ b.toInt ∧ b.toInt < c.toInt)
def in_c18 (x : rtA) (c a b : Int32) (h0 : fH) : fL_ → List Value → fH → Prop := fun lg vs w => f_sub [(0, false, .ref x.1.1), (1, false, .int a), (2, false, .int b)] lg ∧ vs = [] ∧ w = h0 ∧ g2_ c a b
def in_c33 (x : rtA) (c a b : Int32) (h0 : fH) : fL_ → List Value → fH → Prop := fun lg vs w => f_sub [(4, false, .int (wv (allB o_in (rtW x.2.2.2 b) (rtW x.2.2.2 a) 4))), (3, false, .int (wv (allB o_in (rtW x.2.2.2 a) (rtW x.2.2.2 b) 4))), (0, false, .ref x.1.1), (1, false, .int a), (2, false, .int b)] lg ∧ vs = [] ∧ w = h0 ∧ g2_ c a b
abbrev c2A : Type := rtA × Int32 × Int32 × Int32
def c2_F : c2A → List Value := fun (x, _, a, b) => [.ref x.1.1, .int a, .int b]
def c2_P : c2A → fH → Prop := fun (x, c, _, _) h => rt x h ∧ x.1.2.getD 1 .null = .int c ∧ c.toInt ≤ 60
def c2_Q : c2A → fH → Option Value → fH → Prop := fun (x, c, a, b) h rv h' => h' = h ∧ rv = some (.int (c1V c a b (c1W (rtW x.2.2.2 a) (rtW x.2.2.2 b))))
def c2_hd : c2A → fH → fI fH := fun (x, c, a, b) h => [(18, in_c18 x c a b h), (33, in_c33 x c a b h)]
def Pi_isWithin : fPh := fun As h rv h' => ∀ a : rtA × Int32 × Int32, As = [.ref a.1.1.1, .int a.2.1, .int a.2.2] → (rt a.1 h ∧ (0 ≤ a.2.1.toInt ∧ a.2.1.toInt < 60) ∧ (0 ≤ a.2.2.toInt ∧ a.2.2.toInt < 60)) → h' = h ∧ rv = some (.int (wv (allB o_in (rtW a.1.2.2.2 a.2.1) (rtW a.1.2.2.2 a.2.2) 4)))
def Pi_areApart : fPh := fun As h rv h' => ∀ a : rtA × Int32 × Int32, As = [.ref a.1.1.1, .int a.2.1, .int a.2.2] → (rt a.1 h ∧ (0 ≤ a.2.1.toInt ∧ a.2.1.toInt < 60) ∧ (0 ≤ a.2.2.toInt ∧ a.2.2.toInt < 60)) → h' = h ∧ rv = some (.int (wv (allB o_meet (rtW a.1.2.2.2 a.2.1) (rtW a.1.2.2.2 a.2.2) 4)))
def Sp_c2 : fP fH := [(669, 2, Pi_noSentence), (705, 3, Pi_isWithin), (717, 3, Pi_areApart)]
theorem Sp_c2_ok : f_sp T_X12_compare Sp_c2 wH := List.forall_mem_cons.mpr ⟨sp_one rfl (show f_do r_X12_noSentence Pi_noSentence from s_X12_noSentence), List.forall_mem_cons.mpr ⟨sp_one rfl (show f_do r_X12_isWithin Pi_isWithin from s_X12_isWithin), List.forall_mem_cons.mpr ⟨sp_one rfl (show f_do r_X12_areApart Pi_areApart from s_X12_areApart), no_sp⟩⟩⟩
section
variable {x : rtA} {c a b : Int32} {h0 : fH}
set_option maxHeartbeats 4000000 in
theorem c2_h18 (hr : rt x h0) (hc60 : c.toInt ≤ 60) : ∀ (lg : fL_) (vs : List Value) (w : fH), in_c18 x c a b h0 lg vs w → ∃ (L : fL_) (f : Nat), f_sub L lg ∧ wh oH T_X12_compare Sp_c2 (c2_Q (x, c, a, b) h0) K_X12_compare (c2_hd (x, c, a, b) h0) f 18 L vs w := by
  rintro lg vs w ⟨hs, rfl, ew, k1, k2⟩
  have ew : w = h0 := ew
  have ga : 0 ≤ a.toInt ∧ a.toInt < 60 := ⟨k1.1, by have := k1.2; omega⟩
  have gb : 0 ≤ b.toInt ∧ b.toInt < 60 := ⟨k2.1, by have := k2.2; omega⟩
  refine ⟨_, 40, hs, ?_⟩
  intro rv h1 hx
  obtain ⟨e1, rfl⟩ := hx (x, a, b) rfl ⟨by rw [ew]; exact hr, ga, gb⟩
  have e1 : h1 = w := e1
  intro rv h2 hx2
  obtain ⟨e2, rfl⟩ := hx2 (x, b, a) rfl ⟨by rw [e1, ew]; exact hr, gb, ga⟩
  have e2 : h2 = h1 := e2
  exact ⟨⟨rfl, rfl, rfl, rfl, rfl, trivial⟩, rfl, e2.trans (e1.trans ew), k1, k2⟩
set_option maxHeartbeats 4000000 in
theorem c2_h33 (hr : rt x h0) (hc60 : c.toInt ≤ 60) : ∀ (lg : fL_) (vs : List Value) (w : fH), in_c33 x c a b h0 lg vs w → ∃ (L : fL_) (f : Nat), f_sub L lg ∧ wh oH T_X12_compare Sp_c2 (c2_Q (x, c, a, b) h0) K_X12_compare (c2_hd (x, c, a, b) h0) f 33 L vs w := by
  rintro lg vs w ⟨hs, rfl, ew, k1, k2⟩
  have ew : w = h0 := ew
  have ga : 0 ≤ a.toInt ∧ a.toInt < 60 := ⟨k1.1, by have := k1.2; omega⟩
  have gb : 0 ≤ b.toInt ∧ b.toInt < 60 := ⟨k2.1, by have := k2.2; omega⟩
  refine ⟨_, 80, hs, fun h1 => ⟨fun h2 => ⟨fun h3 => ?_, fun h3 => ?_⟩, fun h2 => absurd h1 h2⟩, fun h1 => ⟨fun h2 => ⟨fun h3 => absurd h3 h1, fun h3 => ?_⟩, fun h2 => ?_⟩⟩
  · have e1 := wv_0 (show (wv (allB o_in (rtW x.2.2.2 a) (rtW x.2.2.2 b) 4)).toInt = 0 from h1)
    have e2 := wv_0 (show (wv (allB o_in (rtW x.2.2.2 b) (rtW x.2.2.2 a) 4)).toInt = 0 from h3)
    intro rv h4 hx
    obtain ⟨e4, rfl⟩ := hx (x, a, b) rfl ⟨by rw [ew]; exact hr, ga, gb⟩
    have e4 : h4 = w := e4
    refine ⟨fun h => ?_, fun h => ?_⟩
    · have e3 := wv_0 (show (wv (allB o_meet (rtW x.2.2.2 a) (rtW x.2.2.2 b) 4)).toInt = 0 from h)
      exact ⟨e4.trans ew, c1_ye ⟨k1, k2⟩ (by unfold c1W cmV; rw [e1, e2, e3]; rfl)⟩
    · have e3 := wv_1 (show ¬ (wv (allB o_meet (rtW x.2.2.2 a) (rtW x.2.2.2 b) 4)).toInt = 0 from h)
      exact ⟨e4.trans ew, c1_ye ⟨k1, k2⟩ (by unfold c1W cmV; rw [e1, e2, e3]; rfl)⟩
  · have e1 := wv_0 (show (wv (allB o_in (rtW x.2.2.2 a) (rtW x.2.2.2 b) 4)).toInt = 0 from h1)
    have e2 := wv_1 (show ¬ (wv (allB o_in (rtW x.2.2.2 b) (rtW x.2.2.2 a) 4)).toInt = 0 from h3)
    exact ⟨ew, c1_ye ⟨k1, k2⟩ (by unfold c1W cmV; rw [e1, e2]; rfl)⟩
  · have e1 := wv_1 (show ¬ (wv (allB o_in (rtW x.2.2.2 a) (rtW x.2.2.2 b) 4)).toInt = 0 from h1)
    have e2 := wv_0 (show (wv (allB o_in (rtW x.2.2.2 b) (rtW x.2.2.2 a) 4)).toInt = 0 from h2)
    exact ⟨ew, c1_ye ⟨k1, k2⟩ (by unfold c1W cmV; rw [e1, e2]; rfl)⟩
  · have e1 := wv_1 (show ¬ (wv (allB o_in (rtW x.2.2.2 a) (rtW x.2.2.2 b) 4)).toInt = 0 from h1)
    have e2 := wv_1 (show ¬ (wv (allB o_in (rtW x.2.2.2 b) (rtW x.2.2.2 a) 4)).toInt = 0 from h2)
    exact ⟨ew, c1_ye ⟨k1, k2⟩ (by unfold c1W cmV; rw [e1, e2]; rfl)⟩
end
set_option maxHeartbeats 4000000 in
theorem s_X12_compare : f_do r_X12_compare (fun As h rv h' => ∀ a : c2A, As = c2_F a → c2_P a h → c2_Q a h rv h') := by
  refine do_ofP c2_F c2_P c2_Q Sp_c2 c2_hd 40 fo_X12 Sp_c2_ok k_X12_compare (fun a h0 hp => ?_) (fun a h0 hp => ?_)
  · obtain ⟨x, c, a, b⟩ := a
    obtain ⟨hr, hc, hc60⟩ := hp
    exact List.forall_mem_cons.mpr ⟨c2_h18 hr hc60, List.forall_mem_cons.mpr ⟨c2_h33 hr hc60, fun _ h => absurd h List.not_mem_nil⟩⟩
  · obtain ⟨⟨⟨p, fs⟩, aT, cT, g⟩, c, a, b⟩ := a
    obtain ⟨hr, hc, hc60⟩ := hp
    have hr : rt ((p, fs), aT, cT, g) h0 := hr
    have hc : fs.getD 1 .null = .int c := hc
    have no : ¬ ((0 ≤ a.toInt ∧ a.toInt < c.toInt) ∧ (0 ≤ b.toInt ∧ b.toInt < c.toInt)) → c2_Q (((p, fs), aT, cT, g), c, a, b) h0 (some (.int (-1))) h0 := fun z => ⟨rfl, c1_no z⟩
    intro rv h1 hx
    obtain ⟨e1, rfl⟩ := hx (p, fs, c, a) rfl ⟨hr.1, hc⟩
    have e1 : h1 = h0 := e1
    subst h1
    refine ⟨fun h => ?_, fun h => ?_⟩
    · have h : ¬ (if 0 ≤ a.toInt ∧ a.toInt < c.toInt then (0 : Int32) else 1).toInt = 0 := h
      exact no (fun z => h (by rw [if_pos z.1]; decide))
    · have h : ¬ ¬ (if 0 ≤ a.toInt ∧ a.toInt < c.toInt then (0 : Int32) else 1).toInt = 0 := h
      have ha : 0 ≤ a.toInt ∧ a.toInt < c.toInt := by
        by_cases z : 0 ≤ a.toInt ∧ a.toInt < c.toInt
        · exact z
        · rw [if_neg z] at h
          exact absurd (by decide) h
      intro rv h1 hx2
      obtain ⟨e1, rfl⟩ := hx2 (p, fs, c, b) rfl ⟨hr.1, hc⟩
      have e1 : h1 = h0 := e1
      subst h1
      refine ⟨fun h2 => ?_, fun h2 => ?_⟩
      · have h2 : (if 0 ≤ b.toInt ∧ b.toInt < c.toInt then (0 : Int32) else 1).toInt = 0 := h2
        have hb : 0 ≤ b.toInt ∧ b.toInt < c.toInt := by
          by_cases z : 0 ≤ b.toInt ∧ b.toInt < c.toInt
          · exact z
          · rw [if_neg z] at h2
            exact absurd h2 (by decide)
        exact ⟨⟨rfl, rfl, rfl, trivial⟩, rfl, rfl, ha, hb⟩
      · have h2 : ¬ (if 0 ≤ b.toInt ∧ b.toInt < c.toInt then (0 : Int32) else 1).toInt = 0 := h2
        exact no (fun z => h2 (by rw [if_pos z.2]; decide))
end
section
/-! worlds, truth and compare answer alike -/
theorem rt_of {B : Nat → Nat} {w : lW} {c : Int32} {g : Nat → Int64} (hb : bI B w) (hm : oF B 343 12 1 (.int c) w) (hg : aJ B 344 240 g w) : ∃ (fs : List Value) (cT : ClassId), rt ((B 343, fs), B 344, cT, g) (hof w.1) ∧ fs.getD 1 .null = .int c := by
  obtain ⟨cT, hT⟩ := hg
  obtain ⟨fs, hp, hl, hv⟩ := id hm
  obtain ⟨fs2, hp2, -, hA⟩ := hm.ref hb bl_343 (show _ = some (2, 0, 344) from rfl) (k' := 2)
  have e : fs = fs2 := congrArg Prod.snd (Sum.inr.inj (Option.some.inj (hp.symm.trans hp2)))
  subst e
  exact ⟨fs, cT, ⟨hp, hA, hT⟩, hv⟩
/-- what a call finds, and the next one after it -/
theorem j6_of {B : Nat → Nat} {rt_ : Nat} {Wr : List (Nat × Nat)} {T : fT} {cc : ByteArray} {As : List Value} {w w1 : lW} {rv : Option Value} (hJ : J6 B w) (h1 : fLr (fq cw_TT cw_SG rt_ Wr T cc) As w rv w1) (hk : bs_K.all (fun x => !(Wr.contains x)) = true) (h17 : (17, 1) ∉ Wr) (h45 : (45, 0) ∉ Wr) : ∃ (c : Int32) (W : Nat → Nat → Int64) (fs : List Value) (cT : ClassId) (g : Nat → Int64), (nS B c w ∧ wS B W w ∧ 0 ≤ c.toInt ∧ c.toInt ≤ 60) ∧ (rt ((B 343, fs), B 344, cT, g) (hof w1.1) ∧ fs.getD 1 .null = .int c) ∧ ∀ i : Nat, (i : Int) < c.toInt → ∀ x, x < 4 → W i x = g (4 * i + x) := by
  have hb := hJ.1.b
  have hb1 : bI B w1 := hb.keep h1 hk
  obtain ⟨tys, hw, -⟩ := h1.2.2.2.2.1
  obtain ⟨h4, c, W, g, hc, hW, hg, hE⟩ := hJ
  obtain ⟨c0, hc0, hm⟩ := h4.1.2
  have ec : c0 = c := hc0.uni hc
  subst ec
  obtain ⟨fs, cT, hrt, hcc⟩ := rt_of hb1 (hm.keep hb h1 bl_343 bt_343 h17) (hg.keep hb h1 bl_344 bt_344 (by decide) h45)
  exact ⟨c0, W, fs, cT, g, ⟨⟨hb, sN.of hb hw, hc⟩, hW, rng_0 hb hw hc⟩, ⟨hrt, hcc⟩, hE⟩
theorem pk6_worlds {B : Nat → Nat} : ∀ (w w1 w2 : lW) (rv1 rv2 : Option Value) (s : Int32), J6 B w → fLr r_X11_worlds [.ref (B 0), .int s] w rv1 w1 → fLr r_X12_worlds [.ref (B 343), .int s] w1 rv2 w2 → rv1 = rv2 ∧ J6 B w2 := by
  intro w w1 w2 rv1 rv2 s hJ h1 h2
  refine ⟨?_, fr6 h2 (fr6 h1 hJ (by decide) (by decide) (by decide) (by decide) (by decide)) (by decide) (by decide) (by decide) (by decide) (by decide)⟩
  obtain ⟨c, W, fs, cT, g, hP, ⟨hrt, hcc⟩, hE⟩ := j6_of hJ h1 (by decide) (by decide) (by decide)
  have a1 : rv1 = some (.int (w1V c s (szA bcV (W s.toInt.toNat) 4))) := s_X11_worlds ((B, c, W), s) w w1 rv1 h1 hP
  have a2 : rv2 = some (.int (w1V c s (szA (fun v => cbA v 64) (rtW g s) 4))) := ((s_X12_worlds _ _ _ _ _ _ h2).2 (((B 343, fs), B 344, cT, g), c, s) rfl ⟨hrt, hcc, hP.2.2.2⟩).2
  rw [a1, a2]
  unfold w1V
  by_cases hs : 0 ≤ s.toInt ∧ s.toInt < c.toInt
  · rw [if_pos hs, if_pos hs, szA_eq (b2 := fun v => cbA v 64) (f2 := rtW g s) (fun _ => bc_cb) (fun x hx => hE s.toInt.toNat (by omega) x hx)]
  · rw [if_neg hs, if_neg hs]
theorem pk6_truth {B : Nat → Nat} : ∀ (w w1 w2 : lW) (rv1 rv2 : Option Value) (s k : Int32), J6 B w → fLr r_X11_truth [.ref (B 0), .int s, .int k] w rv1 w1 → fLr r_X12_truth [.ref (B 343), .int s, .int k] w1 rv2 w2 → rv1 = rv2 ∧ J6 B w2 := by
  intro w w1 w2 rv1 rv2 s k hJ h1 h2
  refine ⟨?_, fr6 h2 (fr6 h1 hJ (by decide) (by decide) (by decide) (by decide) (by decide)) (by decide) (by decide) (by decide) (by decide) (by decide)⟩
  obtain ⟨c, W, fs, cT, g, hP, ⟨hrt, hcc⟩, hE⟩ := j6_of hJ h1 (by decide) (by decide) (by decide)
  have a1 : rv1 = some (.int (t1V c s k (hasW (W s.toInt.toNat) k))) := s_X11_truth ((B, c, W), s, k) w w1 rv1 h1 hP
  have a2 : rv2 = some (.int (t1V c s k (hasW (rtW g s) k))) := ((s_X12_truth _ _ _ _ _ _ h2).2 (((B 343, fs), B 344, cT, g), c, s, k) rfl ⟨hrt, hcc, hP.2.2.2⟩).2
  rw [a1, a2]
  unfold t1V
  by_cases hs : (0 ≤ s.toInt ∧ s.toInt < c.toInt) ∧ (0 ≤ k.toInt ∧ k.toInt < 256)
  · have e : hasW (W s.toInt.toNat) k = hasW (rtW g s) k := by
      show hbB (W s.toInt.toNat (k.toInt.toNat / 64)) _ = hbB (g (4 * s.toInt.toNat + k.toInt.toNat / 64)) _
      rw [hE s.toInt.toNat (by omega) _ (by omega)]
    rw [if_pos hs, if_pos hs, e]
  · rw [if_neg hs, if_neg hs]
theorem pk6_compare {B : Nat → Nat} : ∀ (w w1 w2 : lW) (rv1 rv2 : Option Value) (a b : Int32), J6 B w → fLr r_X11_compare [.ref (B 0), .int a, .int b] w rv1 w1 → fLr r_X12_compare [.ref (B 343), .int a, .int b] w1 rv2 w2 → rv1 = rv2 ∧ J6 B w2 := by
  intro w w1 w2 rv1 rv2 a b hJ h1 h2
  refine ⟨?_, fr6 h2 (fr6 h1 hJ (by decide) (by decide) (by decide) (by decide) (by decide)) (by decide) (by decide) (by decide) (by decide) (by decide)⟩
  obtain ⟨c, W, fs, cT, g, hP, ⟨hrt, hcc⟩, hE⟩ := j6_of hJ h1 (by decide) (by decide) (by decide)
  have a1 : rv1 = some (.int (c1V c a b (c1W (W a.toInt.toNat) (W b.toInt.toNat)))) := s_X11_compare ((B, c, W), a, b) w w1 rv1 h1 hP
  have a2 : rv2 = some (.int (c1V c a b (c1W (rtW g a) (rtW g b)))) := ((s_X12_compare _ _ _ _ _ _ h2).2 (((B 343, fs), B 344, cT, g), c, a, b) rfl ⟨hrt, hcc, hP.2.2.2⟩).2
  rw [a1, a2]
  unfold c1V
  by_cases hs : (0 ≤ a.toInt ∧ a.toInt < c.toInt) ∧ (0 ≤ b.toInt ∧ b.toInt < c.toInt)
  · have ea : ∀ x, x < 4 → W a.toInt.toNat x = rtW g a x := fun x hx => hE a.toInt.toNat (by omega) x hx
    have eb : ∀ x, x < 4 → W b.toInt.toNat x = rtW g b x := fun x hx => hE b.toInt.toNat (by omega) x hx
    have e : c1W (W a.toInt.toNat) (W b.toInt.toNat) = c1W (rtW g a) (rtW g b) := by
      unfold c1W
      rw [allB_eq (o := o_in) ea eb, allB_eq (o := o_in) eb ea, allB_eq (o := o_meet) ea eb]
    rw [if_pos hs, if_pos hs, e]
  · rw [if_neg hs, if_neg hs]
end
