/-! what hold, news, rule, claim and so on leave of it -/
/-! what stands where after a write -/
section
variable {A : zW} {q k a b : Nat} {v : Value} {x : Int32}
theorem zI_uF : zI (zuF A q k v) a b = zI A a b := rfl
theorem zR_uF : zR (zuF A q k v) a b = zR A a b := rfl
theorem zK_uF : zK (zuF A q k v) a = zK A a := rfl
theorem zN_uF : zN (zuF A q k v) = zN A := rfl
theorem zI_uR : zI (zuR A q k v) a b = zI A a b := rfl
theorem zF_uR : zF (zuR A q k v) a b = zF A a b := rfl
theorem zK_uR : zK (zuR A q k v) a = zK A a := rfl
theorem zN_uR : zN (zuR A q k v) = zN A := rfl
theorem zF_uI : zF (zuI A q k x) a b = zF A a b := rfl
theorem zR_uI : zR (zuI A q k x) a b = zR A a b := rfl
theorem zK_uI : zK (zuI A q k x) a = zK A a := rfl
theorem zN_uI : zN (zuI A q k x) = zN A := rfl
theorem zF_sI {f : Nat → Int32} : zF (zsI A q f) a b = zF A a b := rfl
theorem zR_sI {f : Nat → Int32} : zR (zsI A q f) a b = zR A a b := rfl
theorem zK_sI {f : Nat → Int32} : zK (zsI A q f) a = zK A a := rfl
theorem zN_sI {f : Nat → Int32} : zN (zsI A q f) = zN A := rfl
theorem zI_uN {ci t : Nat} {D : Nat → Value} : zI (zuN A ci t D) a b = zI A a b := rfl
theorem zR_uN {ci t : Nat} {D : Nat → Value} : zR (zuN A ci t D) a b = zR A a b := rfl
theorem zI_ent {n s u f t k : Int32} : zI (zent A q n s u f t k) a b = zI A a b := by
  unfold zent
  rw [zI_uF, zI_uF, zI_uF, zI_uF, zI_uF, zI_uF, zI_uF]
theorem zR_ent {n s u f t k : Int32} : zR (zent A q n s u f t k) a b = zR A a b := by
  unfold zent
  rw [zR_uF, zR_uF, zR_uF, zR_uF, zR_uF, zR_uF, zR_uF]
theorem zK_ent {n s u f t k : Int32} : zK (zent A q n s u f t k) a = zK A a := by
  unfold zent
  rw [zK_uF, zK_uF, zK_uF, zK_uF, zK_uF, zK_uF, zK_uF]
theorem zN_ent {n s u f t k : Int32} : zN (zent A q n s u f t k) = zN A := by
  unfold zent
  rw [zN_uF, zN_uF, zN_uF, zN_uF, zN_uF, zN_uF, zN_uF]
end
theorem agr.sJ {A : zW} {q : Nat} {f : Nat → Int64} : agr (zsJ A q f) A := ⟨fun _ _ _ _ => rfl, fun _ _ _ _ => ⟨rfl, rfl⟩, Nat.le_refl _, fun _ _ _ _ _ h => ⟨h, fun _ _ => rfl⟩⟩
/-! an entry comes, on both sides -/
section
variable {A : zW} {D : Nat → Value} {n s u f t k : Int32}
theorem znE_N : zN (znE A D s u f t k) = zN A + 1 := by
  unfold znE zkp
  rw [zN_uF, zN_uR, zN_sI, zN_ent]
  rfl
theorem znE_F {q i : Nat} (hN : 385 ≤ zN A) (hq : q < 385) (h : ¬ (q = 193 ∧ i = 1)) : zF (znE A D s u f t k) q i = zF A q i := by
  unfold znE zkp
  rw [zuF_x, if_neg h, zF_uR, zF_sI, zent_ne (znN hN hq), zuN_f (znN hN hq)]
theorem znE_c (hN : 385 ≤ zN A) (hn : zF A 193 1 = .int n) : iv (zF (zent (zuN A 4 7 D) (zN A) (iv (zF A 193 1)) s u f t k) 193 1) = n := by
  rw [zent_ne (znN hN (by decide)), zuN_f (znN hN (by decide)), hn]
  rfl
theorem znE_1 (hN : 385 ≤ zN A) (hn : zF A 193 1 = .int n) : zF (znE A D s u f t k) 193 1 = .int (n + 1) := by
  unfold znE zkp
  rw [zuF_x, if_pos ⟨rfl, rfl⟩, znE_c hN hn]
  rfl
theorem znE_I {q i : Nat} (hq : q ≠ 196) : zI (znE A D s u f t k) q i = zI A q i := by
  unfold znE zkp
  rw [zI_uF, zI_uR, zsI_ne hq, zI_ent, zI_uN]
theorem znE_R {q i : Nat} (hN : 385 ≤ zN A) (hn : zF A 193 1 = .int n) : zR (znE A D s u f t k) q i = if q = 195 ∧ i = n.toInt.toNat then .ref (zN A) else zR A q i := by
  unfold znE zkp
  rw [zR_uF, zuR_x, znE_c hN hn, zR_sI, zR_ent, zR_uN]
  rfl
theorem znE_K {j : Nat} (h : j ≠ zN A) : zK (znE A D s u f t k) j = zK A j := by
  unfold znE zkp
  rw [zK_uF, zK_uR, zK_sI, zK_ent, zuN_K h]
theorem znE_Kn : zK (znE A D s u f t k) (zN A) = (4, 7) := by
  unfold znE zkp
  rw [zK_uF, zK_uR, zK_sI, zK_ent, zuN_k]
theorem znE_d {j i : Nat} (h : j ≠ zN A) (h2 : 385 ≤ j) : zF (znE A D s u f t k) j i = zF A j i := by
  unfold znE zkp
  rw [zuF_ne (by omega), zF_uR, zF_sI, zent_ne h, zuN_f h]
theorem znE_n {i : Nat} (hN : 385 ≤ zN A) : zF (znE A D s u f t k) (zN A) i = zF (zent (zuN A 4 7 D) (zN A) (iv (zF A 193 1)) s u f t k) (zN A) i := by
  unfold znE zkp
  rw [zuF_ne (by omega), zF_uR, zF_sI]
set_option maxRecDepth 20000 in
theorem zae_F {q i : Nat} (h : ¬ (q = 343 ∧ (i = 8 ∨ i = 17 ∨ i = 19 ∨ i = 33 ∨ i = 55))) : zF (zae A s u f t k) q i = zF A q i := by
  unfold zae zov
  rw [zuF_x, if_neg (fun z => h ⟨z.1, by omega⟩), zuF_x, if_neg (fun z => h ⟨z.1, by omega⟩), zuF_x, if_neg (fun z => h ⟨z.1, by omega⟩), zuF_x, if_neg (fun z => h ⟨z.1, by omega⟩), zuF_x, if_neg (fun z => h ⟨z.1, by omega⟩), zF_uI, zF_uI, zF_uI, zF_uI, zF_uI, zF_uI]
set_option maxRecDepth 20000 in
theorem zae_8 (hn : zF A 343 8 = .int n) : zF (zae A s u f t k) 343 8 = .int (n + 1) := by
  show Value.int (iv (zF A 343 8) + Int32.ofInt 1) = _
  rw [hn]
  rfl
set_option maxRecDepth 20000 in
theorem zae_I {q i : Nat} (h : q < 348 ∨ 353 < q) : zI (zae A s u f t k) q i = zI A q i := by
  unfold zae zov
  rw [zI_uF, zI_uF, zI_uF, zI_uF, zI_uF, zuI_ne (by omega), zuI_ne (by omega), zuI_ne (by omega), zuI_ne (by omega), zuI_ne (by omega), zuI_ne (by omega)]
set_option maxRecDepth 20000 in
theorem zae_at (hn : zF A 343 8 = .int n) (e : Nat) : zI (zae A s u f t k) 348 e = (if e = n.toInt.toNat then s else zI A 348 e) ∧ zI (zae A s u f t k) 349 e = (if e = n.toInt.toNat then u else zI A 349 e) ∧ zI (zae A s u f t k) 350 e = (if e = n.toInt.toNat then f else zI A 350 e) ∧ zI (zae A s u f t k) 351 e = (if e = n.toInt.toNat then t else zI A 351 e) ∧ zI (zae A s u f t k) 352 e = (if e = n.toInt.toNat then k else zI A 352 e) ∧ zI (zae A s u f t k) 353 e = (if e = n.toInt.toNat then Int32.ofInt (-9) else zI A 353 e) := by
  have en : (iv (zF A 343 8)).toNatClampNeg = n.toInt.toNat := by
    rw [hn]
    rfl
  have one : ∀ (A : zW) (q : Nat) (v : Int32), zI (zuI A q n.toInt.toNat v) q e = if e = n.toInt.toNat then v else zI A q e := fun A q v => by
    rw [zuI_x]
    by_cases h : e = n.toInt.toNat
    · rw [if_pos ⟨rfl, h⟩, if_pos h]
    · rw [if_neg (fun z => h z.2), if_neg h]
  unfold zae zov
  refine ⟨?_, ?_, ?_, ?_, ?_, ?_⟩
  · rw [zI_uF, zI_uF, zI_uF, zI_uF, zI_uF, en, zuI_ne (by decide), zuI_ne (by decide), zuI_ne (by decide), zuI_ne (by decide), zuI_ne (by decide), one]
  · rw [zI_uF, zI_uF, zI_uF, zI_uF, zI_uF, en, zuI_ne (by decide), zuI_ne (by decide), zuI_ne (by decide), zuI_ne (by decide), one, zuI_ne (by decide)]
  · rw [zI_uF, zI_uF, zI_uF, zI_uF, zI_uF, en, zuI_ne (by decide), zuI_ne (by decide), zuI_ne (by decide), one, zuI_ne (by decide), zuI_ne (by decide)]
  · rw [zI_uF, zI_uF, zI_uF, zI_uF, zI_uF, en, zuI_ne (by decide), zuI_ne (by decide), one, zuI_ne (by decide), zuI_ne (by decide), zuI_ne (by decide)]
  · rw [zI_uF, zI_uF, zI_uF, zI_uF, zI_uF, en, zuI_ne (by decide), one, zuI_ne (by decide), zuI_ne (by decide), zuI_ne (by decide), zuI_ne (by decide)]
  · rw [zI_uF, zI_uF, zI_uF, zI_uF, zI_uF, en, one, zuI_ne (by decide), zuI_ne (by decide), zuI_ne (by decide), zuI_ne (by decide), zuI_ne (by decide)]
set_option maxRecDepth 20000 in
theorem zae_R {q i : Nat} : zR (zae A s u f t k) q i = zR A q i := by
  unfold zae zov
  rw [zR_uF, zR_uF, zR_uF, zR_uF, zR_uF, zR_uI, zR_uI, zR_uI, zR_uI, zR_uI, zR_uI]
set_option maxRecDepth 20000 in
theorem zae_K {j : Nat} : zK (zae A s u f t k) j = zK A j := by
  unfold zae zov
  rw [zK_uF, zK_uF, zK_uF, zK_uF, zK_uF, zK_uI, zK_uI, zK_uI, zK_uI, zK_uI, zK_uI]
set_option maxRecDepth 20000 in
theorem zae_N : zN (zae A s u f t k) = zN A := by
  unfold zae zov
  rw [zN_uF, zN_uF, zN_uF, zN_uF, zN_uF, zN_uI, zN_uI, zN_uI, zN_uI, zN_uI, zN_uI]
end
theorem n_inc {n : Int32} (h0 : 0 ≤ n.toInt) (h : n.toInt < 100) : (n + 1).toInt = n.toInt + 1 := i_inc h0 (by omega)
theorem jE_add {A : zW} {D : Nat → Value} {n s u f t k : Int32} (h : jE A n) (hn : n.toInt < 12) (hN : 385 ≤ zN A) (hu : 0 ≤ u.toInt ∧ u.toInt < 6) : jE (zae (znE A D s u f t k) s u f t k) (n + 1) := by
  obtain ⟨⟨a1, a2, a2'⟩, a3, a4⟩ := h
  have hm : zF (znE A D s u f t k) 343 8 = .int n := (znE_F hN (by decide) (by decide)).trans a3
  have hi := n_inc a2 (by omega)
  refine ⟨⟨?_, by omega, by omega⟩, zae_8 hm, fun e he => ?_⟩
  · rw [zae_F (by decide)]
    exact znE_1 hN a1
  · obtain ⟨g1, g2, g3, g4, g5, -⟩ := zae_at (s := s) (u := u) (f := f) (t := t) (k := k) hm e
    by_cases ee : e = n.toInt.toNat
    · have d0 : ∀ i, zF (zae (znE A D s u f t k) s u f t k) (zN A) i = zF (zent (zuN A 4 7 D) (zN A) (iv (zF A 193 1)) s u f t k) (zN A) i := fun i => by
        rw [zae_F (by omega), znE_n hN]
      refine ⟨zN A, ?_, ⟨hN, by rw [zae_N, znE_N]; omega, by rw [zae_K]; exact znE_Kn⟩, ?_, ?_, ?_, ?_, ?_, ?_, ?_⟩
      · rw [zae_R, znE_R hN a1, if_pos ⟨rfl, ee⟩]
      · rw [d0, zent_0, a1, ee]
        have en : n = Int32.ofNat n.toInt.toNat := n32_of (by omega)
        exact congrArg Value.int en
      · rw [d0, zent_1, g1, if_pos ee]
      · rw [d0, zent_2, g2, if_pos ee]
      · rw [d0, zent_3, g3, if_pos ee]
      · rw [d0, zent_4, g4, if_pos ee]
      · rw [d0, zent_5, g5, if_pos ee]
      · rw [g2, if_pos ee]
        exact hu
    · obtain ⟨j, b0, ⟨b1, b2, b3⟩, c0, c1, c2, c3, c4, c5, c6⟩ := a4 e (by omega)
      have nj : j ≠ zN A := by omega
      have d0 : ∀ i, zF (zae (znE A D s u f t k) s u f t k) j i = zF A j i := fun i => by
        rw [zae_F (by omega), znE_d nj b1]
      rw [if_neg ee, znE_I (by decide)] at g1 g2 g3 g4 g5
      refine ⟨j, ?_, ⟨b1, by rw [zae_N, znE_N]; omega, by rw [zae_K, znE_K nj]; exact b3⟩, ?_, ?_, ?_, ?_, ?_, ?_, ?_⟩
      · rw [zae_R, znE_R hN a1, if_neg (fun z => ee z.2)]
        exact b0
      · rw [d0]; exact c0
      · rw [d0, g1]; exact c1
      · rw [d0, g2]; exact c2
      · rw [d0, g3]; exact c3
      · rw [d0, g4]; exact c4
      · rw [d0, g5]; exact c5
      · rw [g2]; exact c6
theorem jx_add {A : zW} {D : Nat → Value} {n m q s u f t k : Int32} (h1 : jE A n) (h2 : jR A m) (h3 : jC A q) (h4 : jT A) (h5 : jV A) (h6 : jH A n m) (h7 : jL A) (hn : n.toInt < 12) (hN : 385 ≤ zN A) (hu : 0 ≤ u.toInt ∧ u.toInt < 6) : jx (zae (znE A D s u f t k) s u f t k) := by
  have a1 := h1.1.1
  have n0 := h1.1.2.1
  have hi := n_inc n0 (by omega)
  have F : ∀ q i, q < 385 → ¬ (q = 193 ∧ i = 1) → ¬ (q = 343 ∧ (i = 8 ∨ i = 17 ∨ i = 19 ∨ i = 33 ∨ i = 55)) → zF (zae (znE A D s u f t k) s u f t k) q i = zF A q i := fun q i hq h1 h2 => by
    rw [zae_F h2, znE_F hN hq h1]
  have I : ∀ q i, q ≠ 196 → (q < 348 ∨ 353 < q) → zI (zae (znE A D s u f t k) s u f t k) q i = zI A q i := fun q i h1 h2 => by
    rw [zae_I h2, znE_I h1]
  have R : ∀ q i, q ≠ 195 → zR (zae (znE A D s u f t k) s u f t k) q i = zR A q i := fun q i h => by
    rw [zae_R, znE_R hN a1, if_neg (fun z => h z.1)]
  refine ⟨n + 1, m, q, jE_add h1 hn hN hu, h2.tr (F _ _ (by decide) (by decide) (by decide)) (F _ _ (by decide) (by decide) (by decide)) (fun e => R _ _ (by decide)) (fun i e _ _ => I _ _ (by omega) (by omega)) (by rw [zae_N, znE_N]; omega) (fun j _ b1 b2 _ _ => ⟨by rw [zae_K]; exact znE_K (by omega), fun i _ => ?_⟩), h3.tr (F _ _ (by decide) (by decide) (by decide)) (F _ _ (by decide) (by decide) (by decide)) (fun _ => I _ _ (by decide) (by decide)) (fun _ => I _ _ (by decide) (by decide)) (fun _ => I _ _ (by decide) (by decide)) (fun _ => I _ _ (by decide) (by decide)), h4.tr (fun _ => I _ _ (by decide) (by decide)) (fun _ => I _ _ (by decide) (by decide)), h5.tr (F _ _ (by decide) (by decide) (by decide)) (F _ _ (by decide) (by decide) (by decide)) (F _ _ (by decide) (by decide) (by decide)) (F _ _ (by decide) (by decide) (by decide)), h6.tr (by omega) (by omega) (fun _ => I _ _ (by decide) (by decide)) (fun _ => I _ _ (by decide) (by decide)) (fun _ => R _ _ (by decide)) (fun e he => ?_) (fun e _ => R _ _ (by decide)), h7.tr (F _ _ (by decide) (by decide) (by decide)) (I _ _ (by decide) (by decide))⟩
  · rw [zae_F (by omega), znE_d (by omega) b1]
  · rw [zae_R, znE_R hN a1, if_neg (fun z => by omega)]
/-- what news gives up is told of no entry but when it was given up -/
theorem jx_e3 {A X X2 : zW} {b : Nat} (h : jx A) (h1 : zN A ≤ zN X) (h2 : zN X ≤ zN X2) : jx (zE3 A X X2 b) := by
  have h0 : jx (zE2 A b) := jx_agr h (by
    unfold zE2 ztn zbe
    exact agr.tr agr.sJ agr.sJ)
  exact jx_hv (X := X2) (Wr := [(7, 6)]) (jx_hv (X := X) (Wr := [(6, 0)]) h0 (by decide) h1) (by decide) h2
theorem agr_e3m {A X X2 : zW} (h1 : zN A ≤ zN X) (h2 : zN X ≤ zN X2) : agr (zE3m A X X2) A :=
  agr.tr (agr.hv (X := X) (Wr := [(17, 17), (17, 19), (17, 20), (17, 21), (17, 23), (17, 25), (17, 26), (55, 0), (56, 0), (57, 0)]) (by decide) h1) (agr.hv (X := X2) (Wr := [(17, 19), (17, 33), (17, 55), (54, 0)]) (by decide) h2)
/-- the reference's entry, over worlds that are alike -/
theorem agr_zae {A B : zW} {s u f t k : Int32} (h : agr B A) : agr (zae B s u f t k) (zae A s u f t k) := by
  obtain ⟨F, IR, N, D⟩ := h
  have hn : zF B 343 8 = zF A 343 8 := F _ _ (by decide) (by decide +kernel)
  have one : ∀ (X Y : zW) (q i r : Nat) (v : Int32), zI X q i = zI Y q i → zI (zuI X r (iv (zF B 343 8)).toNatClampNeg v) q i = zI (zuI Y r (iv (zF A 343 8)).toNatClampNeg v) q i := fun X Y q i r v e => by
    rw [zuI_x, zuI_x, hn, e]
  have two : ∀ (X Y : zW) (q i r x : Nat) (v w : Value), v = w → zF X q i = zF Y q i → zF (zuF X r x v) q i = zF (zuF Y r x w) q i := fun X Y q i r x v w e1 e => by
    rw [zuF_x, zuF_x, e1, e]
  refine ⟨fun q i hq hm => ?_, fun q i hq hm => ⟨?_, by rw [zae_R, zae_R]; exact (IR q i hq hm).2⟩, by rw [zae_N, zae_N]; exact N, fun j ci ty hj hl hK => ?_⟩
  · have e0 := F q i hq hm
    unfold zae zov
    refine two _ _ _ _ _ _ _ _ rfl (two _ _ _ _ _ _ _ _ rfl (two _ _ _ _ _ _ _ _ rfl (two _ _ _ _ _ _ _ _ rfl (two _ _ _ _ _ _ _ _ ?_ ?_))))
    · rw [hn]
    · rw [zF_uI, zF_uI, zF_uI, zF_uI, zF_uI, zF_uI, zF_uI, zF_uI, zF_uI, zF_uI, zF_uI, zF_uI]
      exact e0
  · have e0 := (IR q i hq hm).1
    unfold zae zov
    rw [zI_uF, zI_uF, zI_uF, zI_uF, zI_uF, zI_uF, zI_uF, zI_uF, zI_uF, zI_uF]
    exact one _ _ _ _ _ _ (one _ _ _ _ _ _ (one _ _ _ _ _ _ (one _ _ _ _ _ _ (one _ _ _ _ _ _ (one _ _ _ _ _ _ e0)))))
  · rw [zae_N] at hl
    rw [zae_K] at hK
    obtain ⟨d1, d2⟩ := D j ci ty hj hl hK
    refine ⟨by rw [zae_K]; exact d1, fun i hm => ?_⟩
    rw [zae_F (by omega), zae_F (by omega)]
    exact d2 i hm
