/-! what both sides have alike of entries, rules, claims, holds, the view, trusts, the trail -/
theorem zrun {r : fR} {P : zQ} (h : zdo r P) {As : List Value} {w w' : lW} {rv : Option Value} (hx : fLr r As w rv w') {A : zW} {Us : List Value} {K : Option Value → zW → Prop} (hA : zA A w.1 w.2) (hv : zvs w.1 As Us) (hP : P Us A K) : ∃ (A' : zW) (u : Option Value), zA A' w'.1 w'.2 ∧ zvs w'.1 rv.toList u.toList ∧ K u A' := (h As w.1 w.2 rv w'.1 w'.2 hx).2 A Us K hA hv hP
theorem zvB {B : Nat → Nat} {w : lW} (hb : bI B w) {q : Nat} (hq : q < 385) : zvr w.1 (.ref (B q)) (.ref q) := by
  obtain ⟨c, hc⟩ := lp_L2_at hq
  obtain ⟨e, h1, -⟩ := hb.2.2 q c hc
  exact ⟨B q, e, rfl, h1⟩
theorem zv_int {ws : va_W} {rv u : Option Value} {v : Int32} (h : zvs ws rv.toList u.toList) (hu : u = some (.int v)) : rv = some (.int v) := by
  subst hu
  cases rv with
  | none => exact h.elim
  | some x =>
    have h1 : x = .int v := h.1
    rw [h1]
/-- a number in an object's field -/
theorem zo_F {B : Nat → Nat} {w : lW} {A : zW} {q ci k : Nat} {x : Int32} (hA : zA A w.1 w.2) (hb : bI B w) (hq : q < 385) (hz : zc q k = 0) (ho : oF B q ci k (.int x) w) : zF A q k = .int x := by
  obtain ⟨c, hc⟩ := lp_L2_at hq
  obtain ⟨e, h1, h2, -⟩ := hb.2.h hb.1 hc
  obtain ⟨fs, g1, g2, g3⟩ := ho
  rw [h2] at g1
  have g1 := Option.some.inj g1
  subst g1
  have h3 := (hA.2.2 q _ _ h1).2.2 k (.int x) (by
    show fs[k]? = _
    rw [List.getD_eq_getElem?_getD, List.getElem?_eq_getElem g2] at g3
    rw [List.getElem?_eq_getElem g2]
    exact congrArg some g3)
  have h4 := h3.int
  unfold zfl at h4
  rw [zcr_z hz] at h4
  exact h4
theorem nw_of {S Wr : List (Nat × Nat)} (h : S.all (fun x => !(Wr.contains x)) = true) {t k : Nat} (hm : (t, k) ∈ S) : zwr Wr t k = false := by
  cases hb : zwr Wr t k with
  | false => rfl
  | true =>
    have h1 := List.all_eq_true.mp h _ hm
    rw [List.contains_iff_mem.mpr (zwr_t.mp hb)] at h1
    cases h1
theorem zhv_bF {Wr : List (Nat × Nat)} {A X : zW} {q k : Nat} (hq : q < 385) (h : zwr Wr (zn lp_sh q) k = false) : zF (zhv Wr A X) q k = zF A q k := by
  show (bif zold A q && !(zwr Wr (zty A q) k) then zF A q k else zF X q k) = _
  rw [zold_b hq]
  unfold zty
  rw [nltT hq]
  show (bif true && !(zwr Wr (zn lp_sh q) k) then zF A q k else zF X q k) = _
  rw [h]
  rfl
theorem zhv_bI {Wr : List (Nat × Nat)} {A X : zW} {q k : Nat} (hq : q < 385) (h : zwr Wr (zn lp_sh q) 0 = false) : zI (zhv Wr A X) q k = zI A q k := by
  show (bif zold A q && !(zwr Wr (zty A q) 0) then zI A q k else zI X q k) = _
  rw [zold_b hq]
  unfold zty
  rw [nltT hq]
  show (bif true && !(zwr Wr (zn lp_sh q) 0) then zI A q k else zI X q k) = _
  rw [h]
  rfl
theorem zhv_bR {Wr : List (Nat × Nat)} {A X : zW} {q k : Nat} (hq : q < 385) (h : zwr Wr (zn lp_sh q) 0 = false) : zR (zhv Wr A X) q k = zR A q k := by
  show (bif zold A q && !(zwr Wr (zty A q) 0) then zR A q k else zR X q k) = _
  rw [zold_b hq]
  unfold zty
  rw [nltT hq]
  show (bif true && !(zwr Wr (zn lp_sh q) 0) then zR A q k else zR X q k) = _
  rw [h]
  rfl
theorem zhv_dF {Wr : List (Nat × Nat)} {A X : zW} {j k t ci : Nat} (h1 : 385 ≤ j) (h2 : j < zN A) (hK : zK A j = (ci, t)) (h : zwr Wr t k = false) : zF (zhv Wr A X) j k = zF A j k := by
  show (bif zold A j && !(zwr Wr (zty A j) k) then zF A j k else zF X j k) = _
  rw [zold_t h2, zty_d h1, hK, h]
  rfl
theorem zhv_dK {Wr : List (Nat × Nat)} {A X : zW} {j : Nat} (h2 : j < zN A) : zK (zhv Wr A X) j = zK A j := by
  show (bif zold A j then zK A j else zK X j) = _
  rw [zold_t h2]
  rfl
/-- an entry -/
def jent (A : zW) (e : Nat) : Prop := ∃ j : Nat, zR A 195 e = .ref j ∧ (385 ≤ j ∧ j < zN A ∧ zK A j = (4, 7)) ∧ zF A j 0 = .int (Int32.ofNat e) ∧ zF A j 1 = .int (zI A 348 e) ∧ zF A j 2 = .int (zI A 349 e) ∧ zF A j 3 = .int (zI A 350 e) ∧ zF A j 4 = .int (zI A 351 e) ∧ zF A j 5 = .int (zI A 352 e) ∧ 0 ≤ (zI A 349 e).toInt ∧ (zI A 349 e).toInt < 6
def jE (A : zW) (n : Int32) : Prop := zcE A n ∧ zF A 343 8 = .int n ∧ ∀ e : Nat, (e : Int) < n.toInt → jent A e
/-- a rule -/
def jrul (A : zW) (r : Nat) : Prop := ∃ j : Nat, zR A 210 r = .ref j ∧ (j < zN A ∧ 0 ≤ (zI A 357 r).toInt ∧ (zI A 357 r).toInt ≤ 2) ∧ zgR A j (zI A 357 r) (Int32.ofNat r) (zI A 359 r) (zI A 360 r) ∧ zF A j (kpd pI_X8 7 (zkC (zI A 357 r))) = .int (zI A 358 r) ∧ zF A j (kpd pI_X8 19 (zkC (zI A 357 r))) = .int (zI A 361 r)
def jR (A : zW) (m : Int32) : Prop := zcR A m ∧ zF A 343 27 = .int m ∧ ∀ r : Nat, (r : Int) < m.toInt → jrul A r
def jC (A : zW) (q : Int32) : Prop := zcC A q ∧ zF A 343 40 = .int q ∧ ∀ k : Nat, (k : Int) < q.toInt → zI A 283 k = zI A 366 k ∧ zI A 284 k = zI A 367 k
def jT (A : zW) : Prop := ∀ i, i < 6 → zI A 194 i = zI A 345 i
def jV (A : zW) : Prop := ∃ t k : Int32, zF A 193 2 = .int t ∧ zF A 343 15 = .int t ∧ zF A 193 3 = .int k ∧ zF A 343 16 = .int k
def jhd (A : zW) (n m : Int32) (k : Nat) : Prop := ((zI A 379 k).toInt < 0 ∧ zR A 334 k = .null) ∨ ((zI A 379 k).toInt = 0 ∧ (0 ≤ (zI A 380 k).toInt ∧ (zI A 380 k).toInt < n.toInt) ∧ zR A 334 k = zR A 195 (zI A 380 k).toInt.toNat) ∨ ((zI A 379 k).toInt = 1 ∧ (0 ≤ (zI A 380 k).toInt ∧ (zI A 380 k).toInt < m.toInt) ∧ zR A 334 k = zR A 210 (zI A 380 k).toInt.toNat)
def jH (A : zW) (n m : Int32) : Prop := ∀ k, k < 6 → jhd A n m k
def jL (A : zW) : Prop := zF A 343 63 = .int (zI A 342 0)
def S_E : List (Nat × Nat) := [(13, 1), (17, 8), (28, 0), (49, 0), (50, 0), (51, 0), (52, 0), (53, 0), (7, 0), (7, 1), (7, 2), (7, 3), (7, 4), (7, 5)]
def S_R : List (Nat × Nat) := [(14, 1), (17, 27), (30, 0), (58, 0), (59, 0), (60, 0), (61, 0), (62, 0), (8, 0), (8, 1), (8, 2), (8, 3), (8, 4), (9, 0), (9, 1), (9, 2), (9, 3), (9, 4), (10, 0), (10, 1), (10, 2), (10, 3), (10, 4)]
def S_C : List (Nat × Nat) := [(15, 0), (17, 40), (34, 0), (38, 0), (67, 0), (68, 0)]
def S_T : List (Nat × Nat) := [(27, 0), (46, 0)]
def S_V : List (Nat × Nat) := [(13, 2), (13, 3), (17, 15), (17, 16)]
def S_H : List (Nat × Nat) := [(80, 0), (81, 0), (19, 0), (28, 0), (30, 0)]
def S_L : List (Nat × Nat) := [(24, 0), (17, 63)]
def nW (S Wr : List (Nat × Nat)) : Bool := S.all (fun x => !(Wr.contains x))
theorem jrul_t {kd : Int32} {k : Nat} (hd : 0 ≤ kd.toInt ∧ kd.toInt ≤ 2) (hk : k < 5) : (zkY kd, k) ∈ S_R := by
  have h : zkY kd = 8 ∨ zkY kd = 9 ∨ zkY kd = 10 := by
    unfold zkY
    split
    · exact Or.inl rfl
    · split
      · exact Or.inr (Or.inl rfl)
      · exact Or.inr (Or.inr rfl)
  have h2 : k = 0 ∨ k = 1 ∨ k = 2 ∨ k = 3 ∨ k = 4 := by omega
  rcases h with h | h | h <;> rw [h] <;> rcases h2 with rfl | rfl | rfl | rfl | rfl <;> decide
theorem jrul_k {kd : Int32} (hd : 0 ≤ kd.toInt ∧ kd.toInt ≤ 2) : kpd pI_X10 7 (zkC kd) < 5 ∧ kpd pI_X8 7 (zkC kd) < 5 ∧ kpd pI_X8 13 (zkC kd) < 5 ∧ kpd pI_X8 16 (zkC kd) < 5 ∧ kpd pI_X8 19 (zkC kd) < 5 := by
  rcases zkS_k hd with z | z | z <;> rw [z] <;> decide
section
variable {A A' : zW} {n n' m m' q : Int32}
theorem jE.tr (h : jE A n) (h1 : zF A' 193 1 = zF A 193 1) (h2 : zF A' 343 8 = zF A 343 8) (h3 : ∀ e, zR A' 195 e = zR A 195 e) (h4 : ∀ i e, 348 ≤ i → i ≤ 352 → zI A' i e = zI A i e) (hN : zN A ≤ zN A') (hd : ∀ j, 385 ≤ j → j < zN A → zK A j = (4, 7) → zK A' j = zK A j ∧ ∀ k, k < 6 → zF A' j k = zF A j k) : jE A' n := by
  obtain ⟨⟨a1, a2⟩, a3, a4⟩ := h
  refine ⟨⟨h1.trans a1, a2⟩, h2.trans a3, fun e he => ?_⟩
  obtain ⟨j, b0, ⟨b1, b2, b3⟩, c0, c1, c2, c3, c4, c5, c6⟩ := a4 e he
  obtain ⟨d1, d2⟩ := hd j b1 b2 b3
  refine ⟨j, (h3 e).trans b0, ⟨b1, by omega, d1.trans b3⟩, ?_, ?_, ?_, ?_, ?_, ?_, ?_⟩
  · rw [d2 0 (by omega)]; exact c0
  · rw [d2 1 (by omega), h4 348 e (by omega) (by omega)]; exact c1
  · rw [d2 2 (by omega), h4 349 e (by omega) (by omega)]; exact c2
  · rw [d2 3 (by omega), h4 350 e (by omega) (by omega)]; exact c3
  · rw [d2 4 (by omega), h4 351 e (by omega) (by omega)]; exact c4
  · rw [d2 5 (by omega), h4 352 e (by omega) (by omega)]; exact c5
  · rw [h4 349 e (by omega) (by omega)]; exact c6
theorem jR.tr (h : jR A m) (h1 : zF A' 207 1 = zF A 207 1) (h2 : zF A' 343 27 = zF A 343 27) (h3 : ∀ e, zR A' 210 e = zR A 210 e) (h4 : ∀ i e, 357 ≤ i → i ≤ 361 → zI A' i e = zI A i e) (hN : zN A ≤ zN A') (hd : ∀ (j : Nat) (kd : Int32), 385 ≤ j → j < zN A → (0 ≤ kd.toInt ∧ kd.toInt ≤ 2) → zK A j = (zkC kd, zkY kd) → zK A' j = zK A j ∧ ∀ k, k < 5 → zF A' j k = zF A j k) : jR A' m := by
  obtain ⟨⟨a1, a2⟩, a3, a4⟩ := h
  refine ⟨⟨h1.trans a1, a2⟩, h2.trans a3, fun r hr => ?_⟩
  obtain ⟨j, b0, ⟨b1, b2⟩, ⟨c1, c2, c3, c4, c5⟩, c6, c7⟩ := a4 r hr
  obtain ⟨d1, d2⟩ := hd j _ c1 b1 b2 c2
  obtain ⟨k1, k2, k3, k4, k5⟩ := jrul_k b2
  have i7 := h4 357 r (by omega) (by omega)
  have i8 := h4 358 r (by omega) (by omega)
  have i9 := h4 359 r (by omega) (by omega)
  have i10 := h4 360 r (by omega) (by omega)
  have i11 := h4 361 r (by omega) (by omega)
  refine ⟨j, (h3 r).trans b0, ⟨by omega, by rw [i7]; exact b2⟩, ⟨c1, ?_, ?_, ?_, ?_⟩, ?_, ?_⟩
  · rw [d1, i7]; exact c2
  · rw [i7, d2 _ (by omega)]; exact c3
  · rw [i7, i9, d2 _ (by omega)]; exact c4
  · rw [i7, i10, d2 _ (by omega)]; exact c5
  · rw [i7, i8, d2 _ (by omega)]; exact c6
  · rw [i7, i11, d2 _ (by omega)]; exact c7
theorem jC.tr (h : jC A q) (h1 : zF A' 282 0 = zF A 282 0) (h2 : zF A' 343 40 = zF A 343 40) (h3 : ∀ k, zI A' 283 k = zI A 283 k) (h4 : ∀ k, zI A' 366 k = zI A 366 k) (h5 : ∀ k, zI A' 284 k = zI A 284 k) (h6 : ∀ k, zI A' 367 k = zI A 367 k) : jC A' q := by
  obtain ⟨⟨a1, a2⟩, a3, a4⟩ := h
  refine ⟨⟨h1.trans a1, a2⟩, h2.trans a3, fun k hk => ?_⟩
  rw [h3, h4, h5, h6]
  exact a4 k hk
theorem jT.tr (h : jT A) (h1 : ∀ k, zI A' 194 k = zI A 194 k) (h2 : ∀ k, zI A' 345 k = zI A 345 k) : jT A' := fun i hi => by
  rw [h1, h2]
  exact h i hi
theorem jV.tr (h : jV A) (h1 : zF A' 193 2 = zF A 193 2) (h2 : zF A' 343 15 = zF A 343 15) (h3 : zF A' 193 3 = zF A 193 3) (h4 : zF A' 343 16 = zF A 343 16) : jV A' := by
  obtain ⟨t, k, a1, a2, a3, a4⟩ := h
  exact ⟨t, k, h1.trans a1, h2.trans a2, h3.trans a3, h4.trans a4⟩
theorem jH.tr (h : jH A n m) (hn : n.toInt ≤ n'.toInt) (hm : m.toInt ≤ m'.toInt) (h1 : ∀ k, zI A' 379 k = zI A 379 k) (h2 : ∀ k, zI A' 380 k = zI A 380 k) (h3 : ∀ k, zR A' 334 k = zR A 334 k) (h4 : ∀ e : Nat, (e : Int) < n.toInt → zR A' 195 e = zR A 195 e) (h5 : ∀ e : Nat, (e : Int) < m.toInt → zR A' 210 e = zR A 210 e) : jH A' n' m' := fun k hk => by
  unfold jhd
  rw [h1, h2, h3]
  rcases h k hk with a | ⟨a, b, c⟩ | ⟨a, b, c⟩
  · exact Or.inl a
  · exact Or.inr (Or.inl ⟨a, ⟨b.1, by omega⟩, by rw [h4 _ (by omega)]; exact c⟩)
  · exact Or.inr (Or.inr ⟨a, ⟨b.1, by omega⟩, by rw [h5 _ (by omega)]; exact c⟩)
theorem jL.tr (h : jL A) (h1 : zF A' 343 63 = zF A 343 63) (h2 : zI A' 342 0 = zI A 342 0) : jL A' := by
  show zF A' 343 63 = .int (zI A' 342 0)
  rw [h1, h2]
  exact h
end
def jx (A : zW) : Prop := ∃ n m q : Int32, jE A n ∧ jR A m ∧ jC A q ∧ jT A ∧ jV A ∧ jH A n m ∧ jL A
def S_X : List (Nat × Nat) := S_E ++ S_R ++ S_C ++ S_T ++ S_V ++ S_H ++ S_L
/-- alike in all of it -/
def agr (A' A : zW) : Prop := (∀ q i, q < 385 → (zn lp_sh q, i) ∈ S_X → zF A' q i = zF A q i) ∧ (∀ q i, q < 385 → (zn lp_sh q, 0) ∈ S_X → zI A' q i = zI A q i ∧ zR A' q i = zR A q i) ∧ zN A ≤ zN A' ∧ ∀ j ci ty, 385 ≤ j → j < zN A → zK A j = (ci, ty) → zK A' j = (ci, ty) ∧ ∀ i, (ty, i) ∈ S_X → zF A' j i = zF A j i
theorem agr.rf {A : zW} : agr A A := ⟨fun _ _ _ _ => rfl, fun _ _ _ _ => ⟨rfl, rfl⟩, Nat.le_refl _, fun _ _ _ _ _ h => ⟨h, fun _ _ => rfl⟩⟩
theorem agr.tr {A B C : zW} (h1 : agr B A) (h2 : agr C B) : agr C A := by
  obtain ⟨a1, a2, a3, a4⟩ := h1
  obtain ⟨b1, b2, b3, b4⟩ := h2
  refine ⟨fun q i hq hm => (b1 q i hq hm).trans (a1 q i hq hm), fun q i hq hm => ⟨(b2 q i hq hm).1.trans (a2 q i hq hm).1, (b2 q i hq hm).2.trans (a2 q i hq hm).2⟩, by omega, fun j ci ty hj hl hK => ?_⟩
  obtain ⟨c1, c2⟩ := a4 j ci ty hj hl hK
  obtain ⟨d1, d2⟩ := b4 j ci ty hj (by omega) c1
  exact ⟨d1, fun i hm => (d2 i hm).trans (c2 i hm)⟩
theorem agr.hv {A X : zW} {Wr : List (Nat × Nat)} (hw : nW S_X Wr = true) (hN : zN A ≤ zN X) : agr (zhv Wr A X) A :=
  ⟨fun _ _ hq hm => zhv_bF hq (nw_of hw hm), fun _ _ hq hm => ⟨zhv_bI hq (nw_of hw hm), zhv_bR hq (nw_of hw hm)⟩, hN, fun _ _ _ hj hl hK => ⟨(zhv_dK hl).trans hK, fun _ hm => zhv_dF hj hl hK (nw_of hw hm)⟩⟩
theorem jrul_x {kd : Int32} {k : Nat} (hd : 0 ≤ kd.toInt ∧ kd.toInt ≤ 2) (hk : k < 5) : (zkY kd, k) ∈ S_X := by
  have h := jrul_t hd hk
  have hs : ∀ x ∈ S_R, x ∈ S_X := by decide
  exact hs _ h
theorem jent_x {k : Nat} (hk : k < 6) : (7, k) ∈ S_X := by
  have h : ∀ k, k < 6 → (7, k) ∈ S_X := by decide
  exact h k hk
theorem jx_agr {A A' : zW} (h : jx A) (g : agr A' A) : jx A' := by
  obtain ⟨n, m, q, h1, h2, h3, h4, h5, h6, h7⟩ := h
  obtain ⟨F, IR, N, D⟩ := g
  have I : ∀ q i, q < 385 → (zn lp_sh q, 0) ∈ S_X → zI A' q i = zI A q i := fun q i a b => (IR q i a b).1
  have R : ∀ q i, q < 385 → (zn lp_sh q, 0) ∈ S_X → zR A' q i = zR A q i := fun q i a b => (IR q i a b).2
  have s1 : ∀ i, 348 ≤ i → i ≤ 352 → i < 385 ∧ (zn lp_sh i, 0) ∈ S_X := fun i a b => by
    rcases (show i = 348 ∨ i = 349 ∨ i = 350 ∨ i = 351 ∨ i = 352 by omega) with rfl | rfl | rfl | rfl | rfl <;> exact ⟨by decide, by decide +kernel⟩
  have s2 : ∀ i, 357 ≤ i → i ≤ 361 → i < 385 ∧ (zn lp_sh i, 0) ∈ S_X := fun i a b => by
    rcases (show i = 357 ∨ i = 358 ∨ i = 359 ∨ i = 360 ∨ i = 361 by omega) with rfl | rfl | rfl | rfl | rfl <;> exact ⟨by decide, by decide +kernel⟩
  refine ⟨n, m, q, h1.tr (F _ _ (by decide) (by decide +kernel)) (F _ _ (by decide) (by decide +kernel)) (fun e => R _ _ (by decide) (by decide +kernel)) (fun i e a b => I _ _ (s1 i a b).1 (s1 i a b).2) N (fun j a b c => ?_), h2.tr (F _ _ (by decide) (by decide +kernel)) (F _ _ (by decide) (by decide +kernel)) (fun e => R _ _ (by decide) (by decide +kernel)) (fun i e a b => I _ _ (s2 i a b).1 (s2 i a b).2) N (fun j kd a b hd c => ?_), h3.tr (F _ _ (by decide) (by decide +kernel)) (F _ _ (by decide) (by decide +kernel)) (fun _ => I _ _ (by decide) (by decide +kernel)) (fun _ => I _ _ (by decide) (by decide +kernel)) (fun _ => I _ _ (by decide) (by decide +kernel)) (fun _ => I _ _ (by decide) (by decide +kernel)), h4.tr (fun _ => I _ _ (by decide) (by decide +kernel)) (fun _ => I _ _ (by decide) (by decide +kernel)), h5.tr (F _ _ (by decide) (by decide +kernel)) (F _ _ (by decide) (by decide +kernel)) (F _ _ (by decide) (by decide +kernel)) (F _ _ (by decide) (by decide +kernel)), h6.tr (Int.le_refl _) (Int.le_refl _) (fun _ => I _ _ (by decide) (by decide +kernel)) (fun _ => I _ _ (by decide) (by decide +kernel)) (fun _ => R _ _ (by decide) (by decide +kernel)) (fun _ _ => R _ _ (by decide) (by decide +kernel)) (fun _ _ => R _ _ (by decide) (by decide +kernel)), h7.tr (F _ _ (by decide) (by decide +kernel)) (I _ _ (by decide) (by decide +kernel))⟩
  · obtain ⟨d1, d2⟩ := D j 4 7 a b c
    exact ⟨d1.trans c.symm, fun k hk => d2 k (jent_x hk)⟩
  · obtain ⟨d1, d2⟩ := D j _ _ a b c
    exact ⟨d1.trans c.symm, fun k hk => d2 k (jrul_x hd hk)⟩
theorem jx_hv {A X : zW} {Wr : List (Nat × Nat)} (h : jx A) (hw : nW S_X Wr = true) (hN : zN A ≤ zN X) : jx (zhv Wr A X) := jx_agr h (agr.hv hw hN)
def j7 (w : lW) : Prop := ∃ A, zA A w.1 w.2 ∧ jx A
def J7 (B : Nat → Nat) : lW → Prop := fun w => J6 B w ∧ j7 w
section
variable {B : Nat → Nat} {rt : Nat} {Wr : List (Nat × Nat)} {T : fT} {cc : ByteArray} {As : List Value} {w w' : lW} {rv : Option Value}
/-- a call of which only what it leaves alone is said -/
theorem z_fr {A : zW} (h : fLr (fq cw_TT cw_SG rt Wr T cc) As w rv w') (hA : zA A w.1 w.2) (hk : bs_K.all (fun x => !(Wr.contains x)) = true) : ∃ X, zN A ≤ zN X ∧ zA (zhv Wr A X) w'.1 w'.2 := zhv_ok h hA hk hA.sh
theorem kp7 (h : fLr (fq cw_TT cw_SG rt Wr T cc) As w rv w') (hJ : j7 w) (hk : bs_K.all (fun x => !(Wr.contains x)) = true) (hw : nW S_X Wr = true) : j7 w' := by
  obtain ⟨A, hA, hj⟩ := hJ
  obtain ⟨X, hN, hA'⟩ := z_fr h hA hk
  exact ⟨_, hA', jx_hv hj hw hN⟩
end
