/-! alike in a part of it -/
def agl (S : List (Nat × Nat)) (A' A : zW) : Prop := (∀ q i, q < 385 → (zn lp_sh q, i) ∈ S → zF A' q i = zF A q i) ∧ (∀ q i, q < 385 → (zn lp_sh q, 0) ∈ S → zI A' q i = zI A q i ∧ zR A' q i = zR A q i) ∧ zN A ≤ zN A' ∧ ∀ j ci ty, 385 ≤ j → j < zN A → zK A j = (ci, ty) → zK A' j = (ci, ty) ∧ ∀ i, (ty, i) ∈ S → zF A' j i = zF A j i
theorem agl.x {A A' : zW} (h : agl S_X A' A) : agr A' A := h
theorem agr.l {A A' : zW} (h : agr A' A) : agl S_X A' A := h
section
variable {S : List (Nat × Nat)} {A B C X : zW} {q i : Nat} {v : Value} {x : Int32}
theorem agl.sub {S' : List (Nat × Nat)} (h : agl S B A) (hs : ∀ y ∈ S', y ∈ S) : agl S' B A := by
  obtain ⟨F, IR, N, D⟩ := h
  refine ⟨fun p k hp hm => F p k hp (hs _ hm), fun p k hp hm => IR p k hp (hs _ hm), N, fun j ci ty hj hl hK => ?_⟩
  obtain ⟨d1, d2⟩ := D j ci ty hj hl hK
  exact ⟨d1, fun k hm => d2 k (hs _ hm)⟩
theorem agl.rf : agl S A A := ⟨fun _ _ _ _ => rfl, fun _ _ _ _ => ⟨rfl, rfl⟩, Nat.le_refl _, fun _ _ _ _ _ h => ⟨h, fun _ _ => rfl⟩⟩
theorem agl.tr (h1 : agl S B A) (h2 : agl S C B) : agl S C A := by
  obtain ⟨a1, a2, a3, a4⟩ := h1
  obtain ⟨b1, b2, b3, b4⟩ := h2
  refine ⟨fun q i hq hm => (b1 q i hq hm).trans (a1 q i hq hm), fun q i hq hm => ⟨(b2 q i hq hm).1.trans (a2 q i hq hm).1, (b2 q i hq hm).2.trans (a2 q i hq hm).2⟩, by omega, fun j ci ty hj hl hK => ?_⟩
  obtain ⟨c1, c2⟩ := a4 j ci ty hj hl hK
  obtain ⟨d1, d2⟩ := b4 j ci ty hj (by omega) c1
  exact ⟨d1, fun i hm => (d2 i hm).trans (c2 i hm)⟩
theorem agl.hv {Wr : List (Nat × Nat)} (hw : nW S Wr = true) (hN : zN A ≤ zN X) : agl S (zhv Wr A X) A :=
  ⟨fun _ _ hq hm => zhv_bF hq (nw_of hw hm), fun _ _ hq hm => ⟨zhv_bI hq (nw_of hw hm), zhv_bR hq (nw_of hw hm)⟩, hN, fun _ _ _ hj hl hK => ⟨(zhv_dK hl).trans hK, fun _ hm => zhv_dF hj hl hK (nw_of hw hm)⟩⟩
/-- a write that isn't of it -/
theorem agl.nF (hq : q < 385) (hs : ¬ (zn lp_sh q, i) ∈ S) : agl S (zuF A q i v) A := by
  refine ⟨fun p k hp hm => ?_, fun p k hp hm => ⟨zI_uF, zR_uF⟩, by rw [zN_uF]; exact Nat.le_refl _, fun j ci ty hj hl hK => ⟨by rw [zK_uF]; exact hK, fun k _ => zuF_ne (by omega)⟩⟩
  rw [zuF_x]
  by_cases c : p = q ∧ k = i
  · obtain ⟨rfl, rfl⟩ := c
    exact absurd hm hs
  · rw [if_neg c]
theorem agl.nI (hq : q < 385) (hs : ¬ (zn lp_sh q, 0) ∈ S) : agl S (zuI A q i x) A := by
  refine ⟨fun p k hp hm => zF_uI, fun p k hp hm => ⟨?_, zR_uI⟩, by rw [zN_uI]; exact Nat.le_refl _, fun j ci ty hj hl hK => ⟨by rw [zK_uI]; exact hK, fun k _ => zF_uI⟩⟩
  rw [zuI_x]
  by_cases c : p = q ∧ k = i
  · obtain ⟨rfl, rfl⟩ := c
    exact absurd hm hs
  · rw [if_neg c]
theorem agl.nR (hq : q < 385) (hs : ¬ (zn lp_sh q, 0) ∈ S) : agl S (zuR A q i v) A := by
  refine ⟨fun p k hp hm => zF_uR, fun p k hp hm => ⟨zI_uR, ?_⟩, by rw [zN_uR]; exact Nat.le_refl _, fun j ci ty hj hl hK => ⟨by rw [zK_uR]; exact hK, fun k _ => zF_uR⟩⟩
  rw [zuR_x]
  by_cases c : p = q ∧ k = i
  · obtain ⟨rfl, rfl⟩ := c
    exact absurd hm hs
  · rw [if_neg c]
theorem agl.sJ {f : Nat → Int64} : agl S (zsJ A q f) A := ⟨fun _ _ _ _ => rfl, fun _ _ _ _ => ⟨rfl, rfl⟩, Nat.le_refl _, fun _ _ _ _ _ h => ⟨h, fun _ _ => rfl⟩⟩
theorem agl_be {p n : Nat} : agl S (zbe A q p n) A := agl.sJ
theorem agl.new {ci t : Nat} {D : Nat → Value} (hN : 385 ≤ zN A) : agl S (zuN A ci t D) A := by
  refine ⟨fun p k hp hm => zuN_f (by omega), fun p k hp hm => ⟨zI_uN, zR_uN⟩, ?_, fun j c y hj hl hK => ⟨?_, fun k _ => zuN_f (by omega)⟩⟩
  · show zN A ≤ zN A + 1
    omega
  · rw [zuN_K (by omega)]
    exact hK
/-- a write of a later object -/
theorem agl.dF (h : agl S B A) (hq : zN A ≤ q) (hN : 385 ≤ zN A) : agl S (zuF B q i v) A := by
  obtain ⟨F, IR, N, D⟩ := h
  refine ⟨fun p k hp hm => (zuF_ne (by omega)).trans (F p k hp hm), fun p k hp hm => ⟨zI_uF.trans (IR p k hp hm).1, zR_uF.trans (IR p k hp hm).2⟩, by rw [zN_uF]; exact N, fun j ci ty hj hl hK => ?_⟩
  obtain ⟨d1, d2⟩ := D j ci ty hj hl hK
  exact ⟨by rw [zK_uF]; exact d1, fun k hm => (zuF_ne (by omega)).trans (d2 k hm)⟩
/-- the same write on both -/
theorem agl.uF (h : agl S B A) : agl S (zuF B q i v) (zuF A q i v) := by
  obtain ⟨F, IR, N, D⟩ := h
  refine ⟨fun p k hp hm => ?_, fun p k hp hm => ⟨by rw [zI_uF, zI_uF]; exact (IR p k hp hm).1, by rw [zR_uF, zR_uF]; exact (IR p k hp hm).2⟩, by rw [zN_uF, zN_uF]; exact N, fun j ci ty hj hl hK => ?_⟩
  · rw [zuF_x, zuF_x]
    by_cases c : p = q ∧ k = i
    · rw [if_pos c, if_pos c]
    · rw [if_neg c, if_neg c]
      exact F p k hp hm
  · rw [zN_uF] at hl
    rw [zK_uF] at hK
    obtain ⟨d1, d2⟩ := D j ci ty hj hl hK
    refine ⟨by rw [zK_uF]; exact d1, fun k hm => ?_⟩
    rw [zuF_x, zuF_x]
    by_cases c : j = q ∧ k = i
    · rw [if_pos c, if_pos c]
    · rw [if_neg c, if_neg c]
      exact d2 k hm
theorem agl_ov (h : ¬ (17, 19) ∈ S ∧ ¬ (17, 33) ∈ S ∧ ¬ (17, 55) ∈ S) : agl S (zov A) A := by
  have e : zn lp_sh 343 = 17 := by decide +kernel
  unfold zov
  exact agl.tr (agl.tr (agl.nF (by decide) (by rw [e]; exact h.1)) (agl.nF (by decide) (by rw [e]; exact h.2.1))) (agl.nF (by decide) (by rw [e]; exact h.2.2))
end
/-! each part of it stays -/
section
variable {S : List (Nat × Nat)} {A A' : zW} {n m q : Int32}
theorem jE.ag (h : jE A n) (g : agl S A' A) (hs : ∀ y ∈ S_E, y ∈ S) : jE A' n := by
  obtain ⟨F, IR, N, D⟩ := g
  have f : ∀ q i, q < 385 → (zn lp_sh q, i) ∈ S_E → zF A' q i = zF A q i := fun q i a b => F q i a (hs _ b)
  have I : ∀ q i, q < 385 → (zn lp_sh q, 0) ∈ S_E → zI A' q i = zI A q i := fun q i a b => (IR q i a (hs _ b)).1
  have R : ∀ q i, q < 385 → (zn lp_sh q, 0) ∈ S_E → zR A' q i = zR A q i := fun q i a b => (IR q i a (hs _ b)).2
  have ke : ∀ k, k < 6 → (7, k) ∈ S_E := by decide
  refine h.tr (f _ _ (by decide) (by decide +kernel)) (f _ _ (by decide) (by decide +kernel)) (fun e => R _ _ (by decide) (by decide +kernel)) (fun i e a b => ?_) N (fun j a b c => ?_)
  · rcases (show i = 348 ∨ i = 349 ∨ i = 350 ∨ i = 351 ∨ i = 352 by omega) with rfl | rfl | rfl | rfl | rfl <;> exact I _ _ (by decide) (by decide +kernel)
  · obtain ⟨d1, d2⟩ := D j 4 7 a b c
    exact ⟨d1.trans c.symm, fun k hk => d2 k (hs _ (ke k hk))⟩
theorem jR.ag (h : jR A m) (g : agl S A' A) (hs : ∀ y ∈ S_R, y ∈ S) : jR A' m := by
  obtain ⟨F, IR, N, D⟩ := g
  have f : ∀ q i, q < 385 → (zn lp_sh q, i) ∈ S_R → zF A' q i = zF A q i := fun q i a b => F q i a (hs _ b)
  have I : ∀ q i, q < 385 → (zn lp_sh q, 0) ∈ S_R → zI A' q i = zI A q i := fun q i a b => (IR q i a (hs _ b)).1
  have R : ∀ q i, q < 385 → (zn lp_sh q, 0) ∈ S_R → zR A' q i = zR A q i := fun q i a b => (IR q i a (hs _ b)).2
  refine h.tr (f _ _ (by decide) (by decide +kernel)) (f _ _ (by decide) (by decide +kernel)) (fun e => R _ _ (by decide) (by decide +kernel)) (fun i e a b => ?_) N (fun j kd a b hd c => ?_)
  · rcases (show i = 357 ∨ i = 358 ∨ i = 359 ∨ i = 360 ∨ i = 361 by omega) with rfl | rfl | rfl | rfl | rfl <;> exact I _ _ (by decide) (by decide +kernel)
  · obtain ⟨d1, d2⟩ := D j _ _ a b c
    exact ⟨d1.trans c.symm, fun k hk => d2 k (hs _ (jrul_t hd hk))⟩
theorem jC.ag (h : jC A q) (g : agl S A' A) (hs : ∀ y ∈ S_C, y ∈ S) : jC A' q := by
  obtain ⟨F, IR, N, D⟩ := g
  have f : ∀ q i, q < 385 → (zn lp_sh q, i) ∈ S_C → zF A' q i = zF A q i := fun q i a b => F q i a (hs _ b)
  have I : ∀ q i, q < 385 → (zn lp_sh q, 0) ∈ S_C → zI A' q i = zI A q i := fun q i a b => (IR q i a (hs _ b)).1
  exact h.tr (f _ _ (by decide) (by decide +kernel)) (f _ _ (by decide) (by decide +kernel)) (fun _ => I _ _ (by decide) (by decide +kernel)) (fun _ => I _ _ (by decide) (by decide +kernel)) (fun _ => I _ _ (by decide) (by decide +kernel)) (fun _ => I _ _ (by decide) (by decide +kernel))
theorem jT.ag (h : jT A) (g : agl S A' A) (hs : ∀ y ∈ S_T, y ∈ S) : jT A' := by
  obtain ⟨F, IR, N, D⟩ := g
  have I : ∀ q i, q < 385 → (zn lp_sh q, 0) ∈ S_T → zI A' q i = zI A q i := fun q i a b => (IR q i a (hs _ b)).1
  exact h.tr (fun _ => I _ _ (by decide) (by decide +kernel)) (fun _ => I _ _ (by decide) (by decide +kernel))
theorem jV.ag (h : jV A) (g : agl S A' A) (hs : ∀ y ∈ S_V, y ∈ S) : jV A' := by
  obtain ⟨F, IR, N, D⟩ := g
  have f : ∀ q i, q < 385 → (zn lp_sh q, i) ∈ S_V → zF A' q i = zF A q i := fun q i a b => F q i a (hs _ b)
  exact h.tr (f _ _ (by decide) (by decide +kernel)) (f _ _ (by decide) (by decide +kernel)) (f _ _ (by decide) (by decide +kernel)) (f _ _ (by decide) (by decide +kernel))
theorem jH.ag (h : jH A n m) (g : agl S A' A) (hs : ∀ y ∈ S_H, y ∈ S) : jH A' n m := by
  obtain ⟨F, IR, N, D⟩ := g
  have I : ∀ q i, q < 385 → (zn lp_sh q, 0) ∈ S_H → zI A' q i = zI A q i := fun q i a b => (IR q i a (hs _ b)).1
  have R : ∀ q i, q < 385 → (zn lp_sh q, 0) ∈ S_H → zR A' q i = zR A q i := fun q i a b => (IR q i a (hs _ b)).2
  exact h.tr (Int.le_refl _) (Int.le_refl _) (fun _ => I _ _ (by decide) (by decide +kernel)) (fun _ => I _ _ (by decide) (by decide +kernel)) (fun _ => R _ _ (by decide) (by decide +kernel)) (fun _ _ => R _ _ (by decide) (by decide +kernel)) (fun _ _ => R _ _ (by decide) (by decide +kernel))
theorem jL.ag (h : jL A) (g : agl S A' A) (hs : ∀ y ∈ S_L, y ∈ S) : jL A' := by
  obtain ⟨F, IR, N, D⟩ := g
  have f : ∀ q i, q < 385 → (zn lp_sh q, i) ∈ S_L → zF A' q i = zF A q i := fun q i a b => F q i a (hs _ b)
  have I : ∀ q i, q < 385 → (zn lp_sh q, 0) ∈ S_L → zI A' q i = zI A q i := fun q i a b => (IR q i a (hs _ b)).1
  exact h.tr (f _ _ (by decide) (by decide +kernel)) (I _ _ (by decide) (by decide +kernel))
end
