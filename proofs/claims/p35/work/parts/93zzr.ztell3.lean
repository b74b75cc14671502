/-! tell, show: the reference's -/
def zmc (R : Int32 × Int32) (t : Int32) (A : zW) (rv : Option Value) (A' : zW) : Prop := rv = some (.int R.1) ∧ A' = zuF (zuF A 343 63 (.int t)) 343 0 (.int R.2)
theorem zuF_self {A : zW} {q k : Nat} {v : Value} (h : zF A q k = v) : zuF A q k v = A := by
  refine Prod.ext rfl (Prod.ext rfl (Prod.ext (funext fun j => funext fun x => ?_) rfl))
  show (bif Nat.beq j q && Nat.beq x k then v else zF A j x) = zF A j x
  by_cases e1 : j = q
  · by_cases e2 : x = k
    · rw [e1, e2, nbT, nbT, h]
      rfl
    · rw [nbF e2, Bool.and_false]
      rfl
  · rw [nbF e1]
    rfl
theorem zmc_e {R : Int32 × Int32} {t v f : Int32} {A : zW} (h : R = (v, f)) (ht : zF A 343 63 = .int t) : zmc R t A (some (.int v)) (zuF A 343 0 (.int f)) := by
  rw [h]
  refine ⟨rfl, ?_⟩
  rw [zuF_self ht]
theorem zmm_e {A : zW} {t x : Int32} (ht : zF A 343 63 = .int t) : zmm A x = zuF A 343 63 (.int (zt1 t x)) := by
  unfold zmm
  rw [ht]
  rfl
theorem zmm_2 {A : zW} {t u x : Int32} : zmm (zuF A 343 63 (.int u)) x = zuF A 343 63 (.int (zt1 u x)) := by
  rw [zmm_e (A := zuF A 343 63 (.int u)) (t := u) rfl]
  exact zuF_zuF
abbrev zmtA : Type := Int32 × Int32
def zmt_P : zmtA → zW → Prop := fun (k, t) A => zF A 343 63 = .int t ∧ ((0 ≤ k.toInt ∧ k.toInt < 6) → ¬ (zI A 379 k.toInt.toNat).toInt < 0 → ¬ (zI A 379 k.toInt.toNat).toInt = 0 → 0 ≤ (zI A 357 (zI A 380 k.toInt.toNat).toInt.toNat).toInt ∧ (zI A 357 (zI A 380 k.toInt.toNat).toInt.toNat).toInt ≤ 2)
def zq_tellM : zQ := zs (fun a : zmtA => [.ref 343, .int a.1]) zmt_P (fun (k, t) A rv A' => zmc (ztlV k (zI A 379 k.toInt.toNat) (zI A 348 (zI A 380 k.toInt.toNat).toInt.toNat) (zI A 357 (zI A 380 k.toInt.toNat).toInt.toNat) (zI A 359 (zI A 380 k.toInt.toNat).toInt.toNat) (zI A 360 (zI A 380 k.toInt.toNat).toInt.toNat)) (ztlT t k (zI A 379 k.toInt.toNat) (zI A 357 (zI A 380 k.toInt.toNat).toInt.toNat)) A rv A')
theorem i_add2 {x : Int32} {n : Int} (hx : 0 ≤ x.toInt) (hx2 : x.toInt ≤ 2) (h : x.toInt = n) : x + Int32.ofInt 2 = Int32.ofInt (n + 2) := by
  apply Int32.toInt_inj.mp
  have e2 : (Int32.ofInt 2).toInt = 2 := by decide
  rw [i_add (by omega) (by omega), e2, h, Int32.toInt_ofInt_of_le (by omega) (by omega)]
set_option maxRecDepth 20000 in
set_option maxHeartbeats 8000000 in
theorem za_X12_tell : zdo r_X12_tell zq_tellM := by
  refine zdo_of _ _ _ [(1423, 1, q_noHold), (615, 2, zq_refused), (630, 2, zq_failed), (1440, 2, zq_traced)] (fun _ _ => []) 80 fo_X12 rfl (zs_cons rfl za_X12_noHold (zs_cons rfl za_X12_refused (zs_cons rfl za_X12_failed (zs_cons rfl za_X12_traced zs_nil)))) k_X12_tell (fun _ _ _ => no_zh) (fun a A hp => ?_)
  obtain ⟨k, t⟩ := a
  obtain ⟨ht, hp⟩ := hp
  have ht : zF A 343 63 = .int t := ht
  have hp : (0 ≤ k.toInt ∧ k.toInt < 6) → ¬ (zI A 379 k.toInt.toNat).toInt < 0 → ¬ (zI A 379 k.toInt.toNat).toInt = 0 → 0 ≤ (zI A 357 (zI A 380 k.toInt.toNat).toInt.toNat).toInt ∧ (zI A 357 (zI A 380 k.toInt.toNat).toInt.toNat).toInt ≤ 2 := hp
  have e1 : (Int32.ofInt 1).toInt = 1 := by decide
  refine ⟨k, rfl, trivial, fun h => ?_, fun h => ?_⟩
  rotate_left
  · have hk := zb_y h
    refine ⟨Int32.ofInt (-1), rfl, trivial, ?_⟩
    show zmc _ (ztlT t k _ _) A (some (.int (-1))) (zuF A 343 0 (.int 0))
    rw [ztlT_n (fun z => hk z.1)]
    exact zmc_e (ztl_1 hk) ht
  have hk := Classical.not_not.mp (zb_n h)
  refine ⟨fun h => ?_, fun h => ?_⟩
  rotate_left
  · have h : ¬ 0 ≤ (zI A 379 k.toInt.toNat).toInt := h
    refine ⟨Int32.ofInt 1, rfl, trivial, ?_⟩
    show zmc _ (ztlT t k _ _) A (some (.int (Int32.ofInt (-10) - Int32.ofInt 1))) (zuF A 343 0 (.int 1))
    rw [z11, ztlT_n (fun z => z.2 (by omega))]
    exact zmc_e (ztl_3 hk (by omega)) ht
  have h : 0 ≤ (zI A 379 k.toInt.toNat).toInt := h
  refine ⟨fun h2 => ?_, fun h2 => ?_⟩
  rotate_left
  · have h2 : ¬ ¬ (zI A 379 k.toInt.toNat).toInt = 0 := h2
    have h2 := Classical.not_not.mp h2
    refine ⟨Int32.ofInt 1, rfl, trivial, zI A 348 (zI A 380 k.toInt.toNat).toInt.toNat, rfl, trivial, ?_⟩
    show zmc _ (ztlT t k _ _) A (some (.int (zI A 348 (zI A 380 k.toInt.toNat).toInt.toNat))) (zuF (zmm A (Int32.ofInt 1)) 343 0 (.int 0))
    rw [ztl_4 hk h2, zmm_e ht]
    refine ⟨rfl, ?_⟩
    unfold ztlT
    rw [if_pos ⟨hk, by omega⟩, if_pos h2]
  have h2 : ¬ (zI A 379 k.toInt.toNat).toInt = 0 := h2
  have hd := hp hk (by omega) h2
  have eT : ztlT t k (zI A 379 k.toInt.toNat) (zI A 357 (zI A 380 k.toInt.toNat).toInt.toNat) = ztdT t (zI A 357 (zI A 380 k.toInt.toNat).toInt.toNat) := by
    unfold ztlT
    rw [if_pos ⟨hk, by omega⟩, if_neg h2]
  have eV : ztlV k (zI A 379 k.toInt.toNat) (zI A 348 (zI A 380 k.toInt.toNat).toInt.toNat) (zI A 357 (zI A 380 k.toInt.toNat).toInt.toNat) (zI A 359 (zI A 380 k.toInt.toNat).toInt.toNat) (zI A 360 (zI A 380 k.toInt.toNat).toInt.toNat) = (ztdV (zI A 357 (zI A 380 k.toInt.toNat).toInt.toNat) (zI A 359 (zI A 380 k.toInt.toNat).toInt.toNat) (zI A 360 (zI A 380 k.toInt.toNat).toInt.toNat), 0) := ztl_5 hk (by omega) h2
  refine ⟨fun h3 => ⟨Int32.ofInt 2, rfl, trivial, fun h4 => ⟨fun h5 => ?_, fun h5 => ?_⟩, fun h4 => ?_⟩, fun h3 => ⟨zI A 357 (zI A 380 k.toInt.toNat).toInt.toNat + Int32.ofInt 2, rfl, trivial, Int32.ofInt 2, rfl, trivial, fun h4 => ⟨fun h5 => ?_, fun h5 => ?_⟩, fun h4 => ?_⟩⟩
  · have h3 : (zI A 357 (zI A 380 k.toInt.toNat).toInt.toNat).toInt ≤ 0 := h3
    have h4 : ¬ (zI A 357 (zI A 380 k.toInt.toNat).toInt.toNat).toInt = 0 := h4
    omega
  · have h3 : (zI A 357 (zI A 380 k.toInt.toNat).toInt.toNat).toInt ≤ 0 := h3
    have h4 : ¬ (zI A 357 (zI A 380 k.toInt.toNat).toInt.toNat).toInt = 0 := h4
    omega
  · have h4 : ¬ ¬ (zI A 357 (zI A 380 k.toInt.toNat).toInt.toNat).toInt = 0 := h4
    have h4 := Classical.not_not.mp h4
    refine ⟨zI A 359 (zI A 380 k.toInt.toNat).toInt.toNat, rfl, trivial, ?_⟩
    show zmc _ (ztlT t k _ _) A (some (.int (zI A 359 (zI A 380 k.toInt.toNat).toInt.toNat))) (zuF (zmm A (Int32.ofInt 2)) 343 0 (.int 0))
    rw [eT, eV, zmm_e ht]
    unfold ztdV ztdT
    rw [if_pos h4, if_pos h4]
    exact ⟨rfl, rfl⟩
  · have h4 : ¬ (zI A 357 (zI A 380 k.toInt.toNat).toInt.toNat).toInt = 0 := h4
    have h5 : ¬ (zI A 357 (zI A 380 k.toInt.toNat).toInt.toNat).toInt = (Int32.ofInt 1).toInt := h5
    rw [e1] at h5
    refine ⟨-(zI A 359 (zI A 380 k.toInt.toNat).toInt.toNat) - Int32.ofInt 1, rfl, trivial, ?_⟩
    show zmc _ (ztlT t k _ _) A (some (.int (-(zI A 359 (zI A 380 k.toInt.toNat).toInt.toNat) - Int32.ofInt 1))) (zuF (zmm (zmm A (zI A 357 (zI A 380 k.toInt.toNat).toInt.toNat + Int32.ofInt 2)) (Int32.ofInt 2)) 343 0 (.int 0))
    rw [eT, eV, zmm_e ht, zmm_2 (t := t), i_add2 hd.1 hd.2 (show (zI A 357 (zI A 380 k.toInt.toNat).toInt.toNat).toInt = 2 by omega)]
    unfold ztdV ztdT
    rw [if_neg h4, if_neg h4, if_neg h5, if_neg h5]
    exact ⟨rfl, rfl⟩
  · have h4 : ¬ (zI A 357 (zI A 380 k.toInt.toNat).toInt.toNat).toInt = 0 := h4
    have h5 : ¬ ¬ (zI A 357 (zI A 380 k.toInt.toNat).toInt.toNat).toInt = (Int32.ofInt 1).toInt := h5
    rw [e1] at h5
    have h5 := Classical.not_not.mp h5
    refine ⟨zI A 359 (zI A 380 k.toInt.toNat).toInt.toNat + zI A 360 (zI A 380 k.toInt.toNat).toInt.toNat, rfl, trivial, ?_⟩
    show zmc _ (ztlT t k _ _) A (some (.int (zI A 359 (zI A 380 k.toInt.toNat).toInt.toNat + zI A 360 (zI A 380 k.toInt.toNat).toInt.toNat))) (zuF (zmm (zmm A (zI A 357 (zI A 380 k.toInt.toNat).toInt.toNat + Int32.ofInt 2)) (Int32.ofInt 2)) 343 0 (.int 0))
    rw [eT, eV, zmm_e ht, zmm_2 (t := t), i_add2 hd.1 hd.2 h5]
    unfold ztdV ztdT
    rw [if_neg h4, if_neg h4, if_pos h5, if_pos h5]
    exact ⟨rfl, rfl⟩
  · have h3 : ¬ (zI A 357 (zI A 380 k.toInt.toNat).toInt.toNat).toInt ≤ 0 := h3
    have h4 : ¬ ¬ (zI A 357 (zI A 380 k.toInt.toNat).toInt.toNat).toInt = 0 := h4
    omega
def zq_showM : zQ := zs (fun a : zmtA => [.ref 343, .int a.1]) zmt_P (fun (k, t) A rv A' => zmc (zswV k (zI A 379 k.toInt.toNat) (zI A 380 k.toInt.toNat) (zI A 357 (zI A 380 k.toInt.toNat).toInt.toNat)) (zswT t k (zI A 379 k.toInt.toNat) (zI A 357 (zI A 380 k.toInt.toNat).toInt.toNat)) A rv A')
set_option maxRecDepth 20000 in
set_option maxHeartbeats 8000000 in
theorem za_X12_show : zdo r_X12_show zq_showM := by
  refine zdo_of _ _ _ [(1423, 1, q_noHold), (615, 2, zq_refused), (630, 2, zq_failed), (1440, 2, zq_traced)] (fun _ _ => []) 100 fo_X12 rfl (zs_cons rfl za_X12_noHold (zs_cons rfl za_X12_refused (zs_cons rfl za_X12_failed (zs_cons rfl za_X12_traced zs_nil)))) k_X12_show (fun _ _ _ => no_zh) (fun a A hp => ?_)
  obtain ⟨k, t⟩ := a
  obtain ⟨ht, hp⟩ := hp
  have ht : zF A 343 63 = .int t := ht
  have hp : (0 ≤ k.toInt ∧ k.toInt < 6) → ¬ (zI A 379 k.toInt.toNat).toInt < 0 → ¬ (zI A 379 k.toInt.toNat).toInt = 0 → 0 ≤ (zI A 357 (zI A 380 k.toInt.toNat).toInt.toNat).toInt ∧ (zI A 357 (zI A 380 k.toInt.toNat).toInt.toNat).toInt ≤ 2 := hp
  have e1 : (Int32.ofInt 1).toInt = 1 := by decide
  have e2 : (Int32.ofInt 2).toInt = 2 := by decide
  refine ⟨k, rfl, trivial, fun h => ?_, fun h => ?_⟩
  rotate_left
  · have hk := zb_y h
    refine ⟨Int32.ofInt (-1), rfl, trivial, ?_⟩
    show zmc _ (zswT t k _ _) A (some (.int (-1))) (zuF A 343 0 (.int 0))
    rw [zswT_n (fun z => hk z.1)]
    exact zmc_e (zsw_1 hk) ht
  have hk := Classical.not_not.mp (zb_n h)
  refine ⟨fun h => ⟨fun h0 => ?_, fun h0 => ?_⟩, fun h => ?_⟩
  rotate_left
  · have h : ¬ (zI A 379 k.toInt.toNat).toInt = 0 := h
    have h0 : ¬ 0 ≤ (zI A 379 k.toInt.toNat).toInt := h0
    refine ⟨Int32.ofInt 1, rfl, trivial, ?_⟩
    show zmc _ (zswT t k _ _) A (some (.int (Int32.ofInt (-10) - Int32.ofInt 1))) (zuF A 343 0 (.int 1))
    rw [z11, zswT_n (fun z => z.2.1 (by omega))]
    exact zmc_e (zsw_3 hk (by omega)) ht
  · have h : ¬ ¬ (zI A 379 k.toInt.toNat).toInt = 0 := h
    refine ⟨Int32.ofInt 2, rfl, trivial, ?_⟩
    show zmc _ (zswT t k _ _) A (some (.int (Int32.ofInt (-10) - Int32.ofInt 2))) (zuF A 343 0 (.int 2))
    rw [z12, zswT_n (fun z => h z.2.2)]
    exact zmc_e (zsw_4 hk (Classical.not_not.mp h)) ht
  have h2 : ¬ (zI A 379 k.toInt.toNat).toInt = 0 := h
  have h0 : 0 ≤ (zI A 379 k.toInt.toNat).toInt := h0
  have hd := hp hk (by omega) h2
  have eT : zswT t k (zI A 379 k.toInt.toNat) (zI A 357 (zI A 380 k.toInt.toNat).toInt.toNat) = zshT t (zI A 357 (zI A 380 k.toInt.toNat).toInt.toNat) := if_pos ⟨hk, by omega, h2⟩
  have eV : zswV k (zI A 379 k.toInt.toNat) (zI A 380 k.toInt.toNat) (zI A 357 (zI A 380 k.toInt.toNat).toInt.toNat) = (zshV (zI A 357 (zI A 380 k.toInt.toNat).toInt.toNat) (zI A 380 k.toInt.toNat), 0) := zsw_5 hk (by omega) h2
  have com : ∀ x y : Int32, x + y = y + x := fun x y => Int32.add_comm x y
  refine ⟨fun h3 => ⟨fun h4 => ⟨Int32.ofInt 5, rfl, trivial, fun h5 => ⟨fun h6 => ?_, fun h6 => ?_⟩, fun h5 => ?_⟩, fun h4 => ⟨Int32.ofInt 6, rfl, trivial, Int32.ofInt 5, rfl, trivial, fun h5 => ⟨fun h6 => ?_, fun h6 => ?_⟩, fun h5 => ?_⟩⟩, fun h3 => ⟨Int32.ofInt 7, rfl, trivial, fun h4 => ⟨Int32.ofInt 5, rfl, trivial, fun h5 => ⟨fun h6 => ?_, fun h6 => ?_⟩, fun h5 => ?_⟩, fun h4 => ⟨Int32.ofInt 6, rfl, trivial, Int32.ofInt 5, rfl, trivial, fun h5 => ⟨fun h6 => ?_, fun h6 => ?_⟩, fun h5 => ?_⟩⟩⟩
  · have h4 : (zI A 357 (zI A 380 k.toInt.toNat).toInt.toNat).toInt ≤ 0 := h4
    have h5 : ¬ (zI A 357 (zI A 380 k.toInt.toNat).toInt.toNat).toInt = 0 := h5
    omega
  · have h4 : (zI A 357 (zI A 380 k.toInt.toNat).toInt.toNat).toInt ≤ 0 := h4
    have h5 : ¬ (zI A 357 (zI A 380 k.toInt.toNat).toInt.toNat).toInt = 0 := h5
    omega
  · have h5 : ¬ ¬ (zI A 357 (zI A 380 k.toInt.toNat).toInt.toNat).toInt = 0 := h5
    have h5 := Classical.not_not.mp h5
    refine ⟨zI A 380 k.toInt.toNat, rfl, trivial, ?_⟩
    show zmc _ (zswT t k _ _) A (some (.int (zI A 380 k.toInt.toNat))) (zuF (zmm A (Int32.ofInt 5)) 343 0 (.int 0))
    rw [eT, eV, zmm_e ht]
    unfold zshV zshT
    rw [if_pos h5, if_pos h5]
    exact ⟨rfl, rfl⟩
  · have h3 : ¬ (zI A 357 (zI A 380 k.toInt.toNat).toInt.toNat).toInt = (Int32.ofInt 2).toInt := h3
    have h5 : ¬ (zI A 357 (zI A 380 k.toInt.toNat).toInt.toNat).toInt = 0 := h5
    have h6 : ¬ (zI A 357 (zI A 380 k.toInt.toNat).toInt.toNat).toInt = (Int32.ofInt 1).toInt := h6
    omega
  · have h5 : ¬ (zI A 357 (zI A 380 k.toInt.toNat).toInt.toNat).toInt = 0 := h5
    have h6 : ¬ ¬ (zI A 357 (zI A 380 k.toInt.toNat).toInt.toNat).toInt = (Int32.ofInt 1).toInt := h6
    rw [e1] at h6
    have h6 := Classical.not_not.mp h6
    refine ⟨zI A 380 k.toInt.toNat + Int32.ofInt 100, rfl, trivial, ?_⟩
    show zmc _ (zswT t k _ _) A (some (.int (zI A 380 k.toInt.toNat + Int32.ofInt 100))) (zuF (zmm (zmm A (Int32.ofInt 6)) (Int32.ofInt 5)) 343 0 (.int 0))
    rw [eT, eV, zmm_e ht, zmm_2 (t := t), com]
    unfold zshV zshT
    rw [if_neg h5, if_neg h5, if_pos h6, if_pos h6]
    exact ⟨rfl, rfl⟩
  · have h4 : ¬ (zI A 357 (zI A 380 k.toInt.toNat).toInt.toNat).toInt ≤ 0 := h4
    have h5 : ¬ ¬ (zI A 357 (zI A 380 k.toInt.toNat).toInt.toNat).toInt = 0 := h5
    omega
  · have h3 : ¬ ¬ (zI A 357 (zI A 380 k.toInt.toNat).toInt.toNat).toInt = (Int32.ofInt 2).toInt := h3
    have h4 : (zI A 357 (zI A 380 k.toInt.toNat).toInt.toNat).toInt ≤ 0 := h4
    omega
  · have h3 : ¬ ¬ (zI A 357 (zI A 380 k.toInt.toNat).toInt.toNat).toInt = (Int32.ofInt 2).toInt := h3
    have h4 : (zI A 357 (zI A 380 k.toInt.toNat).toInt.toNat).toInt ≤ 0 := h4
    omega
  · have h3 : ¬ ¬ (zI A 357 (zI A 380 k.toInt.toNat).toInt.toNat).toInt = (Int32.ofInt 2).toInt := h3
    have h4 : (zI A 357 (zI A 380 k.toInt.toNat).toInt.toNat).toInt ≤ 0 := h4
    omega
  · have h3 : ¬ ¬ (zI A 357 (zI A 380 k.toInt.toNat).toInt.toNat).toInt = (Int32.ofInt 2).toInt := h3
    rw [e2] at h3
    have h3 := Classical.not_not.mp h3
    refine ⟨zI A 380 k.toInt.toNat + Int32.ofInt 1100, rfl, trivial, ?_⟩
    show zmc _ (zswT t k _ _) A (some (.int (zI A 380 k.toInt.toNat + Int32.ofInt 1100))) (zuF (zmm (zmm (zmm A (Int32.ofInt 7)) (Int32.ofInt 6)) (Int32.ofInt 5)) 343 0 (.int 0))
    rw [eT, eV, zmm_e ht, zmm_2 (t := t), zmm_2 (t := t), com]
    unfold zshV zshT
    rw [if_neg (by omega), if_neg (by omega), if_neg (by omega), if_neg (by omega)]
    refine ⟨?_, rfl⟩
    show some (Value.int (Int32.ofInt 1100 + zI A 380 k.toInt.toNat)) = some (.int (Int32.ofInt 1000 + (Int32.ofInt 100 + zI A 380 k.toInt.toNat)))
    rw [← Int32.add_assoc, show Int32.ofInt 1000 + Int32.ofInt 100 = Int32.ofInt 1100 by decide]
  · have h3 : ¬ ¬ (zI A 357 (zI A 380 k.toInt.toNat).toInt.toNat).toInt = (Int32.ofInt 2).toInt := h3
    have h6 : ¬ ¬ (zI A 357 (zI A 380 k.toInt.toNat).toInt.toNat).toInt = (Int32.ofInt 1).toInt := h6
    omega
  · have h3 : ¬ ¬ (zI A 357 (zI A 380 k.toInt.toNat).toInt.toNat).toInt = (Int32.ofInt 2).toInt := h3
    have h5 : ¬ ¬ (zI A 357 (zI A 380 k.toInt.toNat).toInt.toNat).toInt = 0 := h5
    omega
