/-! as, tell, show, on both sides -/
theorem zuF_zuF {A : zW} {q k : Nat} {u v : Value} : zuF (zuF A q k u) q k v = zuF A q k v := by
  refine Prod.ext rfl (Prod.ext rfl (Prod.ext (funext fun j => funext fun x => ?_) rfl))
  show (bif Nat.beq j q && Nat.beq x k then v else (bif Nat.beq j q && Nat.beq x k then u else zF A j x)) = (bif Nat.beq j q && Nat.beq x k then v else zF A j x)
  cases (Nat.beq j q && Nat.beq x k) <;> rfl
/-- what a hold has -/
def zhl (A : zW) (k : Nat) (y x s kd th un : Int32) : Prop := (y.toInt < 0 ∧ zR A 334 k = .null) ∨ (y.toInt = 0 ∧ ∃ j, zR A 334 k = .ref j ∧ zgE A j x s) ∨ (y.toInt = 1 ∧ (0 ≤ kd.toInt ∧ kd.toInt ≤ 2) ∧ ∃ j, zR A 334 k = .ref j ∧ zgR A j kd x th un)
abbrev zhlA : Type := Int32 × Int32 × Int32 × Int32 × Int32 × Int32
/-- an answer and a fault -/
def zasV (k kind y x kd : Int32) : Int32 × Int32 := if ¬ (0 ≤ k.toInt ∧ k.toInt < 6) then (-1, 0) else if ¬ (0 ≤ kind.toInt ∧ kind.toInt ≤ 3) then (-2, 0) else if y.toInt < 0 then (-11, 1) else if kind.toInt = 0 then (if y.toInt = 0 then (x, 0) else (-12, 2)) else if y.toInt = 1 ∧ kind.toInt - 1 ≤ kd.toInt then (x, 0) else (-12, 2)
def ztlV (k y s kd th un : Int32) : Int32 × Int32 := if ¬ (0 ≤ k.toInt ∧ k.toInt < 6) then (-1, 0) else if y.toInt < 0 then (-11, 1) else if y.toInt = 0 then (s, 0) else (ztdV kd th un, 0)
def zswV (k y x kd : Int32) : Int32 × Int32 := if ¬ (0 ≤ k.toInt ∧ k.toInt < 6) then (-1, 0) else if y.toInt < 0 then (-11, 1) else if y.toInt = 0 then (-12, 2) else (zshV kd x, 0)
def zfQ (q k : Nat) (R : Int32 × Int32) (X : zW) (rv : Option Value) (A' : zW) : Prop := rv = some (.int R.1) ∧ A' = zuF X q k (.int R.2)
theorem zq_flt_e {R : Int32 × Int32} {q k : Nat} {X : zW} {v f : Int32} (h : R = (v, f)) : zfQ q k R X (some (.int v)) (zuF X q k (.int f)) := by
  rw [h]
  exact ⟨rfl, rfl⟩
theorem zq_flt_2 {R : Int32 × Int32} {q k : Nat} {X : zW} {v f : Int32} {u : Value} (h : R = (v, f)) : zfQ q k R X (some (.int v)) (zuF (zuF X q k u) q k (.int f)) := by
  rw [h, zuF_zuF]
  exact ⟨rfl, rfl⟩
/-- a fault told -/
def zq_faulted : zQ := zfu (fun x : Int32 => [.ref 0, .int x]) (fun _ _ => True) (fun x _ => some (.int (Int32.ofInt (-10) - x))) (fun x A => zuF A 0 14 (.int x))
set_option maxRecDepth 20000 in
theorem za_X11_faulted : zdo r_X11_faulted zq_faulted := by
  refine zdo_fu [] (fun _ _ => []) 40 fo_X11 rfl zs_nil k_X11_faulted (fun _ _ _ => no_zh) (fun x A _ => ?_)
  exact ⟨rfl, rfl, rfl⟩
def zq_isOfKind : zQ := zpu (fun a : Nat × Int32 => [.ref a.1, .int a.2]) (fun a _ => 385 ≤ a.1 ∧ 0 ≤ a.2.toInt ∧ a.2.toInt ≤ 3) (fun a A => .int (Int32.ofNat (kci il_X11 (if a.2.toInt = 0 then 175 else if a.2.toInt = 1 then 288 else if a.2.toInt = 2 then 293 else 296) (zK A a.1).1)))
set_option maxRecDepth 20000 in
set_option maxHeartbeats 4000000 in
theorem za_X11_isOfKind : zdo r_X11_isOfKind zq_isOfKind := by
  refine zdo_pu [] (fun _ _ => []) 40 fo_X11 rfl zs_nil k_X11_isOfKind (fun _ _ _ => no_zh) (fun a A hp => ?_)
  obtain ⟨j, kind⟩ := a
  obtain ⟨hj, h0, h3⟩ := hp
  have hj : 385 ≤ j := hj
  have h0 : 0 ≤ kind.toInt := h0
  have h3 : kind.toInt ≤ 3 := h3
  have e : ∀ (x : Nat), (if kind.toInt = 0 then 175 else if kind.toInt = 1 then 288 else if kind.toInt = 2 then 293 else 296) = x → some (Value.int (Int32.ofNat (kci il_X11 x (zkd A j)))) = some (.int (Int32.ofNat (kci il_X11 (if kind.toInt = 0 then 175 else if kind.toInt = 1 then 288 else if kind.toInt = 2 then 293 else 296) (zK A j).1))) := fun x h => by
    rw [h, zkd_d hj]
  refine ⟨fun h => ⟨?_, rfl⟩, fun h1 h2 => ⟨fun h => ⟨?_, rfl⟩, fun h => ⟨?_, rfl⟩, fun h => ⟨?_, rfl⟩, trivial⟩⟩
  · have h : kind.toInt < 0 ∨ 2 < kind.toInt := h
    exact e _ (by rw [if_neg (by omega), if_neg (by omega), if_neg (by omega)])
  · have h : kind.toInt = 0 := h
    exact e _ (by rw [if_pos h])
  · have h : kind.toInt = 0 + 1 := h
    exact e _ (by rw [if_neg (by omega), if_pos (by omega)])
  · have h : kind.toInt = 0 + 1 + 1 := h
    exact e _ (by rw [if_neg (by omega), if_neg (by omega), if_pos (by omega)])
abbrev zasA : Type := (Int32 × Int32) × zhlA
def zas_F (q : Nat) : zasA → List Value := fun ((k, kind), _) => [.ref q, .int k, .int kind]
def zas_P : zasA → zW → Prop := fun ((k, _), y, x, s, kd, th, un) A => (0 ≤ k.toInt ∧ k.toInt < 6) → zhl A k.toInt.toNat y x s kd th un
def zq_as : zQ := zs (zas_F 0) zas_P (fun ((k, kind), y, x, _, kd, _, _) A rv A' => zfQ 0 14 (zasV k kind y x kd) A rv A')
theorem z11 : Int32.ofInt (-10) - Int32.ofInt 1 = -11 := by decide
theorem z12 : Int32.ofInt (-10) - Int32.ofInt 2 = -12 := by decide
theorem zrl_334 {A : zW} {k : Nat} : zrl A 334 k = zR A 334 k := zrl_n zc334
/-- whether it is of a kind -/
theorem zki_E {x : Nat} (h : x = 175 ∨ x = 288 ∨ x = 293 ∨ x = 296) : kci il_X11 x 4 = if x = 175 then 1 else 0 := by
  rcases h with rfl | rfl | rfl | rfl <;> decide
theorem zki_R : kci il_X11 175 8 = 0 ∧ kci il_X11 288 8 = 1 ∧ kci il_X11 293 8 = 0 ∧ kci il_X11 296 8 = 0 ∧ kci il_X11 175 0 = 0 ∧ kci il_X11 288 0 = 1 ∧ kci il_X11 293 0 = 1 ∧ kci il_X11 296 0 = 0 ∧ kci il_X11 175 5 = 0 ∧ kci il_X11 288 5 = 1 ∧ kci il_X11 293 5 = 1 ∧ kci il_X11 296 5 = 1 := by decide
theorem zki_at {kd kind : Int32} (hk : 0 ≤ kd.toInt ∧ kd.toInt ≤ 2) (h : 0 ≤ kind.toInt ∧ kind.toInt ≤ 3) : kci il_X11 (if kind.toInt = 0 then 175 else if kind.toInt = 1 then 288 else if kind.toInt = 2 then 293 else 296) (zkC kd) = if ¬ kind.toInt = 0 ∧ kind.toInt - 1 ≤ kd.toInt then 1 else 0 := by
  obtain ⟨a1, a2, a3, a4, b1, b2, b3, b4, c1, c2, c3, c4⟩ := zki_R
  rcases (show kd.toInt = 0 ∨ kd.toInt = 1 ∨ kd.toInt = 2 by omega) with hd | hd | hd
  · rw [zkC_0 hd]
    rcases (show kind.toInt = 0 ∨ kind.toInt = 1 ∨ kind.toInt = 2 ∨ kind.toInt = 3 by omega) with hi | hi | hi | hi
    · rw [if_pos hi, a1, if_neg (fun z => z.1 hi)]
    · rw [if_neg (by omega), if_pos hi, a2, if_pos ⟨by omega, by omega⟩]
    · rw [if_neg (by omega), if_neg (by omega), if_pos hi, a3, if_neg (fun z => by have := z.2; omega)]
    · rw [if_neg (by omega), if_neg (by omega), if_neg (by omega), a4, if_neg (fun z => by have := z.2; omega)]
  · rw [zkC_1 (by omega) hd]
    rcases (show kind.toInt = 0 ∨ kind.toInt = 1 ∨ kind.toInt = 2 ∨ kind.toInt = 3 by omega) with hi | hi | hi | hi
    · rw [if_pos hi, b1, if_neg (fun z => z.1 hi)]
    · rw [if_neg (by omega), if_pos hi, b2, if_pos ⟨by omega, by omega⟩]
    · rw [if_neg (by omega), if_neg (by omega), if_pos hi, b3, if_pos ⟨by omega, by omega⟩]
    · rw [if_neg (by omega), if_neg (by omega), if_neg (by omega), b4, if_neg (fun z => by have := z.2; omega)]
  · rw [zkC_2 (by omega) (by omega)]
    rcases (show kind.toInt = 0 ∨ kind.toInt = 1 ∨ kind.toInt = 2 ∨ kind.toInt = 3 by omega) with hi | hi | hi | hi
    · rw [if_pos hi, c1, if_neg (fun z => z.1 hi)]
    · rw [if_neg (by omega), if_pos hi, c2, if_pos ⟨by omega, by omega⟩]
    · rw [if_neg (by omega), if_neg (by omega), if_pos hi, c3, if_pos ⟨by omega, by omega⟩]
    · rw [if_neg (by omega), if_neg (by omega), if_neg (by omega), c4, if_pos ⟨by omega, by omega⟩]
set_option maxRecDepth 20000 in
theorem zas_1 {k kind y x kd : Int32} (h : ¬ (0 ≤ k.toInt ∧ k.toInt < 6)) : zasV k kind y x kd = (-1, 0) := if_pos h
set_option maxRecDepth 20000 in
theorem zas_2 {k kind y x kd : Int32} (h : 0 ≤ k.toInt ∧ k.toInt < 6) (h2 : ¬ (0 ≤ kind.toInt ∧ kind.toInt ≤ 3)) : zasV k kind y x kd = (-2, 0) := by
  unfold zasV
  rw [if_neg (fun z => z h), if_pos h2]
set_option maxRecDepth 20000 in
theorem zas_3 {k kind y x kd : Int32} (h : 0 ≤ k.toInt ∧ k.toInt < 6) (h2 : 0 ≤ kind.toInt ∧ kind.toInt ≤ 3) (h3 : y.toInt < 0) : zasV k kind y x kd = (-11, 1) := by
  unfold zasV
  rw [if_neg (fun z => z h), if_neg (fun z => z h2), if_pos h3]
set_option maxRecDepth 20000 in
theorem zas_4 {k kind y x kd : Int32} (h : 0 ≤ k.toInt ∧ k.toInt < 6) (h2 : 0 ≤ kind.toInt ∧ kind.toInt ≤ 3) (h3 : ¬ y.toInt < 0) (h4 : (kind.toInt = 0 ∧ y.toInt = 0) ∨ (¬ kind.toInt = 0 ∧ y.toInt = 1 ∧ kind.toInt - 1 ≤ kd.toInt)) : zasV k kind y x kd = (x, 0) := by
  unfold zasV
  rw [if_neg (fun z => z h), if_neg (fun z => z h2), if_neg h3]
  rcases h4 with ⟨a, b⟩ | ⟨a, b⟩
  · rw [if_pos a, if_pos b]
  · rw [if_neg a, if_pos b]
set_option maxRecDepth 20000 in
theorem zas_5 {k kind y x kd : Int32} (h : 0 ≤ k.toInt ∧ k.toInt < 6) (h2 : 0 ≤ kind.toInt ∧ kind.toInt ≤ 3) (h3 : ¬ y.toInt < 0) (h4 : ¬ ((kind.toInt = 0 ∧ y.toInt = 0) ∨ (¬ kind.toInt = 0 ∧ y.toInt = 1 ∧ kind.toInt - 1 ≤ kd.toInt))) : zasV k kind y x kd = (-12, 2) := by
  unfold zasV
  rw [if_neg (fun z => z h), if_neg (fun z => z h2), if_neg h3]
  by_cases a : kind.toInt = 0
  · rw [if_pos a, if_neg (fun b => h4 (Or.inl ⟨a, b⟩))]
  · rw [if_neg a, if_neg (fun b => h4 (Or.inr ⟨a, b⟩))]
set_option maxRecDepth 20000 in
set_option maxHeartbeats 8000000 in
theorem za_X11_as : zdo r_X11_as zq_as := by
  refine zdo_of _ _ _ [(1204, 1, q_isHold), (312, 2, zq_faulted), (1213, 2, zq_isOfKind)] (fun _ _ => []) 80 fo_X11 rfl (zs_cons rfl za_X11_isHold (zs_cons rfl za_X11_faulted (zs_cons rfl za_X11_isOfKind zs_nil))) k_X11_as (fun _ _ _ => no_zh) (fun a A hp => ?_)
  obtain ⟨⟨k, kind⟩, y, x, s, kd, th, un⟩ := a
  have hp : (0 ≤ k.toInt ∧ k.toInt < 6) → zhl A k.toInt.toNat y x s kd th un := hp
  have e3 : (Int32.ofInt 3).toInt = 3 := by decide
  refine ⟨rfl, k, rfl, trivial, fun h => ?_, fun h => ?_⟩
  rotate_left
  · exact zq_flt_e (zas_1 (zb_n (Classical.not_not.mp h)))
  have hk := zb_y h
  refine ⟨fun h => ?_, fun h => ⟨fun h3 => ?_, fun h3 => ?_⟩⟩
  · have h : kind.toInt < 0 := h
    exact zq_flt_e (zas_2 hk (by omega))
  rotate_left
  · have h3 : ¬ kind.toInt ≤ (Int32.ofInt 3).toInt := h3
    exact zq_flt_e (zas_2 hk (by omega))
  have h : ¬ kind.toInt < 0 := h
  have h3 : kind.toInt ≤ (Int32.ofInt 3).toInt := h3
  have hi : 0 ≤ kind.toInt ∧ kind.toInt ≤ 3 := ⟨by omega, by omega⟩
  have e : zrl (zuF A 0 14 (.int (Int32.ofInt 0))) 334 k.toInt.toNat = zR A 334 k.toInt.toNat := zrl_334
  refine ⟨fun h4 => ?_, fun h4 => ?_⟩
  · have h4 : ¬ zrl (zuF A 0 14 (.int (Int32.ofInt 0))) 334 k.toInt.toNat = .null := h4
    rw [e] at h4
    rcases hp hk with ⟨-, g⟩ | ⟨hy, j, g, g1, g2, g3, g4⟩ | ⟨hy, hd, j, g, g1, g2, g3, g4⟩
    · exact absurd g h4
    · refine ⟨(j, kind), ?_, ⟨g1, hi⟩, fun h5 => ?_, fun h5 => ?_⟩
      · show [zrl (zuF A 0 14 (.int (Int32.ofInt 0))) 334 k.toInt.toNat, .int kind] = _
        rw [e, g]
      · have h5 : (Int32.ofNat (kci il_X11 (if kind.toInt = 0 then 175 else if kind.toInt = 1 then 288 else if kind.toInt = 2 then 293 else 296) (zK A j).1)).toInt = 0 := h5
        rw [g2] at h5
        have hne : ¬ kind.toInt = 0 := fun z => by
          rw [if_pos z] at h5
          exact absurd h5 (by decide)
        refine ⟨Int32.ofInt 2, rfl, trivial, ?_⟩
        show zfQ 0 14 (zasV k kind y x kd) A (some (.int (Int32.ofInt (-10) - Int32.ofInt 2))) (zuF (zuF A 0 14 (.int (Int32.ofInt 0))) 0 14 (.int (Int32.ofInt 2)))
        rw [z12]
        exact zq_flt_2 (zas_5 hk hi (by omega) (fun z => by
          rcases z with ⟨a, -⟩ | ⟨-, b, -⟩
          · exact hne a
          · omega))
      · have h5 : ¬ (Int32.ofNat (kci il_X11 (if kind.toInt = 0 then 175 else if kind.toInt = 1 then 288 else if kind.toInt = 2 then 293 else 296) (zK A j).1)).toInt = 0 := h5
        rw [g2] at h5
        have hz : kind.toInt = 0 := by
          by_cases z : kind.toInt = 0
          · exact z
          · exfalso
            apply h5
            rw [if_neg z]
            have hx : (if kind.toInt = 1 then 288 else if kind.toInt = 2 then 293 else 296) = 288 ∨ (if kind.toInt = 1 then 288 else if kind.toInt = 2 then 293 else 296) = 293 ∨ (if kind.toInt = 1 then 288 else if kind.toInt = 2 then 293 else 296) = 296 := by
              by_cases z1 : kind.toInt = 1
              · rw [if_pos z1]
                exact Or.inl rfl
              · rw [if_neg z1]
                by_cases z2 : kind.toInt = 2
                · rw [if_pos z2]
                  exact Or.inr (Or.inl rfl)
                · rw [if_neg z2]
                  exact Or.inr (Or.inr rfl)
            rcases hx with hx | hx | hx <;> rw [hx] <;> decide
        show zfQ 0 14 (zasV k kind y x kd) A (some (zfl (zuF A 0 14 (.int (Int32.ofInt 0))) (rv_ (zrl (zuF A 0 14 (.int (Int32.ofInt 0))) 334 k.toInt.toNat)) (kfd fl_X11 408 (zkd A (rv_ (zrl (zuF A 0 14 (.int (Int32.ofInt 0))) 334 k.toInt.toNat)))))) (zuF A 0 14 (.int (Int32.ofInt 0)))
        rw [e, g]
        show zfQ 0 14 (zasV k kind y x kd) A (some (zfl (zuF A 0 14 (.int (Int32.ofInt 0))) j (kfd fl_X11 408 (zkd A j)))) (zuF A 0 14 (.int (Int32.ofInt 0)))
        rw [zkd_d g1, g2, zfl_d g1, show zF (zuF A 0 14 (.int (Int32.ofInt 0))) j (kfd fl_X11 408 (4, 7).1) = .int x from (zuF_ne (by omega)).trans g3]
        exact zq_flt_e (zas_4 hk hi (by omega) (Or.inl ⟨hz, hy⟩))
    · refine ⟨(j, kind), ?_, ⟨g1, hi⟩, fun h5 => ?_, fun h5 => ?_⟩
      · show [zrl (zuF A 0 14 (.int (Int32.ofInt 0))) 334 k.toInt.toNat, .int kind] = _
        rw [e, g]
      · have h5 : (Int32.ofNat (kci il_X11 (if kind.toInt = 0 then 175 else if kind.toInt = 1 then 288 else if kind.toInt = 2 then 293 else 296) (zK A j).1)).toInt = 0 := h5
        rw [g2] at h5
        have h5 : (Int32.ofNat (kci il_X11 (if kind.toInt = 0 then 175 else if kind.toInt = 1 then 288 else if kind.toInt = 2 then 293 else 296) (zkC kd))).toInt = 0 := h5
        rw [zki_at hd hi] at h5
        have hne : ¬ (¬ kind.toInt = 0 ∧ kind.toInt - 1 ≤ kd.toInt) := fun z => by
          rw [if_pos z] at h5
          exact absurd h5 (by decide)
        refine ⟨Int32.ofInt 2, rfl, trivial, ?_⟩
        show zfQ 0 14 (zasV k kind y x kd) A (some (.int (Int32.ofInt (-10) - Int32.ofInt 2))) (zuF (zuF A 0 14 (.int (Int32.ofInt 0))) 0 14 (.int (Int32.ofInt 2)))
        rw [z12]
        exact zq_flt_2 (zas_5 hk hi (by omega) (fun z => by
          rcases z with ⟨-, b⟩ | ⟨a, -, b⟩
          · omega
          · exact hne ⟨a, b⟩))
      · have h5 : ¬ (Int32.ofNat (kci il_X11 (if kind.toInt = 0 then 175 else if kind.toInt = 1 then 288 else if kind.toInt = 2 then 293 else 296) (zK A j).1)).toInt = 0 := h5
        rw [g2] at h5
        have h5 : ¬ (Int32.ofNat (kci il_X11 (if kind.toInt = 0 then 175 else if kind.toInt = 1 then 288 else if kind.toInt = 2 then 293 else 296) (zkC kd))).toInt = 0 := h5
        rw [zki_at hd hi] at h5
        have hz : ¬ kind.toInt = 0 ∧ kind.toInt - 1 ≤ kd.toInt := by
          by_cases z : ¬ kind.toInt = 0 ∧ kind.toInt - 1 ≤ kd.toInt
          · exact z
          · rw [if_neg z] at h5
            exact absurd (by decide) h5
        have ks : zkS (zkC kd) := by
          rcases (show kd.toInt = 0 ∨ kd.toInt = 1 ∨ kd.toInt = 2 by omega) with hd | hd | hd
          · exact Or.inl (zkC_0 hd)
          · exact Or.inr (Or.inl (zkC_1 (by omega) hd))
          · exact Or.inr (Or.inr (zkC_2 (by omega) (by omega)))
        have k408 : kfd fl_X11 408 (zkC kd) = kpd pI_X10 7 (zkC kd) := by
          rcases ks with z | z | z <;> rw [z] <;> decide
        show zfQ 0 14 (zasV k kind y x kd) A (some (zfl (zuF A 0 14 (.int (Int32.ofInt 0))) (rv_ (zrl (zuF A 0 14 (.int (Int32.ofInt 0))) 334 k.toInt.toNat)) (kfd fl_X11 408 (zkd A (rv_ (zrl (zuF A 0 14 (.int (Int32.ofInt 0))) 334 k.toInt.toNat)))))) (zuF A 0 14 (.int (Int32.ofInt 0)))
        rw [e, g]
        show zfQ 0 14 (zasV k kind y x kd) A (some (zfl (zuF A 0 14 (.int (Int32.ofInt 0))) j (kfd fl_X11 408 (zkd A j)))) (zuF A 0 14 (.int (Int32.ofInt 0)))
        rw [zkd_d g1, g2, zfl_d g1, k408, zuF_ne (by omega), g3]
        exact zq_flt_e (zas_4 hk hi (by omega) (Or.inr ⟨hz.1, hy, hz.2⟩))
  · have h4 : ¬ ¬ zrl (zuF A 0 14 (.int (Int32.ofInt 0))) 334 k.toInt.toNat = .null := fun z => z h4
    rw [e] at h4
    have h4 := Classical.not_not.mp h4
    have hy : y.toInt < 0 := by
      rcases hp hk with ⟨hy, -⟩ | ⟨-, j, g, -⟩ | ⟨-, -, j, g, -⟩
      · exact hy
      · rw [h4] at g
        cases g
      · rw [h4] at g
        cases g
    refine ⟨Int32.ofInt 1, rfl, trivial, ?_⟩
    show zfQ 0 14 (zasV k kind y x kd) A (some (.int (Int32.ofInt (-10) - Int32.ofInt 1))) (zuF (zuF A 0 14 (.int (Int32.ofInt 0))) 0 14 (.int (Int32.ofInt 1)))
    rw [z11]
    exact zq_flt_2 (zas_3 hk hi hy)
