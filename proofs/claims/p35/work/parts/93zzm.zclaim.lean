/-! claims, over places -/
def zcC (A : zW) (m : Int32) : Prop := zF A 282 0 = .int m ∧ 0 ≤ m.toInt ∧ m.toInt ≤ 12
def zq_isFullC : zQ := zpu (fun _ : Int32 => [.ref 282]) (fun m A => zcC A m) (fun m _ => .int (zb (decide ¬ m.toInt < 12)))
set_option maxRecDepth 20000 in
theorem za_X3_isFull : zdo r_X3_isFull zq_isFullC := by
  refine zdo_pu [] (fun _ _ => []) 40 fo_X3 rfl zs_nil k_X3_isFull (fun _ _ _ => no_zh) (fun m A hp => ?_)
  obtain ⟨hn, n0, n1⟩ := hp
  have e := e32_12
  refine ⟨fun h => ?_, fun h => ?_⟩
  · have h : (iv (zF A 282 0)).toInt < (Int32.ofNat 12).toInt := h
    rw [hn] at h
    have h : m.toInt < (Int32.ofNat 12).toInt := h
    exact ⟨zbf (by omega), rfl⟩
  · have h : ¬ (iv (zF A 282 0)).toInt < (Int32.ofNat 12).toInt := h
    rw [hn] at h
    have h : ¬ m.toInt < (Int32.ofNat 12).toInt := h
    exact ⟨zbt (by omega), rfl⟩
def zkCl (A : zW) (s u : Int32) (b : Nat) : zW := zuF (zbe (zuI (zuI A 283 (iv (zF A 282 0)).toNatClampNeg s) 284 (iv (zF A 282 0)).toNatClampNeg u) (295 + 2 * (iv (zF A 282 0)).toInt.toNat) b 4) 282 0 (.int (iv (zF A 282 0) + Int32.ofInt 1))
def zq_keepC : zQ := zfu (fun a : Int32 × Int32 × Nat × Int32 => [.ref 282, .int a.1, .int a.2.1, .ref a.2.2.1]) (fun a A => zcC A a.2.2.2 ∧ a.2.2.2.toInt < 12 ∧ zB a.2.2.1 4 = true) (fun a _ => some (.int a.2.2.2)) (fun a A => zkCl A a.1 a.2.1 a.2.2.1)
set_option maxRecDepth 20000 in
set_option maxHeartbeats 4000000 in
theorem za_X3_keep : zdo r_X3_keep zq_keepC := by
  refine zdo_fu [(216, 2, zq_become)] (fun _ _ => []) 80 fo_X3 rfl (zs_cons rfl za_X1_become zs_nil) k_X3_keep (fun _ _ _ => no_zh) (fun a A hp => ?_)
  obtain ⟨s, u, b, m⟩ := a
  obtain ⟨⟨hm, m0, m1⟩, m2, hB⟩ := hp
  have e := e32_12
  have hm : zF A 282 0 = .int m := hm
  have m2 : m.toInt < 12 := m2
  have m0 : 0 ≤ m.toInt := m0
  have em : (iv (zF A 282 0)).toInt.toNat = m.toInt.toNat := by
    rw [hm]
    rfl
  have hi : (iv (zF A 282 0)).toInt.toNat < 12 := by omega
  refine ⟨fun h => ?_, fun h => ?_⟩
  · refine ⟨(295 + 2 * (iv (zF A 282 0)).toInt.toNat, b, 4), ?_, ⟨zB_r (by decide +kernel) hi, hB, (by decide : 4 ≤ 64)⟩, rfl, ?_, rfl⟩
    · show [zrl _ 294 (iv (zF A 282 0)).toInt.toNat, Value.ref b] = _
      rw [zrl_294 hi]
    · show some (Value.int (iv (zF A 282 0) + Int32.ofInt 1 - Int32.ofInt 1)) = some (.int m)
      rw [hm]
      show some (Value.int (m + 1 - 1)) = some (.int m)
      rw [Int32.add_sub_cancel]
  · have h : ¬ (iv (zF A 282 0)).toInt < (Int32.ofNat 12).toInt := h
    rw [hm] at h
    have h : ¬ m.toInt < (Int32.ofNat 12).toInt := h
    omega
def zclV (c m s u : Int32) : Option Int32 := if ¬ ((0 ≤ s.toInt ∧ s.toInt < c.toInt) ∧ (0 ≤ u.toInt ∧ u.toInt < 6)) then some (-1) else if ¬ m.toInt < 12 then some (-4) else none
section
variable {c m s u : Int32}
set_option maxRecDepth 20000 in
theorem zcl_1 (h : ¬ ((0 ≤ s.toInt ∧ s.toInt < c.toInt) ∧ (0 ≤ u.toInt ∧ u.toInt < 6))) : zclV c m s u = some (-1) := if_pos h
set_option maxRecDepth 20000 in
theorem zcl_4 (h : (0 ≤ s.toInt ∧ s.toInt < c.toInt) ∧ (0 ≤ u.toInt ∧ u.toInt < 6)) (h2 : ¬ m.toInt < 12) : zclV c m s u = some (-4) := by
  unfold zclV
  rw [if_neg (fun z => z h), if_pos h2]
set_option maxRecDepth 20000 in
theorem zcl_n (h : (0 ≤ s.toInt ∧ s.toInt < c.toInt) ∧ (0 ≤ u.toInt ∧ u.toInt < 6)) (h2 : m.toInt < 12) : zclV c m s u = none := by
  unfold zclV
  rw [if_neg (fun z => z h), if_neg (fun z => z h2)]
set_option maxRecDepth 20000 in
theorem zcl_g (h : zclV c m s u = none) : ((0 ≤ s.toInt ∧ s.toInt < c.toInt) ∧ (0 ≤ u.toInt ∧ u.toInt < 6)) ∧ m.toInt < 12 := by
  unfold zclV at h
  split at h
  · cases h
  · rename_i h1
    split at h
    · cases h
    · rename_i h2
      exact ⟨Classical.not_not.mp h1, Classical.not_not.mp h2⟩
end
abbrev zclA : Type := (Int32 × Int32) × Int32 × Int32
def zcl_F (q : Nat) : zclA → List Value := fun (_, s, u) => [.ref q, .int s, .int u]
def zcl_P : zclA → zW → Prop := fun ((c, m), _, _) A => (zF A 0 1 = .int c ∧ c.toInt ≤ 60) ∧ zcC A m
def zcl_Q : zclA → zW → Option Value → zW → Prop := fun ((c, m), s, u) A rv A' => zhdQ (zclV c m s u) m (fun A' => A' = zkCl A s u (2 + 2 * s.toInt.toNat)) A rv A'
def zq_claim : zQ := zs (zcl_F 0) zcl_P zcl_Q
def Sp_zcl : zP := [(381, 2, zq_sentenceAt), (487, 1, q_isSource), (1041, 1, zq_isFullC), (1044, 4, zq_keepC)]
theorem Sp_zcl_ok : zsp T_X11_claim Sp_zcl := zs_cons rfl za_X11_sentenceAt (zs_cons rfl za_X11_isSource (zs_cons rfl za_X3_isFull (zs_cons rfl za_X3_keep zs_nil)))
set_option maxRecDepth 20000 in
set_option maxHeartbeats 4000000 in
theorem za_X11_claim : zdo r_X11_claim zq_claim := by
  refine zdo_of _ _ _ Sp_zcl (fun _ _ => []) 80 fo_X11 rfl Sp_zcl_ok k_X11_claim (fun _ _ _ => no_zh) (fun a A hp => ?_)
  obtain ⟨⟨c, m⟩, s, u⟩ := a
  obtain ⟨⟨hc, hc60⟩, hC⟩ := hp
  have hc60 : c.toInt ≤ 60 := hc60
  have no : ∀ v : Int32, zclV c m s u = some v → zcl_Q ((c, m), s, u) A (some (.int v)) A := fun v h => (zhd_no h : zhdQ (zclV c m s u) m (fun A' => A' = zkCl A s u (2 + 2 * s.toInt.toNat)) A (some (.int v)) A)
  refine ⟨(s, c), rfl, ⟨hc, hc60⟩, fun h => ?_, fun h => ?_⟩
  · exact no _ (zcl_1 (fun z => zat_n (fun z => by cases z) h z.1))
  have hs : 0 ≤ s.toInt ∧ s.toInt < c.toInt := zat_y h
  have e1 : zat c s (.ref (2 + 2 * s.toInt.toNat)) = .ref (2 + 2 * s.toInt.toNat) := if_pos hs
  refine ⟨u, rfl, trivial, fun h => ?_, fun h => ?_⟩
  rotate_left
  · exact no _ (zcl_1 (fun z => zb_n (Classical.not_not.mp h) z.2))
  have hu := zb_y h
  refine ⟨m, rfl, hC, fun h => ?_, fun h => ?_⟩
  rotate_left
  · exact no _ (zcl_4 ⟨hs, hu⟩ (zb_y h))
  have hm := Classical.not_not.mp (zb_n h)
  refine ⟨(s, u, 2 + 2 * s.toInt.toNat, m), ?_, ⟨hC, hm, zB_s (show s.toInt.toNat < 60 by omega)⟩, ?_⟩
  · show [Value.ref 282, .int s, .int u, zat c s (.ref (2 + 2 * s.toInt.toNat))] = _
    rw [e1]
  · show zhdQ (zclV c m s u) m (fun A' => A' = zkCl A s u (2 + 2 * s.toInt.toNat)) A (some (.int m)) (zkCl A s u (2 + 2 * s.toInt.toNat))
    rw [zcl_n ⟨hs, hu⟩ hm]
    exact ⟨rfl, rfl⟩
/-- the reference's -/
def zcm (A : zW) (s u : Int32) : zW := zuF (zuF (zuI (zuI A 366 (iv (zF A 343 40)).toNatClampNeg s) 367 (iv (zF A 343 40)).toNatClampNeg u) 343 40 (.int (iv (zF A 343 40) + Int32.ofInt 1))) 343 43 (.int (Int32.ofInt 0))
def zcm_P : zclA → zW → Prop := fun ((c, m), _, _) A => zF A 343 1 = .int c ∧ zF A 343 40 = .int m ∧ 0 ≤ m.toInt ∧ m.toInt ≤ 12
def zcm_Q : zclA → zW → Option Value → zW → Prop := fun ((c, m), s, u) A rv A' => zhdQ (zclV c m s u) m (fun A' => A' = zcm A s u) A rv A'
def zq_claimM : zQ := zs (zcl_F 343) zcm_P zcm_Q
set_option maxRecDepth 20000 in
set_option maxHeartbeats 4000000 in
theorem za_X12_claim : zdo r_X12_claim zq_claimM := by
  refine zdo_of _ _ _ [(669, 2, q_noSentence), (727, 1, q_noSource)] (fun _ _ => []) 80 fo_X12 rfl (zs_cons rfl za_X12_noSentence (zs_cons rfl za_X12_noSource zs_nil)) k_X12_claim (fun _ _ _ => no_zh) (fun a A hp => ?_)
  obtain ⟨⟨c, m⟩, s, u⟩ := a
  obtain ⟨hc, hm, m0, m1⟩ := hp
  have hm : zF A 343 40 = .int m := hm
  have m1 : m.toInt ≤ 12 := m1
  have e12 : (Int32.ofInt 12).toInt = 12 := by decide
  have no : ∀ v : Int32, zclV c m s u = some v → zcm_Q ((c, m), s, u) A (some (.int v)) A := fun v h => (zhd_no h : zhdQ (zclV c m s u) m (fun A' => A' = zcm A s u) A (some (.int v)) A)
  refine ⟨(s, c), rfl, hc, fun h => ?_, fun h => ?_⟩
  · exact no _ (zcl_1 (fun z => zb_y h z.1))
  have hs : 0 ≤ s.toInt ∧ s.toInt < c.toInt := Classical.not_not.mp (zb_n (Classical.not_not.mp h))
  refine ⟨u, rfl, trivial, fun h => ?_, fun h => ?_⟩
  rotate_left
  · exact no _ (zcl_1 (fun z => zb_y h z.2))
  have hu := Classical.not_not.mp (zb_n h)
  refine ⟨fun h => ?_, fun h => ?_⟩
  · have h : ¬ (iv (zF A 343 40)).toInt = (Int32.ofInt 12).toInt := h
    rw [hm] at h
    have h : ¬ m.toInt = (Int32.ofInt 12).toInt := h
    refine ⟨rfl, rfl, ?_⟩
    show zhdQ (zclV c m s u) m (fun A' => A' = zcm A s u) A (some (.int (iv (zF A 343 40) + Int32.ofInt 1 - Int32.ofInt 1))) (zcm A s u)
    rw [zcl_n ⟨hs, hu⟩ (by omega), hm]
    refine ⟨?_, rfl⟩
    show some (Value.int (m + 1 - 1)) = some (.int m)
    rw [Int32.add_sub_cancel]
  · have h : ¬ ¬ (iv (zF A 343 40)).toInt = (Int32.ofInt 12).toInt := h
    rw [hm] at h
    have h : ¬ ¬ m.toInt = (Int32.ofInt 12).toInt := h
    exact no _ (zcl_4 ⟨hs, hu⟩ (by omega))
