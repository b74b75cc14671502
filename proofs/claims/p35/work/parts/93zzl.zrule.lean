/-! rules, over places -/
def zrul (A : zW) (p ci : Nat) (m s th un rk : Int32) : zW := zuF (zuF (zuF (zuF (zuF A p (kpd pI_X10 7 ci) (.int m)) p (kpd pI_X8 7 ci) (.int s)) p (kpd pI_X8 13 ci) (.int th)) p (kpd pI_X8 16 ci) (.int un)) p (kpd pI_X8 19 ci) (.int rk)
abbrev zrlA : Type := (Nat × Nat) × Int32 × Int32 × Int32 × Int32 × Int32
def zq_Rule : zQ := zfu (fun a : zrlA => [.ref a.1.1, .int a.2.1, .int a.2.2.1, .int a.2.2.2.1, .int a.2.2.2.2.1, .int a.2.2.2.2.2]) (fun a A => 385 ≤ a.1.1 ∧ (zK A a.1.1).1 = a.1.2) (fun _ _ => none) (fun a A => zrul A a.1.1 a.1.2 a.2.1 a.2.2.1 a.2.2.2.1 a.2.2.2.2.1 a.2.2.2.2.2)
set_option maxRecDepth 20000 in
set_option maxHeartbeats 4000000 in
theorem za_X8_init : zdo r_X8_init zq_Rule := by
  refine zdo_fu [(5, 2, zq_Thing)] (fun _ _ => []) 40 fo_X8 rfl (zs_cons rfl za_X10_init zs_nil) k_X8_init (fun _ _ _ => no_zh) (fun a A hp => ?_)
  obtain ⟨⟨p, ci⟩, m, s, th, un, rk⟩ := a
  obtain ⟨hp, hc⟩ := hp
  have hp : 385 ≤ p := hp
  have hz : zkd A p = ci := by
    rw [zkd_d hp]
    exact hc
  refine ⟨(p, m, ci, kpd pI_X10 7 ci), rfl, ⟨hp, hc, rfl⟩, zc_d hp, zc_d hp, zc_d hp, zc_d hp, rfl, ?_⟩
  show zuF (zuF (zuF (zuF (zuF A p (kpd pI_X10 7 ci) (.int m)) p (kpd pI_X8 7 (zkd A p)) (.int s)) p (kpd pI_X8 13 (zkd A p)) (.int th)) p (kpd pI_X8 16 (zkd A p)) (.int un)) p (kpd pI_X8 19 (zkd A p)) (.int rk) = zrul A p ci m s th un rk
  rw [hz]
  rfl
set_option maxRecDepth 20000 in
theorem za_X0_init : zdo r_X0_init zq_Rule := by
  refine zdo_fu [(5, 6, zq_Rule)] (fun _ _ => []) 40 fo_X0 rfl (zs_cons rfl za_X8_init zs_nil) k_X0_init (fun _ _ _ => no_zh) (fun a A hp => ?_)
  obtain ⟨⟨p, ci⟩, m, s, th, un, rk⟩ := a
  exact ⟨((p, ci), m, s, th, un, rk), rfl, hp, rfl, rfl⟩
set_option maxRecDepth 20000 in
theorem za_X5_init : zdo r_X5_init zq_Rule := by
  refine zdo_fu [(5, 6, zq_Rule)] (fun _ _ => []) 40 fo_X5 rfl (zs_cons rfl za_X0_init zs_nil) k_X5_init (fun _ _ _ => no_zh) (fun a A hp => ?_)
  obtain ⟨⟨p, ci⟩, m, s, th, un, rk⟩ := a
  exact ⟨((p, ci), m, s, th, un, rk), rfl, hp, rfl, rfl⟩
def zcR (A : zW) (m : Int32) : Prop := zF A 207 1 = .int m ∧ 0 ≤ m.toInt ∧ m.toInt ≤ 10
theorem e32_10 : (Int32.ofNat 10).toInt = 10 := by decide
def zq_isFullR : zQ := zpu (fun _ : Int32 => [.ref 207]) (fun m A => zcR A m) (fun m _ => .int (zb (decide ¬ m.toInt < 10)))
set_option maxRecDepth 20000 in
theorem za_X9_isFull : zdo r_X9_isFull zq_isFullR := by
  refine zdo_pu [] (fun _ _ => []) 40 fo_X9 rfl zs_nil k_X9_isFull (fun _ _ _ => no_zh) (fun m A hp => ?_)
  obtain ⟨hn, n0, n1⟩ := hp
  have e := e32_10
  refine ⟨fun h => ?_, fun h => ?_⟩
  · have h : (iv (zF A 207 1)).toInt < (Int32.ofNat 10).toInt := h
    rw [hn] at h
    have h : m.toInt < (Int32.ofNat 10).toInt := h
    exact ⟨zbf (by omega), rfl⟩
  · have h : ¬ (iv (zF A 207 1)).toInt < (Int32.ofNat 10).toInt := h
    rw [hn] at h
    have h : ¬ m.toInt < (Int32.ofNat 10).toInt := h
    exact ⟨zbt (by omega), rfl⟩
set_option maxRecDepth 20000 in
theorem zc_row {q b n k : Nat} (hz : (List.range 60).all (fun k => decide (k < n → zc q k = b + 2 * k)) = true) (hn : n ≤ 60) (hk : k < n) (hb : 0 < b) (A : zW) : zrl A q k = .ref (b + 2 * k) := by
  have h := of_decide_eq_true (List.all_eq_true.mp hz k (List.mem_range.mpr (by omega))) hk
  unfold zrl
  rw [h]
  exact zcr_s (by omega)
theorem zrl_211 {k : Nat} (hk : k < 10) (A : zW) : zrl A 211 k = .ref (212 + 2 * k) := zc_row (by decide +kernel) (by decide) hk (by decide) A
theorem zrl_232 {k : Nat} (hk : k < 10) (A : zW) : zrl A 232 k = .ref (233 + 2 * k) := zc_row (by decide +kernel) (by decide) hk (by decide) A
theorem zrl_253 {k : Nat} (hk : k < 10) (A : zW) : zrl A 253 k = .ref (254 + 2 * k) := zc_row (by decide +kernel) (by decide) hk (by decide) A
theorem zrl_294 {k : Nat} (hk : k < 12) (A : zW) : zrl A 294 k = .ref (295 + 2 * k) := zc_row (by decide +kernel) (by decide) hk (by decide) A
theorem zB_r {b n k : Nat} (hz : (List.range n).all (fun k => zB (b + 2 * k) 4) = true) (hk : k < n) : zB (b + 2 * k) 4 = true := List.all_eq_true.mp hz k (List.mem_range.mpr hk)
theorem zc210 {e : Nat} : zc 210 e = 0 := by
  have h2 : zc 210 e = (bif true && Nat.blt e 70 then 0 else 0) := rfl
  rw [h2]
  cases Nat.blt e 70 <;> rfl
theorem zc334 {e : Nat} : zc 334 e = 0 := by
  have h2 : zc 334 e = (bif true && Nat.blt e 70 then 0 else 0) := rfl
  rw [h2]
  cases Nat.blt e 70 <;> rfl
def zkR (A : zW) (p b1 b2 b3 : Nat) : zW := zuF (zbe (zbe (zbe (zuR A 210 (iv (zF A 207 1)).toNatClampNeg (.ref p)) (212 + 2 * (iv (zF A 207 1)).toInt.toNat) b1 4) (233 + 2 * (iv (zF A 207 1)).toInt.toNat) b2 4) (254 + 2 * (iv (zF A 207 1)).toInt.toNat) b3 4) 207 1 (.int (iv (zF A 207 1) + Int32.ofInt 1))
abbrev zkrA : Type := (Nat × Nat × Nat × Nat) × (Nat × Nat) × Int32 × Int32
def zq_keepR : zQ := zfu (fun a : zkrA => [.ref 207, .ref a.1.1, .ref a.1.2.1, .ref a.1.2.2.1, .ref a.1.2.2.2]) (fun a A => zcR A a.2.2.1 ∧ a.2.2.1.toInt < 10 ∧ (385 ≤ a.1.1 ∧ (zK A a.1.1).1 = a.2.1.1 ∧ kfd fl_X9 66 a.2.1.1 = a.2.1.2 ∧ zF A a.1.1 a.2.1.2 = .int a.2.2.2) ∧ zB a.1.2.1 4 = true ∧ zB a.1.2.2.1 4 = true ∧ zB a.1.2.2.2 4 = true) (fun a _ => some (.int a.2.2.2)) (fun a A => zkR A a.1.1 a.1.2.1 a.1.2.2.1 a.1.2.2.2)
set_option maxRecDepth 20000 in
set_option maxHeartbeats 4000000 in
theorem za_X9_keep : zdo r_X9_keep zq_keepR := by
  refine zdo_fu [(186, 2, zq_become)] (fun _ _ => []) 80 fo_X9 rfl (zs_cons rfl za_X1_become zs_nil) k_X9_keep (fun _ _ _ => no_zh) (fun a A hp => ?_)
  obtain ⟨⟨p, b1, b2, b3⟩, ⟨ci, k⟩, m, x⟩ := a
  obtain ⟨⟨hm, m0, m1⟩, m2, ⟨hp, hc, hk, hx⟩, h1, h2, h3⟩ := hp
  have e := e32_10
  have hm : zF A 207 1 = .int m := hm
  have m0 : 0 ≤ m.toInt := m0
  have m2 : m.toInt < 10 := m2
  have hp : 385 ≤ p := hp
  have hc : (zK A p).1 = ci := hc
  have hk : kfd fl_X9 66 ci = k := hk
  have hx : zF A p k = .int x := hx
  have em : (iv (zF A 207 1)).toInt.toNat = m.toInt.toNat := by
    rw [hm]
    rfl
  have hi : (iv (zF A 207 1)).toInt.toNat < 10 := by omega
  refine ⟨fun h => ?_, fun h => ?_⟩
  · refine ⟨zc210, ?_⟩
    refine ⟨(212 + 2 * (iv (zF A 207 1)).toInt.toNat, b1, 4), ?_, ⟨zB_r (by decide +kernel) hi, h1, (by decide : 4 ≤ 64)⟩, ?_⟩
    · show [zrl _ 211 (iv (zF A 207 1)).toInt.toNat, Value.ref b1] = _
      rw [zrl_211 hi]
    refine ⟨(233 + 2 * (iv (zF A 207 1)).toInt.toNat, b2, 4), ?_, ⟨zB_r (by decide +kernel) hi, h2, (by decide : 4 ≤ 64)⟩, ?_⟩
    · show [zrl _ 232 (iv (zF A 207 1)).toInt.toNat, Value.ref b2] = _
      rw [zrl_232 hi]
    refine ⟨(254 + 2 * (iv (zF A 207 1)).toInt.toNat, b3, 4), ?_, ⟨zB_r (by decide +kernel) hi, h3, (by decide : 4 ≤ 64)⟩, ?_⟩
    · show [zrl _ 253 (iv (zF A 207 1)).toInt.toNat, Value.ref b3] = _
      rw [zrl_253 hi]
    refine ⟨rfl, ?_, rfl⟩
    have h5 : zF (zkR A p b1 b2 b3) p k = zF A p k := zuF_ne (by omega)
    show some (zfl (zkR A p b1 b2 b3) p (kfd fl_X9 66 (zkd A p))) = some (.int x)
    rw [zkd_d hp, hc, hk, zfl_d hp, h5, hx]
  · have h : ¬ (iv (zF A 207 1)).toInt < (Int32.ofNat 10).toInt := h
    omega
/-- rule: a refusal, or none -/
def zruV (c m kind s th un rk : Int32) : Option Int32 := if ¬ (0 ≤ kind.toInt ∧ kind.toInt ≤ 2) then some (-2) else if ¬ ((0 ≤ s.toInt ∧ s.toInt < c.toInt) ∧ (0 ≤ th.toInt ∧ th.toInt < c.toInt) ∧ (0 ≤ un.toInt ∧ un.toInt < c.toInt)) then some (-1) else if ¬ (0 ≤ rk.toInt ∧ rk.toInt ≤ 9) then some (-2) else if ¬ m.toInt < 10 then some (-4) else none
section
variable {c m kind s th un rk : Int32}
theorem zru_1 (h : ¬ (0 ≤ kind.toInt ∧ kind.toInt ≤ 2)) : zruV c m kind s th un rk = some (-2) := if_pos h
theorem zru_2 (h : 0 ≤ kind.toInt ∧ kind.toInt ≤ 2) (h2 : ¬ ((0 ≤ s.toInt ∧ s.toInt < c.toInt) ∧ (0 ≤ th.toInt ∧ th.toInt < c.toInt) ∧ (0 ≤ un.toInt ∧ un.toInt < c.toInt))) : zruV c m kind s th un rk = some (-1) := by
  unfold zruV
  rw [if_neg (fun z => z h), if_pos h2]
theorem zru_3 (h : 0 ≤ kind.toInt ∧ kind.toInt ≤ 2) (h2 : (0 ≤ s.toInt ∧ s.toInt < c.toInt) ∧ (0 ≤ th.toInt ∧ th.toInt < c.toInt) ∧ (0 ≤ un.toInt ∧ un.toInt < c.toInt)) (h3 : ¬ (0 ≤ rk.toInt ∧ rk.toInt ≤ 9)) : zruV c m kind s th un rk = some (-2) := by
  unfold zruV
  rw [if_neg (fun z => z h), if_neg (fun z => z h2), if_pos h3]
theorem zru_4 (h : 0 ≤ kind.toInt ∧ kind.toInt ≤ 2) (h2 : (0 ≤ s.toInt ∧ s.toInt < c.toInt) ∧ (0 ≤ th.toInt ∧ th.toInt < c.toInt) ∧ (0 ≤ un.toInt ∧ un.toInt < c.toInt)) (h3 : 0 ≤ rk.toInt ∧ rk.toInt ≤ 9) (h4 : ¬ m.toInt < 10) : zruV c m kind s th un rk = some (-4) := by
  unfold zruV
  rw [if_neg (fun z => z h), if_neg (fun z => z h2), if_neg (fun z => z h3), if_pos h4]
theorem zru_n (h : 0 ≤ kind.toInt ∧ kind.toInt ≤ 2) (h2 : (0 ≤ s.toInt ∧ s.toInt < c.toInt) ∧ (0 ≤ th.toInt ∧ th.toInt < c.toInt) ∧ (0 ≤ un.toInt ∧ un.toInt < c.toInt)) (h3 : 0 ≤ rk.toInt ∧ rk.toInt ≤ 9) (h4 : m.toInt < 10) : zruV c m kind s th un rk = none := by
  unfold zruV
  rw [if_neg (fun z => z h), if_neg (fun z => z h2), if_neg (fun z => z h3), if_neg (fun z => z h4)]
theorem zru_g (h : zruV c m kind s th un rk = none) : (0 ≤ kind.toInt ∧ kind.toInt ≤ 2) ∧ ((0 ≤ s.toInt ∧ s.toInt < c.toInt) ∧ (0 ≤ th.toInt ∧ th.toInt < c.toInt) ∧ (0 ≤ un.toInt ∧ un.toInt < c.toInt)) ∧ (0 ≤ rk.toInt ∧ rk.toInt ≤ 9) ∧ m.toInt < 10 := by
  unfold zruV at h
  split at h
  · cases h
  · rename_i h1
    split at h
    · cases h
    · rename_i h2
      split at h
      · cases h
      · rename_i h3
        split at h
        · cases h
        · rename_i h4
          exact ⟨Classical.not_not.mp h1, Classical.not_not.mp h2, Classical.not_not.mp h3, Classical.not_not.mp h4⟩
end
/-- a kind's class and type -/
def zkC (kind : Int32) : Nat := if kind.toInt = 0 then 8 else if kind.toInt = 1 then 0 else 5
def zkY (kind : Int32) : Nat := if kind.toInt = 0 then 8 else if kind.toInt = 1 then 9 else 10
def znR (A : zW) (D : Nat → Value) (ci t : Nat) (m s th un rk : Int32) : zW := zkR (zrul (zuN A ci t D) (zN A) ci m s th un rk) (zN A) (2 + 2 * s.toInt.toNat) (2 + 2 * th.toInt.toNat) (2 + 2 * un.toInt.toNat)
abbrev zruA : Type := (Int32 × Int32) × Int32 × Int32 × Int32 × Int32 × Int32
def zru_F (q : Nat) : zruA → List Value := fun (_, kind, s, th, un, rk) => [.ref q, .int kind, .int s, .int th, .int un, .int rk]
def zru_P : zruA → zW → Prop := fun ((c, m), _, _, _, _, _) A => (zF A 0 1 = .int c ∧ c.toInt ≤ 60) ∧ zcR A m ∧ 385 ≤ zN A
def zru_Q : zruA → zW → Option Value → zW → Prop := fun ((c, m), kind, s, th, un, rk) A rv A' => zhdQ (zruV c m kind s th un rk) m (fun A' => ∃ D, A' = znR A D (zkC kind) (zkY kind) m s th un rk) A rv A'
def zq_rule : zQ := zs (zru_F 0) zru_P zru_Q
theorem zrul_ne {A : zW} {p ci j i : Nat} {m s th un rk : Int32} (h : j ≠ p) : zF (zrul A p ci m s th un rk) j i = zF A j i := by
  unfold zrul
  rw [zuF_ne h, zuF_ne h, zuF_ne h, zuF_ne h, zuF_ne h]
/-- the slots of a rule, by its class -/
def zkS (ci : Nat) : Prop := ci = 8 ∨ ci = 0 ∨ ci = 5
theorem zrul_at {A : zW} {p ci : Nat} {m s th un rk : Int32} (hc : zkS ci) : zF (zrul A p ci m s th un rk) p (kpd pI_X10 7 ci) = .int m ∧ zF (zrul A p ci m s th un rk) p (kpd pI_X8 7 ci) = .int s ∧ zF (zrul A p ci m s th un rk) p (kpd pI_X8 13 ci) = .int th ∧ zF (zrul A p ci m s th un rk) p (kpd pI_X8 16 ci) = .int un ∧ zF (zrul A p ci m s th un rk) p (kpd pI_X8 19 ci) = .int rk := by
  have n1 : kpd pI_X10 7 ci ≠ kpd pI_X8 7 ci ∧ kpd pI_X10 7 ci ≠ kpd pI_X8 13 ci ∧ kpd pI_X10 7 ci ≠ kpd pI_X8 16 ci ∧ kpd pI_X10 7 ci ≠ kpd pI_X8 19 ci ∧ kpd pI_X8 7 ci ≠ kpd pI_X8 13 ci ∧ kpd pI_X8 7 ci ≠ kpd pI_X8 16 ci ∧ kpd pI_X8 7 ci ≠ kpd pI_X8 19 ci ∧ kpd pI_X8 13 ci ≠ kpd pI_X8 16 ci ∧ kpd pI_X8 13 ci ≠ kpd pI_X8 19 ci ∧ kpd pI_X8 16 ci ≠ kpd pI_X8 19 ci := by
    rcases hc with rfl | rfl | rfl <;> decide
  obtain ⟨a1, a2, a3, a4, a5, a6, a7, a8, a9, a10⟩ := n1
  unfold zrul
  refine ⟨?_, ?_, ?_, ?_, ?_⟩
  · rw [zuF_x, if_neg (fun z => a4 z.2), zuF_x, if_neg (fun z => a3 z.2), zuF_x, if_neg (fun z => a2 z.2), zuF_x, if_neg (fun z => a1 z.2), zuF_x, if_pos ⟨rfl, rfl⟩]
  · rw [zuF_x, if_neg (fun z => a7 z.2), zuF_x, if_neg (fun z => a6 z.2), zuF_x, if_neg (fun z => a5 z.2), zuF_x, if_pos ⟨rfl, rfl⟩]
  · rw [zuF_x, if_neg (fun z => a9 z.2), zuF_x, if_neg (fun z => a8 z.2), zuF_x, if_pos ⟨rfl, rfl⟩]
  · rw [zuF_x, if_neg (fun z => a10 z.2), zuF_x, if_pos ⟨rfl, rfl⟩]
  · rw [zuF_x, if_pos ⟨rfl, rfl⟩]
theorem zkS_n {ci : Nat} (hc : zkS ci) : kfd fl_X9 66 ci = kpd pI_X10 7 ci := by
  rcases hc with rfl | rfl | rfl <;> decide
theorem zcR.new {A : zW} {n : Int32} {ci t : Nat} {D : Nat → Value} {m s th un rk : Int32} (h : zcR A n) (hN : 385 ≤ zN A) : zcR (zrul (zuN A ci t D) (zN A) ci m s th un rk) n := by
  obtain ⟨h1, h2⟩ := h
  refine ⟨?_, h2⟩
  rw [zrul_ne (znN hN (by decide)), zuN_f (znN hN (by decide))]
  exact h1
def Sp_zru : zP := [(381, 2, zq_sentenceAt), (858, 1, zq_isFullR), (872, 6, zq_Rule), (887, 6, zq_Rule), (896, 6, zq_Rule), (897, 5, zq_keepR)]
theorem Sp_zru_ok : zsp T_X11_rule Sp_zru := zs_cons rfl za_X11_sentenceAt (zs_cons rfl za_X9_isFull (zs_cons rfl za_X8_init (zs_cons rfl za_X0_init (zs_cons rfl za_X5_init (zs_cons rfl za_X9_keep zs_nil)))))
set_option maxRecDepth 20000 in
set_option maxHeartbeats 8000000 in
theorem za_X11_rule : zdo r_X11_rule zq_rule := by
  refine zdo_of _ _ _ Sp_zru (fun _ _ => []) 120 fo_X11 rfl Sp_zru_ok k_X11_rule (fun _ _ _ => no_zh) (fun a A hp => ?_)
  obtain ⟨⟨c, m⟩, kind, s, th, un, rk⟩ := a
  obtain ⟨⟨hc, hc60⟩, hR, hN⟩ := hp
  have hc60 : c.toInt ≤ 60 := hc60
  have hm : zF A 207 1 = .int m := hR.1
  have e2 : (Int32.ofInt 2).toInt = 2 := by decide
  have e9 : (Int32.ofInt 9).toInt = 9 := by decide
  have e1 : (Int32.ofInt 1).toInt = 1 := by decide
  have no : ∀ (v : Int32), zruV c m kind s th un rk = some v → zru_Q ((c, m), kind, s, th, un, rk) A (some (.int v)) A := fun v h => (zhd_no h : zhdQ (zruV c m kind s th un rk) m (fun A' => ∃ D, A' = znR A D (zkC kind) (zkY kind) m s th un rk) A (some (.int v)) A)
  refine ⟨fun h => ?_, fun h => ⟨fun h2 => ?_, fun h2 => ?_⟩⟩
  · have h : kind.toInt < 0 := h
    exact no _ (zru_1 (by omega))
  rotate_left
  · have h2 : ¬ kind.toInt ≤ (Int32.ofInt 2).toInt := h2
    exact no _ (zru_1 (by omega))
  have h : ¬ kind.toInt < 0 := h
  have h2 : kind.toInt ≤ (Int32.ofInt 2).toInt := h2
  have hk : 0 ≤ kind.toInt ∧ kind.toInt ≤ 2 := ⟨by omega, by omega⟩
  refine ⟨(s, c), rfl, ⟨hc, hc60⟩, (th, c), rfl, ⟨hc, hc60⟩, (un, c), rfl, ⟨hc, hc60⟩, fun h3 => ?_, fun h3 => ⟨fun h4 => ?_, fun h4 => ⟨fun h5 => ?_, fun h5 => ?_⟩⟩⟩
  · exact no _ (zru_2 hk (fun z => zat_n (fun z => by cases z) h3 z.1))
  · exact no _ (zru_2 hk (fun z => zat_n (fun z => by cases z) h4 z.2.1))
  rotate_left
  · exact no _ (zru_2 hk (fun z => zat_n (fun z => by cases z) h5 z.2.2))
  have hs : 0 ≤ s.toInt ∧ s.toInt < c.toInt := zat_y h3
  have ht : 0 ≤ th.toInt ∧ th.toInt < c.toInt := zat_y h4
  have hu : 0 ≤ un.toInt ∧ un.toInt < c.toInt := zat_y h5
  have es : zat c s (.ref (2 + 2 * s.toInt.toNat)) = .ref (2 + 2 * s.toInt.toNat) := if_pos hs
  have et : zat c th (.ref (2 + 2 * th.toInt.toNat)) = .ref (2 + 2 * th.toInt.toNat) := if_pos ht
  have eu : zat c un (.ref (2 + 2 * un.toInt.toNat)) = .ref (2 + 2 * un.toInt.toNat) := if_pos hu
  refine ⟨fun h6 => ?_, fun h6 => ⟨fun h7 => ?_, fun h7 => ?_⟩⟩
  · have h6 : rk.toInt < 0 := h6
    exact no _ (zru_3 hk ⟨hs, ht, hu⟩ (by omega))
  rotate_left
  · have h7 : ¬ rk.toInt ≤ (Int32.ofInt 9).toInt := h7
    exact no _ (zru_3 hk ⟨hs, ht, hu⟩ (by omega))
  have h6 : ¬ rk.toInt < 0 := h6
  have h7 : rk.toInt ≤ (Int32.ofInt 9).toInt := h7
  have hr : 0 ≤ rk.toInt ∧ rk.toInt ≤ 9 := ⟨by omega, by omega⟩
  refine ⟨m, rfl, hR, fun h8 => ?_, fun h8 => ?_⟩
  rotate_left
  · exact no _ (zru_4 hk ⟨hs, ht, hu⟩ hr (zb_y h8))
  have hm10 := Classical.not_not.mp (zb_n h8)
  -- what the three kinds have in common
  have fin : ∀ (ci t : Nat) (D : Nat → Value), zkS ci → zkC kind = ci → zkY kind = t → ∃ a : zrlA, [Value.ref (zN A), zF A 207 1, .int s, .int th, .int un, .int rk] = [.ref a.1.1, .int a.2.1, .int a.2.2.1, .int a.2.2.2.1, .int a.2.2.2.2.1, .int a.2.2.2.2.2] ∧ (385 ≤ a.1.1 ∧ (zK (zuN A ci t D) a.1.1).1 = a.1.2) ∧ ∃ b : zkrA, [Value.ref 207, .ref (zN A), zat c s (.ref (2 + 2 * s.toInt.toNat)), zat c th (.ref (2 + 2 * th.toInt.toNat)), zat c un (.ref (2 + 2 * un.toInt.toNat))] = [.ref 207, .ref b.1.1, .ref b.1.2.1, .ref b.1.2.2.1, .ref b.1.2.2.2] ∧ (zcR (zrul (zuN A ci t D) a.1.1 a.1.2 a.2.1 a.2.2.1 a.2.2.2.1 a.2.2.2.2.1 a.2.2.2.2.2) b.2.2.1 ∧ b.2.2.1.toInt < 10 ∧ (385 ≤ b.1.1 ∧ (zK (zrul (zuN A ci t D) a.1.1 a.1.2 a.2.1 a.2.2.1 a.2.2.2.1 a.2.2.2.2.1 a.2.2.2.2.2) b.1.1).1 = b.2.1.1 ∧ kfd fl_X9 66 b.2.1.1 = b.2.1.2 ∧ zF (zrul (zuN A ci t D) a.1.1 a.1.2 a.2.1 a.2.2.1 a.2.2.2.1 a.2.2.2.2.1 a.2.2.2.2.2) b.1.1 b.2.1.2 = .int b.2.2.2) ∧ zB b.1.2.1 4 = true ∧ zB b.1.2.2.1 4 = true ∧ zB b.1.2.2.2 4 = true) ∧ zru_Q ((c, m), kind, s, th, un, rk) A (some (.int b.2.2.2)) (zkR (zrul (zuN A ci t D) a.1.1 a.1.2 a.2.1 a.2.2.1 a.2.2.2.1 a.2.2.2.2.1 a.2.2.2.2.2) b.1.1 b.1.2.1 b.1.2.2.1 b.1.2.2.2) := by
    intro ci t D hS e1 e2
    refine ⟨((zN A, ci), m, s, th, un, rk), by rw [hm], ⟨hN, by show (zK (zuN A ci t D) (zN A)).1 = ci; rw [zuN_k]⟩, ((zN A, 2 + 2 * s.toInt.toNat, 2 + 2 * th.toInt.toNat, 2 + 2 * un.toInt.toNat), (ci, kpd pI_X10 7 ci), m, m), by rw [es, et, eu], ⟨hR.new hN, hm10, ⟨hN, by show (zK (zuN A ci t D) (zN A)).1 = ci; rw [zuN_k], zkS_n hS, (zrul_at hS).1⟩, zB_s (show s.toInt.toNat < 60 by omega), zB_s (show th.toInt.toNat < 60 by omega), zB_s (show un.toInt.toNat < 60 by omega)⟩, ?_⟩
    show zhdQ (zruV c m kind s th un rk) m (fun A' => ∃ D, A' = znR A D (zkC kind) (zkY kind) m s th un rk) A (some (.int m)) (zkR (zrul (zuN A ci t D) (zN A) ci m s th un rk) (zN A) (2 + 2 * s.toInt.toNat) (2 + 2 * th.toInt.toNat) (2 + 2 * un.toInt.toNat))
    rw [zru_n hk ⟨hs, ht, hu⟩ hr hm10]
    refine ⟨rfl, D, ?_⟩
    rw [e1, e2]
    rfl
  refine ⟨fun h9 => ⟨fun h10 => ?_, fun h10 => ?_⟩, fun h9 => ?_⟩
  · have h9 : ¬ kind.toInt = 0 := h9
    have h10 : ¬ kind.toInt = (Int32.ofInt 1).toInt := h10
    rw [e1] at h10
    intro D
    exact fin 5 10 D (Or.inr (Or.inr rfl)) (by unfold zkC; rw [if_neg h9, if_neg h10]) (by unfold zkY; rw [if_neg h9, if_neg h10])
  · have h9 : ¬ kind.toInt = 0 := h9
    have h10 : ¬ ¬ kind.toInt = (Int32.ofInt 1).toInt := h10
    rw [e1] at h10
    have h10 := Classical.not_not.mp h10
    intro D
    exact fin 0 9 D (Or.inr (Or.inl rfl)) (by unfold zkC; rw [if_neg h9, if_pos h10]) (by unfold zkY; rw [if_neg h9, if_pos h10])
  · have h9 : ¬ ¬ kind.toInt = 0 := h9
    have h9 := Classical.not_not.mp h9
    intro D
    exact fin 8 8 D (Or.inl rfl) (by unfold zkC; rw [if_pos h9]) (by unfold zkY; rw [if_pos h9])
/-- the reference's -/
def zrm (A : zW) (kind s th un rk : Int32) : zW := zuF (zuF (zuI (zuI (zuI (zuI (zuI A 357 (iv (zF A 343 27)).toNatClampNeg kind) 358 (iv (zF A 343 27)).toNatClampNeg s) 359 (iv (zF A 343 27)).toNatClampNeg th) 360 (iv (zF A 343 27)).toNatClampNeg un) 361 (iv (zF A 343 27)).toNatClampNeg rk) 343 27 (.int (iv (zF A 343 27) + Int32.ofInt 1))) 343 33 (.int (Int32.ofInt 0))
def zrm_P : zruA → zW → Prop := fun ((c, m), _, _, _, _, _) A => zF A 343 1 = .int c ∧ zF A 343 27 = .int m ∧ 0 ≤ m.toInt ∧ m.toInt ≤ 10
def zrm_Q : zruA → zW → Option Value → zW → Prop := fun ((c, m), kind, s, th, un, rk) A rv A' => zhdQ (zruV c m kind s th un rk) m (fun A' => A' = zrm A kind s th un rk) A rv A'
def zq_ruleM : zQ := zs (zru_F 343) zrm_P zrm_Q
def Sp_zrm : zP := [(457, 3, zq_in), (669, 2, q_noSentence)]
theorem Sp_zrm_ok : zsp T_X12_rule Sp_zrm := zs_cons rfl za_X12_in (zs_cons rfl za_X12_noSentence zs_nil)
set_option maxRecDepth 20000 in
set_option maxHeartbeats 8000000 in
theorem za_X12_rule : zdo r_X12_rule zq_ruleM := by
  refine zdo_of _ _ _ Sp_zrm (fun _ _ => []) 120 fo_X12 rfl Sp_zrm_ok k_X12_rule (fun _ _ _ => no_zh) (fun a A hp => ?_)
  obtain ⟨⟨c, m⟩, kind, s, th, un, rk⟩ := a
  obtain ⟨hc, hm, m0, m1⟩ := hp
  have hm : zF A 343 27 = .int m := hm
  have m1 : m.toInt ≤ 10 := m1
  have e0 := ze0
  have e2 : (Int64.ofInt 2).toInt = 2 := by decide
  have e9 : (Int64.ofInt 9).toInt = 9 := by decide
  have e10 : (Int32.ofInt 10).toInt = 10 := by decide
  have ek := Int32.toInt_toInt64 kind
  have er := Int32.toInt_toInt64 rk
  have no : ∀ (v : Int32), zruV c m kind s th un rk = some v → zrm_Q ((c, m), kind, s, th, un, rk) A (some (.int v)) A := fun v h => (zhd_no h : zhdQ (zruV c m kind s th un rk) m (fun A' => A' = zrm A kind s th un rk) A (some (.int v)) A)
  refine ⟨(kind.toInt64, Int64.ofNat 0, Int64.ofInt 2), rfl, trivial, fun h => ?_, fun h => ?_⟩
  rotate_left
  · have h := zb_n (Classical.not_not.mp h)
    exact no _ (zru_1 (fun z => h ⟨by show (Int64.ofNat 0).toInt ≤ kind.toInt64.toInt; omega, by show kind.toInt64.toInt ≤ (Int64.ofInt 2).toInt; omega⟩))
  have hk0 : (Int64.ofNat 0).toInt ≤ kind.toInt64.toInt ∧ kind.toInt64.toInt ≤ (Int64.ofInt 2).toInt := zb_y h
  have hk : 0 ≤ kind.toInt ∧ kind.toInt ≤ 2 := ⟨by omega, by omega⟩
  refine ⟨(s, c), rfl, hc, fun h => ?_, fun h => ?_⟩
  · exact no _ (zru_2 hk (fun z => zb_y h z.1))
  have hs : 0 ≤ s.toInt ∧ s.toInt < c.toInt := Classical.not_not.mp (zb_n (Classical.not_not.mp h))
  refine ⟨(th, c), rfl, hc, fun h => ?_, fun h => ?_⟩
  · exact no _ (zru_2 hk (fun z => zb_y h z.2.1))
  have ht := Classical.not_not.mp (zb_n (Classical.not_not.mp h))
  refine ⟨(un, c), rfl, hc, fun h => ?_, fun h => ?_⟩
  rotate_left
  · exact no _ (zru_2 hk (fun z => zb_y h z.2.2))
  have hu := Classical.not_not.mp (zb_n h)
  refine ⟨(rk.toInt64, Int64.ofNat 0, Int64.ofInt 9), rfl, trivial, fun h => ?_, fun h => ?_⟩
  rotate_left
  · have h := zb_n (Classical.not_not.mp h)
    exact no _ (zru_3 hk ⟨hs, ht, hu⟩ (fun z => h ⟨by show (Int64.ofNat 0).toInt ≤ rk.toInt64.toInt; omega, by show rk.toInt64.toInt ≤ (Int64.ofInt 9).toInt; omega⟩))
  have hr0 : (Int64.ofNat 0).toInt ≤ rk.toInt64.toInt ∧ rk.toInt64.toInt ≤ (Int64.ofInt 9).toInt := zb_y h
  have hr : 0 ≤ rk.toInt ∧ rk.toInt ≤ 9 := ⟨by omega, by omega⟩
  refine ⟨fun h => ?_, fun h => ?_⟩
  · have h : ¬ (iv (zF A 343 27)).toInt = (Int32.ofInt 10).toInt := h
    rw [hm] at h
    have h : ¬ m.toInt = (Int32.ofInt 10).toInt := h
    refine ⟨rfl, rfl, ?_⟩
    show zhdQ (zruV c m kind s th un rk) m (fun A' => A' = zrm A kind s th un rk) A (some (.int (iv (zF A 343 27) + Int32.ofInt 1 - Int32.ofInt 1))) (zrm A kind s th un rk)
    rw [zru_n hk ⟨hs, ht, hu⟩ hr (by omega), hm]
    refine ⟨?_, rfl⟩
    show some (Value.int (m + 1 - 1)) = some (.int m)
    rw [Int32.add_sub_cancel]
  · have h : ¬ ¬ (iv (zF A 343 27)).toInt = (Int32.ofInt 10).toInt := h
    rw [hm] at h
    have h : ¬ ¬ m.toInt = (Int32.ofInt 10).toInt := h
    exact no _ (zru_4 hk ⟨hs, ht, hu⟩ hr (by omega))
