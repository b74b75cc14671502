/-! holds, over places: take, loose -/
theorem zrl_n {A : zW} {q e : Nat} (h : zc q e = 0) : zrl A q e = zR A q e := zcr_z h
def zq_entryAt : zQ := zpu (fun a : Int32 × Int32 => [.ref 193, .int a.1]) (fun a A => zcE A a.2) (fun a A => zat a.2 a.1 (zR A 195 a.1.toInt.toNat))
set_option maxRecDepth 20000 in
theorem za_X2_entryAt : zdo r_X2_entryAt zq_entryAt := by
  refine zdo_pu [] (fun _ _ => []) 40 fo_X2 rfl zs_nil k_X2_entryAt (fun _ _ _ => no_zh) (fun a A hp => ?_)
  obtain ⟨s, n⟩ := a
  obtain ⟨hn, n0, n1⟩ := hp
  have hn : zF A 193 1 = .int n := hn
  have n1 : n.toInt ≤ 12 := n1
  have e := e32_12
  have no : ¬ (0 ≤ s.toInt ∧ s.toInt < n.toInt) → some Value.null = some (zat n s (zR A 195 s.toInt.toNat)) ∧ A = A := fun h => by
    unfold zat
    rw [if_neg h]
    exact ⟨rfl, rfl⟩
  refine ⟨fun h => ?_, fun h => ⟨fun h2 => ?_, fun h2 => ⟨fun h3 => ?_, fun h3 => ?_⟩⟩⟩
  · have h : s.toInt < 0 := h
    exact no (by omega)
  · have h2 : (iv (zF A 193 1)).toInt ≤ s.toInt := h2
    rw [hn] at h2
    have h2 : n.toInt ≤ s.toInt := h2
    exact no (by omega)
  · have h2 : ¬ (iv (zF A 193 1)).toInt ≤ s.toInt := h2
    rw [hn] at h2
    have h2 : ¬ n.toInt ≤ s.toInt := h2
    have h3 : (Int32.ofNat 12).toInt ≤ s.toInt := h3
    omega
  · have h : ¬ s.toInt < 0 := h
    have h2 : ¬ (iv (zF A 193 1)).toInt ≤ s.toInt := h2
    rw [hn] at h2
    have h2 : ¬ n.toInt ≤ s.toInt := h2
    refine ⟨?_, rfl⟩
    show some (zrl A 195 s.toInt.toNat) = some (zat n s (zR A 195 s.toInt.toNat))
    rw [zrl_n zc195]
    unfold zat
    rw [if_pos ⟨by omega, by omega⟩]
def zq_ruleAt : zQ := zpu (fun a : Int32 × Int32 => [.ref 207, .int a.1]) (fun a A => zcR A a.2) (fun a A => zat a.2 a.1 (zR A 210 a.1.toInt.toNat))
set_option maxRecDepth 20000 in
theorem za_X9_ruleAt : zdo r_X9_ruleAt zq_ruleAt := by
  refine zdo_pu [] (fun _ _ => []) 40 fo_X9 rfl zs_nil k_X9_ruleAt (fun _ _ _ => no_zh) (fun a A hp => ?_)
  obtain ⟨s, n⟩ := a
  obtain ⟨hn, n0, n1⟩ := hp
  have hn : zF A 207 1 = .int n := hn
  have n1 : n.toInt ≤ 10 := n1
  have e := e32_10
  have no : ¬ (0 ≤ s.toInt ∧ s.toInt < n.toInt) → some Value.null = some (zat n s (zR A 210 s.toInt.toNat)) ∧ A = A := fun h => by
    unfold zat
    rw [if_neg h]
    exact ⟨rfl, rfl⟩
  refine ⟨fun h => ?_, fun h => ⟨fun h2 => ?_, fun h2 => ⟨fun h3 => ?_, fun h3 => ?_⟩⟩⟩
  · have h : s.toInt < 0 := h
    exact no (by omega)
  · have h2 : (iv (zF A 207 1)).toInt ≤ s.toInt := h2
    rw [hn] at h2
    have h2 : n.toInt ≤ s.toInt := h2
    exact no (by omega)
  · have h2 : ¬ (iv (zF A 207 1)).toInt ≤ s.toInt := h2
    rw [hn] at h2
    have h2 : ¬ n.toInt ≤ s.toInt := h2
    have h3 : (Int32.ofNat 10).toInt ≤ s.toInt := h3
    omega
  · have h : ¬ s.toInt < 0 := h
    have h2 : ¬ (iv (zF A 207 1)).toInt ≤ s.toInt := h2
    rw [hn] at h2
    have h2 : ¬ n.toInt ≤ s.toInt := h2
    refine ⟨?_, rfl⟩
    show some (zrl A 210 s.toInt.toNat) = some (zat n s (zR A 210 s.toInt.toNat))
    rw [zrl_n zc210]
    unfold zat
    rw [if_pos ⟨by omega, by omega⟩]
/-- take: a refusal, or none -/
def ztkV (n m k y x : Int32) : Option Int32 := if ¬ (0 ≤ k.toInt ∧ k.toInt < 6) then some (-1) else if ¬ (0 ≤ y.toInt ∧ y.toInt ≤ 1) then some (-2) else if ¬ (0 ≤ x.toInt ∧ x.toInt < (if y.toInt = 0 then n else m).toInt) then some (-1) else none
section
variable {n m k y x : Int32}
theorem ztk_1 (h : ¬ (0 ≤ k.toInt ∧ k.toInt < 6)) : ztkV n m k y x = some (-1) := if_pos h
theorem ztk_2 (h : 0 ≤ k.toInt ∧ k.toInt < 6) (h2 : ¬ (0 ≤ y.toInt ∧ y.toInt ≤ 1)) : ztkV n m k y x = some (-2) := by
  unfold ztkV
  rw [if_neg (fun z => z h), if_pos h2]
theorem ztk_3 (h : 0 ≤ k.toInt ∧ k.toInt < 6) (h2 : 0 ≤ y.toInt ∧ y.toInt ≤ 1) (h3 : ¬ (0 ≤ x.toInt ∧ x.toInt < (if y.toInt = 0 then n else m).toInt)) : ztkV n m k y x = some (-1) := by
  unfold ztkV
  rw [if_neg (fun z => z h), if_neg (fun z => z h2), if_pos h3]
theorem ztk_n (h : 0 ≤ k.toInt ∧ k.toInt < 6) (h2 : 0 ≤ y.toInt ∧ y.toInt ≤ 1) (h3 : 0 ≤ x.toInt ∧ x.toInt < (if y.toInt = 0 then n else m).toInt) : ztkV n m k y x = none := by
  unfold ztkV
  rw [if_neg (fun z => z h), if_neg (fun z => z h2), if_neg (fun z => z h3)]
theorem ztk_g (h : ztkV n m k y x = none) : (0 ≤ k.toInt ∧ k.toInt < 6) ∧ (0 ≤ y.toInt ∧ y.toInt ≤ 1) ∧ (0 ≤ x.toInt ∧ x.toInt < (if y.toInt = 0 then n else m).toInt) := by
  by_cases h1 : 0 ≤ k.toInt ∧ k.toInt < 6
  · by_cases h2 : 0 ≤ y.toInt ∧ y.toInt ≤ 1
    · by_cases h3 : 0 ≤ x.toInt ∧ x.toInt < (if y.toInt = 0 then n else m).toInt
      · exact ⟨h1, h2, h3⟩
      · rw [ztk_3 h1 h2 h3] at h
        cases h
    · rw [ztk_2 h1 h2] at h
      cases h
  · rw [ztk_1 h1] at h
    cases h
end
/-- entries and rules are there, as many as are counted -/
def zref (A : zW) (q : Nat) (n : Int32) : Prop := ∀ e : Nat, (e : Int) < n.toInt → ∃ j, zR A q e = .ref j
abbrev ztkA : Type := (Int32 × Int32) × Int32 × Int32 × Int32
def ztk_F (q : Nat) : ztkA → List Value := fun (_, k, y, x) => [.ref q, .int k, .int y, .int x]
def ztk_P : ztkA → zW → Prop := fun ((n, m), _, _, _) A => zcE A n ∧ zcR A m ∧ zref A 195 n ∧ zref A 210 m
def ztk_Q : ztkA → zW → Option Value → zW → Prop := fun ((n, m), k, y, x) A rv A' => zhdQ (ztkV n m k y x) 1 (fun A' => A' = zuR A 334 k.toInt.toNat (zR A (if y.toInt = 0 then 195 else 210) x.toInt.toNat)) A rv A'
def zq_take : zQ := zs (ztk_F 0) ztk_P ztk_Q
theorem zref_n {A : zW} {q : Nat} {n s : Int32} (h : zref A q n) : zat n s (zR A q s.toInt.toNat) = .null ↔ ¬ (0 ≤ s.toInt ∧ s.toInt < n.toInt) := by
  constructor
  · intro h1 z
    unfold zat at h1
    rw [if_pos z] at h1
    obtain ⟨j, hj⟩ := h s.toInt.toNat (by omega)
    rw [hj] at h1
    cases h1
  · intro z
    exact if_neg z
set_option maxRecDepth 20000 in
set_option maxHeartbeats 4000000 in
theorem za_X11_take : zdo r_X11_take zq_take := by
  refine zdo_of _ _ _ [(1204, 1, q_isHold), (603, 2, zq_entryAt), (906, 2, zq_ruleAt)] (fun _ _ => []) 80 fo_X11 rfl (zs_cons rfl za_X11_isHold (zs_cons rfl za_X2_entryAt (zs_cons rfl za_X9_ruleAt zs_nil))) k_X11_take (fun _ _ _ => no_zh) (fun a A hp => ?_)
  obtain ⟨⟨n, m⟩, k, y, x⟩ := a
  obtain ⟨hE, hR, h1, h2⟩ := hp
  have e1 : (Int32.ofInt 1).toInt = 1 := by decide
  have no : ∀ v : Int32, ztkV n m k y x = some v → ztk_Q ((n, m), k, y, x) A (some (.int v)) A := fun v h => (zhd_no h : zhdQ (ztkV n m k y x) 1 (fun A' => A' = zuR A 334 k.toInt.toNat (zR A (if y.toInt = 0 then 195 else 210) x.toInt.toNat)) A (some (.int v)) A)
  have ye : ∀ v : Value, ztkV n m k y x = none → v = zR A (if y.toInt = 0 then 195 else 210) x.toInt.toNat → ztk_Q ((n, m), k, y, x) A (some (.int 1)) (zuR A 334 k.toInt.toNat v) := fun v h hv => by
    show zhdQ (ztkV n m k y x) 1 (fun A' => A' = zuR A 334 k.toInt.toNat (zR A (if y.toInt = 0 then 195 else 210) x.toInt.toNat)) A (some (.int 1)) (zuR A 334 k.toInt.toNat v)
    rw [h, hv]
    exact ⟨rfl, rfl⟩
  refine ⟨k, rfl, trivial, fun h => ?_, fun h => ?_⟩
  rotate_left
  · exact no _ (ztk_1 (zb_n (Classical.not_not.mp h)))
  have hk := zb_y h
  refine ⟨fun h => ?_, fun h => ⟨fun h3 => ?_, fun h3 => ?_⟩⟩
  · have h : y.toInt < 0 := h
    exact no _ (ztk_2 hk (by omega))
  rotate_left
  · have h3 : ¬ y.toInt ≤ (Int32.ofInt 1).toInt := h3
    exact no _ (ztk_2 hk (by omega))
  have h : ¬ y.toInt < 0 := h
  have h3 : y.toInt ≤ (Int32.ofInt 1).toInt := h3
  have hy : 0 ≤ y.toInt ∧ y.toInt ≤ 1 := ⟨by omega, by omega⟩
  refine ⟨(x, n), rfl, hE, fun h4 => ⟨fun h5 => ?_, fun h5 => ?_⟩, fun h4 => ⟨(x, m), rfl, hR, fun h5 => ?_, fun h5 => ?_⟩⟩
  · have h4 : ¬ y.toInt = (Int32.ofInt 1).toInt := h4
    have hy0 : y.toInt = 0 := by omega
    have h5 : ¬ zat n x (zR A 195 x.toInt.toNat) = .null := h5
    have hx := zat_y h5
    refine ⟨zc334, ye _ (ztk_n hk hy (by rw [if_pos hy0]; exact hx)) ?_⟩
    show zat n x (zR A 195 x.toInt.toNat) = _
    rw [if_pos hy0]
    exact if_pos hx
  · have h4 : ¬ y.toInt = (Int32.ofInt 1).toInt := h4
    have hy0 : y.toInt = 0 := by omega
    exact no _ (ztk_3 hk hy (by rw [if_pos hy0]; exact (zref_n h1).mp h5))
  · have h4 : ¬ ¬ y.toInt = (Int32.ofInt 1).toInt := h4
    have hy0 : ¬ y.toInt = 0 := by omega
    have h5 : ¬ zat m x (zR A 210 x.toInt.toNat) = .null := h5
    have hx := zat_y h5
    refine ⟨zc334, ye _ (ztk_n hk hy (by rw [if_neg hy0]; exact hx)) ?_⟩
    show zat m x (zR A 210 x.toInt.toNat) = _
    rw [if_neg hy0]
    exact if_pos hx
  · have h4 : ¬ ¬ y.toInt = (Int32.ofInt 1).toInt := h4
    have hy0 : ¬ y.toInt = 0 := by omega
    exact no _ (ztk_3 hk hy (by rw [if_neg hy0]; exact (zref_n h2).mp h5))
/-- loose -/
def zlsV (k : Int32) : Option Int32 := if ¬ (0 ≤ k.toInt ∧ k.toInt < 6) then some (-1) else none
def zlsQ (k : Int32) (b : Bool) (G : zW → Prop) (A : zW) (rv : Option Value) (A' : zW) : Prop := (¬ (0 ≤ k.toInt ∧ k.toInt < 6) ∧ rv = some (.int (-1)) ∧ A' = A) ∨ ((0 ≤ k.toInt ∧ k.toInt < 6) ∧ rv = some (.int (zb b)) ∧ G A')
def zq_loose : zQ := zs (fun k : Int32 => [.ref 0, .int k]) (fun _ _ => True) (fun k A rv A' => zlsQ k (decide ¬ zR A 334 k.toInt.toNat = .null) (fun A' => A' = zuR A 334 k.toInt.toNat .null) A rv A')
set_option maxRecDepth 20000 in
set_option maxHeartbeats 4000000 in
theorem za_X11_loose : zdo r_X11_loose zq_loose := by
  refine zdo_of _ _ _ [(1204, 1, q_isHold)] (fun _ _ => []) 80 fo_X11 rfl (zs_cons rfl za_X11_isHold zs_nil) k_X11_loose (fun _ _ _ => no_zh) (fun k A hp => ?_)
  refine ⟨k, rfl, trivial, fun h => ?_, fun h => ?_⟩
  rotate_left
  · exact Or.inl ⟨zb_n (Classical.not_not.mp h), rfl, rfl⟩
  have hk := zb_y h
  have e : zrl A 334 k.toInt.toNat = zR A 334 k.toInt.toNat := zrl_n zc334
  refine ⟨fun h2 => ⟨zc334, fun h3 => ?_, fun h3 => ?_⟩, fun h2 => ⟨zc334, fun h3 => ?_, fun h3 => ?_⟩⟩
  · have h2 : zrl A 334 k.toInt.toNat = .null := h2
    rw [e] at h2
    exact Or.inr ⟨hk, zbf (fun z => z h2), rfl⟩
  · exact absurd (show (0 : Int32).toInt = 0 from by decide) h3
  · exact absurd (show (1 : Int32).toInt = 0 from h3) (by decide)
  · have h2 : ¬ zrl A 334 k.toInt.toNat = .null := h2
    rw [e] at h2
    exact Or.inr ⟨hk, zbt h2, rfl⟩
/-- the reference's -/
def ztm_P : ztkA → zW → Prop := fun ((n, m), _, _, _) A => zF A 343 8 = .int n ∧ zF A 343 27 = .int m
def ztm_Q : ztkA → zW → Option Value → zW → Prop := fun ((n, m), k, y, x) A rv A' => zhdQ (ztkV n m k y x) 1 (fun A' => A' = zuI (zuI A 379 k.toInt.toNat y) 380 k.toInt.toNat x) A rv A'
def zq_takeM : zQ := zs (ztk_F 343) ztm_P ztm_Q
set_option maxRecDepth 20000 in
set_option maxHeartbeats 4000000 in
theorem za_X12_take : zdo r_X12_take zq_takeM := by
  refine zdo_of _ _ _ [(1423, 1, q_noHold), (457, 3, zq_in), (933, 2, q_noEntry), (1155, 2, q_noRule)] (fun _ _ => []) 80 fo_X12 rfl (zs_cons rfl za_X12_noHold (zs_cons rfl za_X12_in (zs_cons rfl za_X12_noEntry (zs_cons rfl za_X12_noRule zs_nil)))) k_X12_take (fun _ _ _ => no_zh) (fun a A hp => ?_)
  obtain ⟨⟨n, m⟩, k, y, x⟩ := a
  obtain ⟨hn, hm⟩ := hp
  have e0 := ze0
  have e1 := ze1
  have ey := Int32.toInt_toInt64 y
  have no : ∀ v : Int32, ztkV n m k y x = some v → ztm_Q ((n, m), k, y, x) A (some (.int v)) A := fun v h => (zhd_no h : zhdQ (ztkV n m k y x) 1 (fun A' => A' = zuI (zuI A 379 k.toInt.toNat y) 380 k.toInt.toNat x) A (some (.int v)) A)
  have ye : ztkV n m k y x = none → ztm_Q ((n, m), k, y, x) A (some (.int 1)) (zuI (zuI A 379 k.toInt.toNat y) 380 k.toInt.toNat x) := fun h => by
    show zhdQ (ztkV n m k y x) 1 (fun A' => A' = zuI (zuI A 379 k.toInt.toNat y) 380 k.toInt.toNat x) A (some (.int 1)) (zuI (zuI A 379 k.toInt.toNat y) 380 k.toInt.toNat x)
    rw [h]
    exact ⟨rfl, rfl⟩
  refine ⟨k, rfl, trivial, fun h => ?_, fun h => ?_⟩
  rotate_left
  · exact no _ (ztk_1 (zb_y h))
  have hk := Classical.not_not.mp (zb_n h)
  refine ⟨(y.toInt64, Int64.ofNat 0, Int64.ofNat 1), rfl, trivial, fun h => ?_, fun h => ?_⟩
  rotate_left
  · have h := zb_n (Classical.not_not.mp h)
    exact no _ (ztk_2 hk (fun z => h ⟨by show (Int64.ofNat 0).toInt ≤ y.toInt64.toInt; omega, by show y.toInt64.toInt ≤ (Int64.ofNat 1).toInt; omega⟩))
  have hy0 : (Int64.ofNat 0).toInt ≤ y.toInt64.toInt ∧ y.toInt64.toInt ≤ (Int64.ofNat 1).toInt := zb_y h
  have hy : 0 ≤ y.toInt ∧ y.toInt ≤ 1 := ⟨by omega, by omega⟩
  refine ⟨fun h => ⟨(x, m), rfl, hm, fun h2 => ?_, fun h2 => ?_⟩, fun h => ⟨(x, n), rfl, hn, fun h2 => ?_, fun h2 => ?_⟩⟩
  · have h : ¬ y.toInt = 0 := h
    exact ye (ztk_n hk hy (by rw [if_neg h]; exact Classical.not_not.mp (zb_n h2)))
  · have h : ¬ y.toInt = 0 := h
    exact no _ (ztk_3 hk hy (by rw [if_neg h]; exact zb_y h2))
  · have h : ¬ ¬ y.toInt = 0 := h
    have h := Classical.not_not.mp h
    exact ye (ztk_n hk hy (by rw [if_pos h]; exact Classical.not_not.mp (zb_n h2)))
  · have h : ¬ ¬ y.toInt = 0 := h
    have h := Classical.not_not.mp h
    exact no _ (ztk_3 hk hy (by rw [if_pos h]; exact zb_y h2))
def zq_looseM : zQ := zs (fun k : Int32 => [.ref 343, .int k]) (fun _ _ => True) (fun k A rv A' => zlsQ k (decide (0 ≤ (zI A 379 k.toInt.toNat).toInt)) (fun A' => A' = zuI A 379 k.toInt.toNat (Int32.ofInt (-9))) A rv A')
set_option maxRecDepth 20000 in
set_option maxHeartbeats 4000000 in
theorem za_X12_loose : zdo r_X12_loose zq_looseM := by
  refine zdo_of _ _ _ [(1423, 1, q_noHold)] (fun _ _ => []) 80 fo_X12 rfl (zs_cons rfl za_X12_noHold zs_nil) k_X12_loose (fun _ _ _ => no_zh) (fun k A hp => ?_)
  refine ⟨k, rfl, trivial, fun h => ?_, fun h => ?_⟩
  rotate_left
  · exact Or.inl ⟨zb_y h, rfl, rfl⟩
  have hk := Classical.not_not.mp (zb_n h)
  refine ⟨fun h2 => ?_, fun h2 => ?_⟩
  · have h2 : 0 ≤ (zI A 379 k.toInt.toNat).toInt := h2
    exact Or.inr ⟨hk, zbt h2, rfl⟩
  · have h2 : ¬ 0 ≤ (zI A 379 k.toInt.toNat).toInt := h2
    exact Or.inr ⟨hk, zbf h2, rfl⟩
