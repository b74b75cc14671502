/-! hold, on both sides -/
/-- a refusal, or none -/
def zhdV (c n s u f t k : Int32) : Option Int32 := if ¬ ((0 ≤ s.toInt ∧ s.toInt < c.toInt) ∧ (0 ≤ u.toInt ∧ u.toInt < 6)) then some (-1) else if ¬ ((0 ≤ f.toInt ∧ f.toInt < 100) ∧ (0 ≤ t.toInt ∧ t.toInt < 100) ∧ f.toInt ≤ t.toInt ∧ (0 ≤ k.toInt ∧ k.toInt < 100)) then some (-2) else if ¬ n.toInt < 12 then some (-4) else none
theorem zhd_1 {c n s u f t k : Int32} (h : ¬ ((0 ≤ s.toInt ∧ s.toInt < c.toInt) ∧ (0 ≤ u.toInt ∧ u.toInt < 6))) : zhdV c n s u f t k = some (-1) := if_pos h
theorem zhd_2 {c n s u f t k : Int32} (h : (0 ≤ s.toInt ∧ s.toInt < c.toInt) ∧ (0 ≤ u.toInt ∧ u.toInt < 6)) (h2 : ¬ ((0 ≤ f.toInt ∧ f.toInt < 100) ∧ (0 ≤ t.toInt ∧ t.toInt < 100) ∧ f.toInt ≤ t.toInt ∧ (0 ≤ k.toInt ∧ k.toInt < 100))) : zhdV c n s u f t k = some (-2) := by
  unfold zhdV
  rw [if_neg (fun z => z h), if_pos h2]
theorem zhd_4 {c n s u f t k : Int32} (h : (0 ≤ s.toInt ∧ s.toInt < c.toInt) ∧ (0 ≤ u.toInt ∧ u.toInt < 6)) (h2 : (0 ≤ f.toInt ∧ f.toInt < 100) ∧ (0 ≤ t.toInt ∧ t.toInt < 100) ∧ f.toInt ≤ t.toInt ∧ (0 ≤ k.toInt ∧ k.toInt < 100)) (h3 : ¬ n.toInt < 12) : zhdV c n s u f t k = some (-4) := by
  unfold zhdV
  rw [if_neg (fun z => z h), if_neg (fun z => z h2), if_pos h3]
theorem zhd_n {c n s u f t k : Int32} (h : (0 ≤ s.toInt ∧ s.toInt < c.toInt) ∧ (0 ≤ u.toInt ∧ u.toInt < 6)) (h2 : (0 ≤ f.toInt ∧ f.toInt < 100) ∧ (0 ≤ t.toInt ∧ t.toInt < 100) ∧ f.toInt ≤ t.toInt ∧ (0 ≤ k.toInt ∧ k.toInt < 100)) (h3 : n.toInt < 12) : zhdV c n s u f t k = none := by
  unfold zhdV
  rw [if_neg (fun z => z h), if_neg (fun z => z h2), if_neg (fun z => z h3)]
theorem zhd_g {c n s u f t k : Int32} (h : zhdV c n s u f t k = none) : ((0 ≤ s.toInt ∧ s.toInt < c.toInt) ∧ (0 ≤ u.toInt ∧ u.toInt < 6)) ∧ ((0 ≤ f.toInt ∧ f.toInt < 100) ∧ (0 ≤ t.toInt ∧ t.toInt < 100) ∧ f.toInt ≤ t.toInt ∧ (0 ≤ k.toInt ∧ k.toInt < 100)) ∧ n.toInt < 12 := by
  unfold zhdV at h
  split at h
  · cases h
  · rename_i h1
    split at h
    · cases h
    · rename_i h2
      split at h
      · cases h
      · rename_i h3
        exact ⟨Classical.not_not.mp h1, Classical.not_not.mp h2, Classical.not_not.mp h3⟩
/-- the class's book with an entry more -/
def znE (A : zW) (D : Nat → Value) (s u f t k : Int32) : zW := zkp (zent (zuN A 4 7 D) (zN A) (iv (zF A 193 1)) s u f t k) (zN A) (2 + 2 * s.toInt.toNat)
def zhdQ (R : Option Int32) (n : Int32) (G : zW → Prop) (A : zW) (rv : Option Value) (A' : zW) : Prop := match R with
  | some v => rv = some (.int v) ∧ A' = A
  | none => rv = some (.int n) ∧ G A'
theorem zhd_no {R : Option Int32} {n v : Int32} {G : zW → Prop} {A : zW} (h : R = some v) : zhdQ R n G A (some (.int v)) A := by
  subst h
  exact ⟨rfl, rfl⟩
abbrev zhdA : Type := (Int32 × Int32) × Int32 × Int32 × Int32 × Int32 × Int32
def zhd_F (q : Nat) : zhdA → List Value := fun (_, s, u, f, t, k) => [.ref q, .int s, .int u, .int f, .int t, .int k]
def zhd_P : zhdA → zW → Prop := fun ((c, n), _, _, _, _, _) A => (zF A 0 1 = .int c ∧ c.toInt ≤ 60) ∧ zcE A n ∧ 385 ≤ zN A
def zhd_Q : zhdA → zW → Option Value → zW → Prop := fun ((c, n), s, u, f, t, k) A rv A' => zhdQ (zhdV c n s u f t k) n (fun A' => ∃ D, A' = znE A D s u f t k) A rv A'
def zq_hold : zQ := zs (zhd_F 0) zhd_P zhd_Q
theorem zent_0 {A : zW} {p : Nat} {n s u f t k : Int32} : zF (zent A p n s u f t k) p 0 = .int n := by
  unfold zent
  rw [zuF_x, if_neg (fun z => by cases z.2), zuF_x, if_neg (fun z => by cases z.2), zuF_x, if_neg (fun z => by cases z.2), zuF_x, if_neg (fun z => by cases z.2), zuF_x, if_neg (fun z => by cases z.2), zuF_x, if_neg (fun z => by cases z.2), zuF_x, if_pos ⟨rfl, rfl⟩]
theorem zent_1 {A : zW} {p : Nat} {n s u f t k : Int32} : zF (zent A p n s u f t k) p 1 = .int s := by
  unfold zent
  rw [zuF_x, if_neg (fun z => by cases z.2), zuF_x, if_neg (fun z => by cases z.2), zuF_x, if_neg (fun z => by cases z.2), zuF_x, if_neg (fun z => by cases z.2), zuF_x, if_neg (fun z => by cases z.2), zuF_x, if_pos ⟨rfl, rfl⟩]
theorem zent_2 {A : zW} {p : Nat} {n s u f t k : Int32} : zF (zent A p n s u f t k) p 2 = .int u := by
  unfold zent
  rw [zuF_x, if_neg (fun z => by cases z.2), zuF_x, if_neg (fun z => by cases z.2), zuF_x, if_neg (fun z => by cases z.2), zuF_x, if_neg (fun z => by cases z.2), zuF_x, if_pos ⟨rfl, rfl⟩]
theorem zent_3 {A : zW} {p : Nat} {n s u f t k : Int32} : zF (zent A p n s u f t k) p 3 = .int f := by
  unfold zent
  rw [zuF_x, if_neg (fun z => by cases z.2), zuF_x, if_neg (fun z => by cases z.2), zuF_x, if_neg (fun z => by cases z.2), zuF_x, if_pos ⟨rfl, rfl⟩]
theorem zent_4 {A : zW} {p : Nat} {n s u f t k : Int32} : zF (zent A p n s u f t k) p 4 = .int t := by
  unfold zent
  rw [zuF_x, if_neg (fun z => by cases z.2), zuF_x, if_neg (fun z => by cases z.2), zuF_x, if_pos ⟨rfl, rfl⟩]
theorem zent_5 {A : zW} {p : Nat} {n s u f t k : Int32} : zF (zent A p n s u f t k) p 5 = .int k := by
  unfold zent
  rw [zuF_x, if_neg (fun z => by cases z.2), zuF_x, if_pos ⟨rfl, rfl⟩]
theorem zent_6 {A : zW} {p : Nat} {n s u f t k : Int32} : zF (zent A p n s u f t k) p 6 = .int (Int32.ofInt (-9)) := by
  unfold zent
  rw [zuF_x, if_pos ⟨rfl, rfl⟩]
theorem zent_ne {A : zW} {p j i : Nat} {n s u f t k : Int32} (h : j ≠ p) : zF (zent A p n s u f t k) j i = zF A j i := by
  unfold zent
  rw [zuF_ne h, zuF_ne h, zuF_ne h, zuF_ne h, zuF_ne h, zuF_ne h, zuF_ne h]
theorem zuN_k {A : zW} {ci t : Nat} {D : Nat → Value} : zK (zuN A ci t D) (zN A) = (ci, t) := by
  show (bif Nat.beq (zN A) (zN A) then (ci, t) else zK A (zN A)) = _
  rw [nbT]
  rfl
theorem zuN_f {A : zW} {ci t j k : Nat} {D : Nat → Value} (h : j ≠ zN A) : zF (zuN A ci t D) j k = zF A j k := by
  show (bif Nat.beq j (zN A) then D k else zF A j k) = _
  rw [nbF h]
  rfl
theorem zuN_K {A : zW} {ci t j : Nat} {D : Nat → Value} (h : j ≠ zN A) : zK (zuN A ci t D) j = zK A j := by
  show (bif Nat.beq j (zN A) then (ci, t) else zK A j) = _
  rw [nbF h]
  rfl
/-- what stands at a fixed place isn't the new object's -/
theorem znN {A : zW} {q : Nat} (h : 385 ≤ zN A) (hq : q < 385) : q ≠ zN A := by omega
theorem zcE.new {A : zW} {n : Int32} {D : Nat → Value} {s u f t k : Int32} (h : zcE A n) (hN : 385 ≤ zN A) : zcE (zent (zuN A 4 7 D) (zN A) (iv (zF A 193 1)) s u f t k) n := by
  obtain ⟨h1, h2⟩ := h
  refine ⟨?_, h2⟩
  rw [zent_ne (znN hN (by decide)), zuN_f (znN hN (by decide))]
  exact h1
def Sp_zhd : zP := [(381, 2, zq_sentenceAt), (487, 1, q_isSource), (505, 1, q_isTime), (513, 1, zq_isFullE), (542, 7, zq_Entry), (549, 3, zq_keepE)]
theorem Sp_zhd_ok : zsp T_X11_hold Sp_zhd := zs_cons rfl za_X11_sentenceAt (zs_cons rfl za_X11_isSource (zs_cons rfl za_X11_isTime (zs_cons rfl za_X2_isFull (zs_cons rfl za_X4_init (zs_cons rfl za_X2_keep zs_nil)))))
set_option maxRecDepth 20000 in
set_option maxHeartbeats 4000000 in
theorem za_X11_hold : zdo r_X11_hold zq_hold := by
  refine zdo_of _ _ _ Sp_zhd (fun _ _ => []) 80 fo_X11 rfl Sp_zhd_ok k_X11_hold (fun _ _ _ => no_zh) (fun a A hp => ?_)
  obtain ⟨⟨c, n⟩, s, u, f, t, k⟩ := a
  obtain ⟨⟨hc, hc60⟩, hE, hN⟩ := hp
  have hc60 : c.toInt ≤ 60 := hc60
  have no : ∀ v : Int32, zhdV c n s u f t k = some v → zhd_Q ((c, n), s, u, f, t, k) A (some (.int v)) A := fun v h => (zhd_no h : zhdQ (zhdV c n s u f t k) n (fun A' => ∃ D, A' = znE A D s u f t k) A (some (.int v)) A)
  refine ⟨(s, c), rfl, ⟨hc, hc60⟩, fun h => ?_, fun h => ?_⟩
  · exact no _ (zhd_1 (fun z => zat_n (fun z => by cases z) h z.1))
  have hs : 0 ≤ s.toInt ∧ s.toInt < c.toInt := zat_y h
  have e1 : zat c s (.ref (2 + 2 * s.toInt.toNat)) = .ref (2 + 2 * s.toInt.toNat) := if_pos hs
  refine ⟨u, rfl, trivial, fun h => ?_, fun h => ?_⟩
  rotate_left
  · exact no _ (zhd_1 (fun z => zb_n (Classical.not_not.mp h) z.2))
  have hu := zb_y h
  refine ⟨f, rfl, trivial, fun h => ?_, fun h => ?_⟩
  · exact no _ (zhd_2 ⟨hs, hu⟩ (fun z => zb_n h z.1))
  have hf := zb_y h
  refine ⟨t, rfl, trivial, fun h => ?_, fun h => ?_⟩
  · exact no _ (zhd_2 ⟨hs, hu⟩ (fun z => zb_n h z.2.1))
  have ht := zb_y h
  refine ⟨fun h => ?_, fun h => ?_⟩
  · have h : t.toInt < f.toInt := h
    exact no _ (zhd_2 ⟨hs, hu⟩ (fun z => by omega))
  have h : ¬ t.toInt < f.toInt := h
  have hft : f.toInt ≤ t.toInt := by omega
  refine ⟨k, rfl, trivial, fun h => ?_, fun h => ?_⟩
  rotate_left
  · exact no _ (zhd_2 ⟨hs, hu⟩ (fun z => zb_n (Classical.not_not.mp h) z.2.2.2))
  have hk := zb_y h
  refine ⟨n, rfl, hE, fun h => ?_, fun h => ?_⟩
  rotate_left
  · exact no _ (zhd_4 ⟨hs, hu⟩ ⟨hf, ht, hft, hk⟩ (zb_y h))
  have hn := Classical.not_not.mp (zb_n h)
  intro D
  refine ⟨(zN A, iv (zF A 193 1), s, u, f, t, k), ?_, ⟨hN, ?_⟩, ?_⟩
  · show [Value.ref (zN A), zF (zuN A 4 7 D) 193 1, .int s, .int u, .int f, .int t, .int k] = _
    rw [zuN_f (znN hN (by decide)), hE.1]
    rfl
  · show (zK (zuN A 4 7 D) (zN A)).1 = 4
    rw [zuN_k]
  refine ⟨(zN A, 2 + 2 * s.toInt.toNat, n, iv (zF A 193 1)), ?_, ⟨hE.new hN, hn, hN, ?_, zent_0, zB_s (show s.toInt.toNat < 60 by omega)⟩, ?_⟩
  · show [Value.ref 193, Value.ref (zN A), zat c s (.ref (2 + 2 * s.toInt.toNat))] = _
    rw [e1]
  · show (zK (zuN A 4 7 D) (zN A)).1 = 4
    rw [zuN_k]
  · show zhdQ (zhdV c n s u f t k) n (fun A' => ∃ D, A' = znE A D s u f t k) A (some (.int (iv (zF A 193 1)))) (zkp (zent (zuN A 4 7 D) (zN A) (iv (zF A 193 1)) s u f t k) (zN A) (2 + 2 * s.toInt.toNat))
    rw [zhd_n ⟨hs, hu⟩ ⟨hf, ht, hft, hk⟩ hn]
    refine ⟨?_, D, rfl⟩
    rw [hE.1]
    rfl
/-- the reference's -/
def zov (A : zW) : zW := zuF (zuF (zuF A 343 19 (.int (Int32.ofInt 0))) 343 33 (.int (Int32.ofInt 0))) 343 55 (.int (Int32.ofInt 0))
def zq_otherView : zQ := zfu (fun _ : Unit => [.ref 343]) (fun _ _ => True) (fun _ _ => none) (fun _ A => zov A)
set_option maxRecDepth 20000 in
theorem za_X12_otherView : zdo r_X12_otherView zq_otherView := by
  refine zdo_fu [] (fun _ _ => []) 40 fo_X12 rfl zs_nil k_X12_otherView (fun _ _ _ => no_zh) (fun _ A _ => ?_)
  exact ⟨rfl, rfl, rfl, rfl, rfl⟩
def zae (A : zW) (s u f t k : Int32) : zW := zov (zuF (zuF (zuI (zuI (zuI (zuI (zuI (zuI A 348 (iv (zF A 343 8)).toNatClampNeg s) 349 (iv (zF A 343 8)).toNatClampNeg u) 350 (iv (zF A 343 8)).toNatClampNeg f) 351 (iv (zF A 343 8)).toNatClampNeg t) 352 (iv (zF A 343 8)).toNatClampNeg k) 353 (iv (zF A 343 8)).toNatClampNeg (Int32.ofInt (-9))) 343 8 (.int (iv (zF A 343 8) + Int32.ofInt 1))) 343 17 (.int (Int32.ofInt 0)))
def zq_addEntry : zQ := zfu (fun a : Int32 × Int32 × Int32 × Int32 × Int32 => [.ref 343, .int a.1, .int a.2.1, .int a.2.2.1, .int a.2.2.2.1, .int a.2.2.2.2]) (fun _ _ => True) (fun _ A => some (.int (iv (zF A 343 8) + Int32.ofInt 1 - Int32.ofInt 1))) (fun a A => zae A a.1 a.2.1 a.2.2.1 a.2.2.2.1 a.2.2.2.2)
set_option maxRecDepth 20000 in
set_option maxHeartbeats 4000000 in
theorem za_X12_addEntry : zdo r_X12_addEntry zq_addEntry := by
  refine zdo_fu [(741, 1, zq_otherView)] (fun _ _ => []) 60 fo_X12 rfl (zs_cons rfl za_X12_otherView zs_nil) k_X12_addEntry (fun _ _ _ => no_zh) (fun a A _ => ?_)
  obtain ⟨s, u, f, t, k⟩ := a
  exact ⟨rfl, rfl, (), rfl, trivial, rfl, rfl⟩
def zhm_P : zhdA → zW → Prop := fun ((c, n), _, _, _, _, _) A => zF A 343 1 = .int c ∧ zF A 343 8 = .int n ∧ 0 ≤ n.toInt ∧ n.toInt ≤ 12
def zhm_Q : zhdA → zW → Option Value → zW → Prop := fun ((c, n), s, u, f, t, k) A rv A' => zhdQ (zhdV c n s u f t k) n (fun A' => A' = zae A s u f t k) A rv A'
def zq_holdM : zQ := zs (zhd_F 343) zhm_P zhm_Q
def Sp_zhm : zP := [(669, 2, q_noSentence), (727, 1, q_noSource), (457, 3, zq_in), (912, 6, zq_addEntry)]
theorem Sp_zhm_ok : zsp T_X12_hold Sp_zhm := zs_cons rfl za_X12_noSentence (zs_cons rfl za_X12_noSource (zs_cons rfl za_X12_in (zs_cons rfl za_X12_addEntry zs_nil)))
theorem ze99 : (Int64.ofInt 99).toInt = 99 := by decide
set_option maxRecDepth 20000 in
set_option maxHeartbeats 4000000 in
theorem za_X12_hold : zdo r_X12_hold zq_holdM := by
  refine zdo_of _ _ _ Sp_zhm (fun _ _ => []) 80 fo_X12 rfl Sp_zhm_ok k_X12_hold (fun _ _ _ => no_zh) (fun a A hp => ?_)
  obtain ⟨⟨c, n⟩, s, u, f, t, k⟩ := a
  obtain ⟨hc, hn, n0, n1⟩ := hp
  have hn : zF A 343 8 = .int n := hn
  have n1 : n.toInt ≤ 12 := n1
  have e0 := ze0
  have e99 := ze99
  have ef := Int32.toInt_toInt64 f
  have et := Int32.toInt_toInt64 t
  have ek := Int32.toInt_toInt64 k
  have e12 : (Int32.ofInt 12).toInt = 12 := by decide
  have no : ∀ v : Int32, zhdV c n s u f t k = some v → zhm_Q ((c, n), s, u, f, t, k) A (some (.int v)) A := fun v h => (zhd_no h : zhdQ (zhdV c n s u f t k) n (fun A' => A' = zae A s u f t k) A (some (.int v)) A)
  refine ⟨(s, c), rfl, hc, fun h => ?_, fun h => ?_⟩
  · exact no _ (zhd_1 (fun z => zb_y h z.1))
  have hs := Classical.not_not.mp (zb_n (Classical.not_not.mp h))
  refine ⟨u, rfl, trivial, fun h => ?_, fun h => ?_⟩
  rotate_left
  · exact no _ (zhd_1 (fun z => zb_y h z.2))
  have hu := Classical.not_not.mp (zb_n h)
  refine ⟨(f.toInt64, Int64.ofNat 0, Int64.ofInt 99), rfl, trivial, fun h => ?_, fun h => ?_⟩
  · have h := zb_n h
    exact no _ (zhd_2 ⟨hs, hu⟩ (fun z => h ⟨by show (Int64.ofNat 0).toInt ≤ f.toInt64.toInt; omega, by show f.toInt64.toInt ≤ (Int64.ofInt 99).toInt; omega⟩))
  have hf : (Int64.ofNat 0).toInt ≤ f.toInt64.toInt ∧ f.toInt64.toInt ≤ (Int64.ofInt 99).toInt := zb_y h
  refine ⟨(t.toInt64, f.toInt64, Int64.ofInt 99), rfl, trivial, fun h => ?_, fun h => ?_⟩
  · have h := zb_n h
    exact no _ (zhd_2 ⟨hs, hu⟩ (fun z => h ⟨by show f.toInt64.toInt ≤ t.toInt64.toInt; omega, by show t.toInt64.toInt ≤ (Int64.ofInt 99).toInt; omega⟩))
  have ht : f.toInt64.toInt ≤ t.toInt64.toInt ∧ t.toInt64.toInt ≤ (Int64.ofInt 99).toInt := zb_y h
  refine ⟨(k.toInt64, Int64.ofNat 0, Int64.ofInt 99), rfl, trivial, fun h => ?_, fun h => ?_⟩
  rotate_left
  · have h := zb_n (Classical.not_not.mp h)
    exact no _ (zhd_2 ⟨hs, hu⟩ (fun z => h ⟨by show (Int64.ofNat 0).toInt ≤ k.toInt64.toInt; omega, by show k.toInt64.toInt ≤ (Int64.ofInt 99).toInt; omega⟩))
  have hk : (Int64.ofNat 0).toInt ≤ k.toInt64.toInt ∧ k.toInt64.toInt ≤ (Int64.ofInt 99).toInt := zb_y h
  have good : (0 ≤ f.toInt ∧ f.toInt < 100) ∧ (0 ≤ t.toInt ∧ t.toInt < 100) ∧ f.toInt ≤ t.toInt ∧ (0 ≤ k.toInt ∧ k.toInt < 100) := ⟨⟨by omega, by omega⟩, ⟨by omega, by omega⟩, by omega, by omega, by omega⟩
  refine ⟨fun h => ?_, fun h => ?_⟩
  · have h : ¬ (iv (zF A 343 8)).toInt = (Int32.ofInt 12).toInt := h
    rw [hn] at h
    have h : ¬ n.toInt = (Int32.ofInt 12).toInt := h
    refine ⟨(s, u, f, t, k), rfl, trivial, ?_⟩
    show zhdQ (zhdV c n s u f t k) n (fun A' => A' = zae A s u f t k) A (some (.int (iv (zF A 343 8) + Int32.ofInt 1 - Int32.ofInt 1))) (zae A s u f t k)
    rw [zhd_n ⟨hs, hu⟩ good (by omega), hn]
    refine ⟨?_, rfl⟩
    show some (Value.int (n + 1 - 1)) = some (.int n)
    rw [Int32.add_sub_cancel]
  · have h : ¬ ¬ (iv (zF A 343 8)).toInt = (Int32.ofInt 12).toInt := h
    rw [hn] at h
    have h : ¬ ¬ n.toInt = (Int32.ofInt 12).toInt := h
    exact no _ (zhd_4 ⟨hs, hu⟩ good (by omega))
