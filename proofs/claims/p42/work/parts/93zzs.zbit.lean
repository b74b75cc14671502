section
/-! bits of numbers -/
def zbi (x : Int32) (e : Nat) : Bool := x.toBitVec.getLsbD e
theorem zbt_sh : ∀ e, e < 32 → ((Int32.ofNat e &&& 31).toBitVec.smod 32#32).toNat = e := by decide +kernel
theorem zbt_s1 {x : Int32} {e : Nat} (he : e < 32) : (x >>> (Int32.ofNat e &&& 31)).toBitVec.getLsbD 0 = zbi x e := by
  rw [Int32.toBitVec_shiftRight]
  show (x.toBitVec.sshiftRight ((Int32.ofNat e &&& 31).toBitVec.smod 32#32).toNat).getLsbD 0 = _
  rw [zbt_sh e he, BitVec.getLsbD_sshiftRight, if_pos (by omega)]
  show (!decide (32 ≤ 0) && x.toBitVec.getLsbD (e + 0)) = x.toBitVec.getLsbD e
  rw [Nat.add_zero]
  rfl
theorem zbt_1 {y : Int32} : (y &&& Int32.ofInt 1).toInt = if y.toBitVec.getLsbD 0 = true then 1 else 0 := by
  show (y &&& Int32.ofInt 1).toBitVec.toInt = _
  rw [Int32.toBitVec_and]
  show (y.toBitVec &&& 1#32).toInt = _
  rw [BitVec.and_one_eq_setWidth_ofBool_getLsbD]
  cases y.toBitVec.getLsbD 0 <;> decide
/-- a set has an element: the class's question -/
theorem zbt_c {x : Int32} {e : Nat} (he : e < 32) : (x >>> (Int32.ofNat e &&& 31) &&& Int32.ofInt 1).toInt = if zbi x e = true then 1 else 0 := by
  rw [zbt_1, zbt_s1 he]
theorem hbB_b {a : Int64} {j : Nat} (hj : j < 64) : hbB a (Int32.ofNat j) = a.toBitVec.getLsbD j := by
  have h1 : nL (us_ a (Int32.ofNat j) &&& Int64.ofNat 1) = nL a / 2 ^ j % 2 := by
    rw [nL_and, us_N (sh_63 j hj)]
    show nL a / 2 ^ j &&& 1 = _
    rw [Nat.and_one_is_mod]
  have h2 : a.toBitVec.getLsbD j = decide (nL a / 2 ^ j % 2 = 1) := by
    rw [← BitVec.testBit_toNat, Nat.testBit_eq_decide_div_mod_eq]
    rfl
  rw [h2]
  have h3 : nL a / 2 ^ j % 2 = 0 ∨ nL a / 2 ^ j % 2 = 1 := by omega
  unfold hbB
  show decide ((us_ a (Int32.ofNat j) &&& Int64.ofNat 1).toInt = (Int64.ofNat 1).toInt) = _
  rcases h3 with h3 | h3
  · have e : us_ a (Int32.ofNat j) &&& Int64.ofNat 1 = Int64.ofNat 0 := Int64.toBitVec_inj.mp (BitVec.eq_of_toNat_eq (h1.trans h3))
    rw [e, h3]
    decide
  · have e : us_ a (Int32.ofNat j) &&& Int64.ofNat 1 = Int64.ofNat 1 := Int64.toBitVec_inj.mp (BitVec.eq_of_toNat_eq (h1.trans h3))
    rw [e, h3]
    decide
/-- the reference's -/
theorem zbt_m {x : Int32} {e : Nat} (he : e < 32) : hbB x.toInt64 (Int32.ofNat e) = zbi x e := by
  rw [hbB_b (by omega), Int32.toBitVec_toInt64, BitVec.getLsbD_signExtend, if_pos he]
  rw [decide_eq_true (show e < 64 by omega), Bool.true_and]
  rfl
def zq_hasBit : zQ := zpu (fun a : Int64 × Int32 => [.long a.1, .int a.2]) (fun _ _ => True) (fun a _ => .int (zb (hbB a.1 a.2)))
set_option maxRecDepth 20000 in
theorem za_X12_hasBit : zdo r_X12_hasBit zq_hasBit := by
  refine zdo_pu [] (fun _ _ => []) 40 fo_X12 rfl zs_nil k_X12_hasBit (fun _ _ _ => no_zh) (fun a A _ => ?_)
  obtain ⟨x, k⟩ := a
  refine ⟨fun h => ?_, fun h => ?_⟩
  · have h : ck_cm .ne (lg_cmp (us_ x k &&& Int64.ofNat 1) (Int64.ofNat 1)).toInt 0 := h
    have h : ¬ hb x k := ck_cm_lg.mp h
    refine ⟨?_, rfl⟩
    show some (Value.int 0) = some (.int (zb (hbB x k)))
    rw [show hbB x k = false from Bool.eq_false_iff.mpr (fun z => h (hbB_t.mp z))]
    rfl
  · have h : ¬ ck_cm .ne (lg_cmp (us_ x k &&& Int64.ofNat 1) (Int64.ofNat 1)).toInt 0 := h
    have h : ¬ ¬ hb x k := fun z => h (ck_cm_lg.mpr z)
    refine ⟨?_, rfl⟩
    show some (Value.int 1) = some (.int (zb (hbB x k)))
    rw [hbB_t.mpr (Classical.not_not.mp h)]
    rfl
/-- sets of n elements: the class asks by bits, the reference by size -/
theorem zes_p : ∀ n, n < 13 → (Int32.ofInt 1 <<< (Int32.ofNat n &&& 31)).toInt = ((2 ^ n : Nat) : Int) ∧ (Int64.ofNat 1 <<< ((Int32.ofNat n).toInt64 &&& 63)).toInt = ((2 ^ n : Nat) : Int) := by decide +kernel
theorem zes_m : ∀ n, n < 13 → ((Int32.ofInt 1 <<< (Int32.ofNat n &&& 31)) - Int32.ofInt 1).toBitVec.toNat = 2 ^ n - 1 := by decide +kernel
/-- y has none but the low n bits -/
theorem zes_c {x : Int32} {n : Nat} (hn : n < 13) : (x &&& (((Int32.ofInt 1 <<< (Int32.ofNat n &&& 31)) - Int32.ofInt 1) ^^^ Int32.ofInt (-1))).toInt = 0 ↔ 0 ≤ x.toInt ∧ x.toInt < ((2 ^ n : Nat) : Int) := by
  have hm := zes_m n hn
  generalize (Int32.ofInt 1 <<< (Int32.ofNat n &&& 31)) - Int32.ofInt 1 = m at hm
  have hb : ∀ i, i < 32 → (x &&& (m ^^^ Int32.ofInt (-1))).toBitVec.getLsbD i = (x.toBitVec.getLsbD i && !decide (i < n)) := fun i hi => by
    rw [Int32.toBitVec_and, Int32.toBitVec_xor, BitVec.getLsbD_and, BitVec.getLsbD_xor]
    have h1 : m.toBitVec.getLsbD i = decide (i < n) := by
      rw [← BitVec.testBit_toNat, hm, Nat.testBit_two_pow_sub_one]
    have h2 : (Int32.ofInt (-1)).toBitVec.getLsbD i = true := by
      show (BitVec.ofInt 32 (-1)).getLsbD i = true
      have : ∀ i, i < 32 → (BitVec.ofInt 32 (-1)).getLsbD i = true := by decide
      exact this i hi
    rw [h1, h2, Bool.xor_true]
  have hp : 2 ^ n ≤ 4096 := by
    have : ∀ n, n < 13 → 2 ^ n ≤ 4096 := by decide
    exact this n hn
  constructor
  · intro h
    have hz : (x &&& (m ^^^ Int32.ofInt (-1))).toBitVec = 0#32 := by
      have : x &&& (m ^^^ Int32.ofInt (-1)) = 0 := Int32.toInt_inj.mp h
      rw [this]
      rfl
    have hx : ∀ i, n ≤ i → x.toBitVec.toNat.testBit i = false := fun i hi => by
      by_cases h32 : i < 32
      · have h3 := hb i h32
        rw [hz, BitVec.getLsbD_zero, decide_eq_false (by omega), Bool.not_false, Bool.and_true] at h3
        rw [BitVec.testBit_toNat]
        exact h3.symm
      · rw [BitVec.testBit_toNat]
        exact BitVec.getLsbD_of_ge _ _ (by omega)
    have hlt : x.toBitVec.toNat < 2 ^ n := Nat.lt_pow_two_of_testBit _ hx
    have e : x.toInt = (x.toBitVec.toNat : Int) := BitVec.toInt_eq_toNat_of_lt (by omega)
    rw [e]
    exact ⟨by omega, by omega⟩
  · intro ⟨h0, h1⟩
    have hz : (x &&& (m ^^^ Int32.ofInt (-1))).toBitVec = 0#32 := by
      apply BitVec.eq_of_getLsbD_eq
      intro i hi
      rw [hb i hi, BitVec.getLsbD_zero]
      have e : x.toInt = (x.toBitVec.toNat : Int) := by
        have h3 : x.toInt = x.toBitVec.toInt := rfl
        rw [h3, BitVec.toInt_eq_toNat_cond]
        rw [h3, BitVec.toInt_eq_toNat_cond] at h0
        split
        · rfl
        · rename_i hc
          rw [if_neg hc] at h0
          have := x.toBitVec.isLt
          omega
      have hlt : x.toBitVec.toNat < 2 ^ n := by omega
      by_cases hin : i < n
      · rw [decide_eq_true hin, Bool.not_true, Bool.and_false]
      · rw [decide_eq_false hin, Bool.not_false, Bool.and_true, ← BitVec.testBit_toNat]
        exact Nat.testBit_lt_two_pow (Nat.lt_of_lt_of_le hlt (Nat.pow_le_pow_right (by decide) (by omega)))
    have : x &&& (m ^^^ Int32.ofInt (-1)) = 0 := Int32.toBitVec_inj.mp hz
    rw [this]
    rfl
end
section
/-! weights, on both sides -/
/-- the source of an entry, on the class's side -/
def zsr (A : zW) (e : Nat) : Int32 := iv (zF A (rv_ (zR A 195 e)) 2)
def zcw (A : zW) (set : Int32) : Nat → Int32
  | 0 => 0
  | e + 1 => if zbi set e = true then zcw A set e + zI A 194 (zsr A e).toInt.toNat else zcw A set e
def zmw (A : zW) (set : Int32) : Nat → Int32
  | 0 => 0
  | e + 1 => zmw A set e + (if zbi set e = true then zI A 345 (zI A 349 e).toInt.toNat else 0)
set_option maxRecDepth 20000 in
theorem zcw_eq {A : zW} {set : Int32} : ∀ {n : Nat}, (∀ e, e < n → zI A 194 (zsr A e).toInt.toNat = zI A 345 (zI A 349 e).toInt.toNat) → zcw A set n = zmw A set n
  | 0, _ => rfl
  | n + 1, h => by
    show (if zbi set n = true then zcw A set n + _ else zcw A set n) = zmw A set n + (if zbi set n = true then _ else 0)
    rw [zcw_eq (fun e he => h e (by omega)), h n (by omega)]
    by_cases hb : zbi set n = true
    · rw [if_pos hb, if_pos hb]
    · rw [if_neg hb, if_neg hb, Int32.add_zero]
/-- entries that are there, with their sources -/
def zeS (A : zW) (n : Int32) : Prop := zcE A n ∧ ∀ e : Nat, (e : Int) < n.toInt → ∃ (j : Nat) (u : Int32), zR A 195 e = .ref j ∧ 385 ≤ j ∧ (zK A j).1 = 4 ∧ zF A j 2 = .int u ∧ 0 ≤ u.toInt ∧ u.toInt < 6
def zq_weigh : zQ := zpu (fun a : Int32 × Int32 => [.ref 193, .int a.1]) (fun a A => zeS A a.2) (fun a A => .int (zcw A a.1 a.2.toInt.toNat))
def in_zwg (A : zW) (set n : Int32) : fL_ → List Value → zW → Prop := fun lg vs A' => ∃ t : Int32, f_sub [(3, false, .int t), (2, false, .int (zcw A set t.toInt.toNat)), (0, false, .ref 193), (1, false, .int set)] lg ∧ vs = [] ∧ A' = A ∧ 0 ≤ t.toInt ∧ t.toInt ≤ n.toInt
set_option maxRecDepth 20000 in
set_option maxHeartbeats 8000000 in
theorem za_X2_weigh : zdo r_X2_weigh zq_weigh := by
  refine zdo_pu [(204, 2, zq_entryAt), (271, 1, q_isSource)] (fun a A => [(4, in_zwg A a.1 a.2)]) 60 fo_X2 rfl (zs_cons rfl za_X2_entryAt (zs_cons rfl za_X11_isSource zs_nil)) k_X2_weigh (fun a A hp => ?_) (fun a A hp => ?_)
  · obtain ⟨set, n⟩ := a
    obtain ⟨⟨hn, n0, n1⟩, hE⟩ := hp
    have hn : zF A 193 1 = .int n := hn
    have n1 : n.toInt ≤ 12 := n1
    have hE : ∀ e : Nat, (e : Int) < n.toInt → ∃ (j : Nat) (u : Int32), zR A 195 e = .ref j ∧ 385 ≤ j ∧ (zK A j).1 = 4 ∧ zF A j 2 = .int u ∧ 0 ≤ u.toInt ∧ u.toInt < 6 := hE
    refine List.forall_mem_cons.mpr ⟨?_, fun _ h => absurd h List.not_mem_nil⟩
    rintro lg vs A' ⟨t, hs, rfl, rfl, t0, t1⟩
    have t1 : t.toInt ≤ n.toInt := t1
    refine ⟨_, 60, hs, fun h => ?_, fun h => ?_⟩
    · have h : (iv (zF A' 193 1)).toInt ≤ t.toInt := h
      rw [hn] at h
      have h : n.toInt ≤ t.toInt := h
      refine ⟨?_, rfl⟩
      show some (Value.int (zcw A' set t.toInt.toNat)) = some (.int (zcw A' set n.toInt.toNat))
      rw [show t.toInt.toNat = n.toInt.toNat by omega]
    · have h : ¬ (iv (zF A' 193 1)).toInt ≤ t.toInt := h
      rw [hn] at h
      have h : ¬ n.toInt ≤ t.toInt := h
      have hi := i_inc t0 (by omega)
      have i3 : (t + 1).toInt.toNat = t.toInt.toNat + 1 := by omega
      have et : t = Int32.ofNat t.toInt.toNat := n32_of (by omega)
      obtain ⟨j, u, g1, g2, g3, g4, u0, u1⟩ := hE t.toInt.toNat (by omega)
      have ez : zat n t (zR A' 195 t.toInt.toNat) = .ref j := by
        unfold zat
        rw [if_pos ⟨t0, by omega⟩, g1]
      have eb : (set >>> (t &&& 31) &&& Int32.ofInt 1).toInt = if zbi set t.toInt.toNat = true then 1 else 0 := by
        rw [et, zbt_c (e := t.toInt.toNat) (by omega)]
        rw [← et]
      have ef : zfl A' (rv_ (zat n t (zR A' 195 t.toInt.toNat))) (kfd fl_X2 87 (zkd A' (rv_ (zat n t (zR A' 195 t.toInt.toNat))))) = .int u := by
        rw [ez]
        show zfl A' j (kfd fl_X2 87 (zkd A' j)) = _
        rw [zkd_d g2, g3, zfl_d g2]
        exact g4
      have es : zsr A' t.toInt.toNat = u := by
        unfold zsr
        rw [g1]
        show iv (zF A' j 2) = u
        rw [g4]
        rfl
      have e1 : (Int32.ofInt 1).toInt = 1 := by decide
      refine ⟨(t, n), rfl, ⟨hn, n0, n1⟩, fun h2 => ?_, fun h2 => ⟨fun h3 => ?_, fun h3 => ⟨u, ?_, trivial, fun h4 => ?_, fun h4 => ?_⟩⟩⟩
      · have h2 : ¬ (set >>> (t &&& 31) &&& Int32.ofInt 1).toInt = (Int32.ofInt 1).toInt := h2
        rw [eb, e1] at h2
        have hb : ¬ zbi set t.toInt.toNat = true := fun z => h2 (if_pos z)
        refine ⟨t + 1, ⟨rfl, ?_, rfl, rfl, trivial⟩, rfl, rfl, (show 0 ≤ (t + 1).toInt by omega), (show (t + 1).toInt ≤ n.toInt by omega)⟩
        rw [i3]
        show some (false, Value.int (zcw A' set t.toInt.toNat)) = some (false, .int (if zbi set t.toInt.toNat = true then zcw A' set t.toInt.toNat + zI A' 194 (zsr A' t.toInt.toNat).toInt.toNat else zcw A' set t.toInt.toNat))
        rw [if_neg hb]
      · have h3 : zat n t (zR A' 195 t.toInt.toNat) = .null := h3
        rw [ez] at h3
        cases h3
      · show [zfl A' (rv_ (zat n t (zR A' 195 t.toInt.toNat))) (kfd fl_X2 87 (zkd A' (rv_ (zat n t (zR A' 195 t.toInt.toNat)))))] = [.int u]
        rw [ef]
      · exact absurd ⟨u0, u1⟩ (zb_n h4)
      · have h2 : ¬ ¬ (set >>> (t &&& 31) &&& Int32.ofInt 1).toInt = (Int32.ofInt 1).toInt := h2
        rw [eb, e1] at h2
        have hb : zbi set t.toInt.toNat = true := by
          cases z : zbi set t.toInt.toNat with
          | true => rfl
          | false =>
            rw [z] at h2
            exact absurd (fun y => absurd y (by decide)) h2
        refine ⟨t + 1, ⟨rfl, ?_, rfl, rfl, trivial⟩, rfl, rfl, (show 0 ≤ (t + 1).toInt by omega), (show (t + 1).toInt ≤ n.toInt by omega)⟩
        rw [i3]
        show some (false, Value.int (zcw A' set t.toInt.toNat + zI A' 194 (iv (zfl A' (rv_ (zat n t (zR A' 195 t.toInt.toNat))) (kfd fl_X2 87 (zkd A' (rv_ (zat n t (zR A' 195 t.toInt.toNat))))))).toInt.toNat)) = some (false, .int (if zbi set t.toInt.toNat = true then zcw A' set t.toInt.toNat + zI A' 194 (zsr A' t.toInt.toNat).toInt.toNat else zcw A' set t.toInt.toNat))
        rw [if_pos hb, ef, es]
        rfl
  · obtain ⟨set, n⟩ := a
    obtain ⟨⟨hn, n0, n1⟩, hE⟩ := hp
    exact ⟨0, ⟨rfl, rfl, rfl, rfl, trivial⟩, rfl, rfl, by decide, n0⟩
/-- sets of entries -/
def zsO (set n : Int32) : Prop := 0 ≤ set.toInt ∧ set.toInt < ((2 ^ n.toInt.toNat : Nat) : Int)
theorem zsO_d (set n : Int32) : zsO set n ↔ (0 ≤ set.toInt ∧ set.toInt < ((2 ^ n.toInt.toNat : Nat) : Int)) := Iff.rfl
def zq_areEntries : zQ := zpu (fun a : Int32 × Int32 => [.ref 193, .int a.1]) (fun a A => zcE A a.2) (fun a _ => .int (zb (decide (0 ≤ a.1.toInt ∧ a.1.toInt < ((2 ^ a.2.toInt.toNat : Nat) : Int)))))
set_option maxRecDepth 20000 in
theorem za_X2_areEntries : zdo r_X2_areEntries zq_areEntries := by
  refine zdo_pu [] (fun _ _ => []) 60 fo_X2 rfl zs_nil k_X2_areEntries (fun _ _ _ => no_zh) (fun a A hp => ?_)
  obtain ⟨set, n⟩ := a
  obtain ⟨hn, n0, n1⟩ := hp
  have hn : zF A 193 1 = .int n := hn
  have n0 : 0 ≤ n.toInt := n0
  have n1 : n.toInt ≤ 12 := n1
  have en : n = Int32.ofNat n.toInt.toNat := n32_of (by omega)
  have key := zes_c (x := set) (n := n.toInt.toNat) (by omega)
  rw [← en] at key
  refine ⟨fun h => ?_, fun h => ?_⟩
  · have h : ¬ (set &&& (((Int32.ofInt 1 <<< (iv (zF A 193 1) &&& 31)) - Int32.ofInt 1) ^^^ Int32.ofInt (-1))).toInt = 0 := h
    rw [hn] at h
    have h : ¬ (set &&& (((Int32.ofInt 1 <<< (n &&& 31)) - Int32.ofInt 1) ^^^ Int32.ofInt (-1))).toInt = 0 := h
    exact ⟨zbf (fun z => h (key.mpr z)), rfl⟩
  · have h : ¬ ¬ (set &&& (((Int32.ofInt 1 <<< (iv (zF A 193 1) &&& 31)) - Int32.ofInt 1) ^^^ Int32.ofInt (-1))).toInt = 0 := h
    rw [hn] at h
    have h : ¬ ¬ (set &&& (((Int32.ofInt 1 <<< (n &&& 31)) - Int32.ofInt 1) ^^^ Int32.ofInt (-1))).toInt = 0 := h
    exact ⟨zbt (key.mp (Classical.not_not.mp h)), rfl⟩
def zwtV (set n v : Int32) : Int32 := if 0 ≤ set.toInt ∧ set.toInt < ((2 ^ n.toInt.toNat : Nat) : Int) then v else -2
def zq_weight : zQ := zpu (fun a : Int32 × Int32 => [.ref 0, .int a.1]) (fun a A => zeS A a.2) (fun a A => .int (zwtV a.1 a.2 (zcw A a.1 a.2.toInt.toNat)))
set_option maxRecDepth 20000 in
theorem za_X11_weight : zdo r_X11_weight zq_weight := by
  refine zdo_pu [(699, 2, zq_areEntries), (708, 2, zq_weigh)] (fun _ _ => []) 60 fo_X11 rfl (zs_cons rfl za_X2_areEntries (zs_cons rfl za_X2_weigh zs_nil)) k_X11_weight (fun _ _ _ => no_zh) (fun a A hp => ?_)
  obtain ⟨set, n⟩ := a
  refine ⟨(set, n), rfl, hp.1, fun h => ?_, fun h => ⟨(set, n), rfl, hp, ?_⟩⟩
  · have h := zb_n h
    refine ⟨?_, rfl⟩
    show some (Value.int (-2)) = some (.int (zwtV set n _))
    unfold zwtV
    rw [if_neg h]
  · have h := zb_y h
    refine ⟨?_, rfl⟩
    show some (Value.int (zcw A set n.toInt.toNat)) = some (.int (zwtV set n _))
    unfold zwtV
    rw [if_pos h]
/-- the reference's -/
def zq_weightOf : zQ := zpu (fun a : Int32 × Int32 => [.ref 343, .int a.1]) (fun a A => zF A 343 8 = .int a.2 ∧ 0 ≤ a.2.toInt ∧ a.2.toInt ≤ 12) (fun a A => .int (zmw A a.1 a.2.toInt.toNat))
def in_zmw (A : zW) (set n : Int32) : fL_ → List Value → zW → Prop := fun lg vs A' => ∃ t : Int32, f_sub [(3, false, .int t), (2, false, .int (zmw A set t.toInt.toNat)), (0, false, .ref 343), (1, false, .int set)] lg ∧ vs = [] ∧ A' = A ∧ 0 ≤ t.toInt ∧ t.toInt ≤ n.toInt
set_option maxRecDepth 20000 in
set_option maxHeartbeats 8000000 in
theorem za_X12_weightOf : zdo r_X12_weightOf zq_weightOf := by
  refine zdo_pu [(475, 2, zq_hasBit)] (fun a A => [(4, in_zmw A a.1 a.2)]) 60 fo_X12 rfl (zs_cons rfl za_X12_hasBit zs_nil) k_X12_weightOf (fun a A hp => ?_) (fun a A hp => ?_)
  · obtain ⟨set, n⟩ := a
    obtain ⟨hn, n0, n1⟩ := hp
    have hn : zF A 343 8 = .int n := hn
    have n1 : n.toInt ≤ 12 := n1
    refine List.forall_mem_cons.mpr ⟨?_, fun _ h => absurd h List.not_mem_nil⟩
    rintro lg vs A' ⟨t, hs, rfl, rfl, t0, t1⟩
    have t1 : t.toInt ≤ n.toInt := t1
    refine ⟨_, 60, hs, fun h => ?_, fun h => ?_⟩
    · have h : (iv (zF A' 343 8)).toInt ≤ t.toInt := h
      rw [hn] at h
      have h : n.toInt ≤ t.toInt := h
      refine ⟨?_, rfl⟩
      show some (Value.int (zmw A' set t.toInt.toNat)) = some (.int (zmw A' set n.toInt.toNat))
      rw [show t.toInt.toNat = n.toInt.toNat by omega]
    · have h : ¬ (iv (zF A' 343 8)).toInt ≤ t.toInt := h
      rw [hn] at h
      have h : ¬ n.toInt ≤ t.toInt := h
      have hi := i_inc t0 (by omega)
      have i3 : (t + 1).toInt.toNat = t.toInt.toNat + 1 := by omega
      have et : t = Int32.ofNat t.toInt.toNat := n32_of (by omega)
      have eb : hbB set.toInt64 t = zbi set t.toInt.toNat := by
        rw [et, zbt_m (e := t.toInt.toNat) (by omega)]
        rw [← et]
      refine ⟨(set.toInt64, t), rfl, trivial, fun h2 => ?_, fun h2 => ?_⟩
      · have h2 : (zb (hbB set.toInt64 t)).toInt = 0 := h2
        have hb := zb_f h2
        rw [eb] at hb
        refine ⟨t + 1, ⟨rfl, ?_, rfl, rfl, trivial⟩, rfl, rfl, (show 0 ≤ (t + 1).toInt by omega), (show (t + 1).toInt ≤ n.toInt by omega)⟩
        rw [i3]
        show some (false, Value.int (zmw A' set t.toInt.toNat + 0)) = some (false, .int (zmw A' set t.toInt.toNat + (if zbi set t.toInt.toNat = true then zI A' 345 (zI A' 349 t.toInt.toNat).toInt.toNat else 0)))
        rw [if_neg (by rw [hb]; exact Bool.false_ne_true)]
      · have h2 : ¬ (zb (hbB set.toInt64 t)).toInt = 0 := h2
        have hb := zb_t h2
        rw [eb] at hb
        refine ⟨t + 1, ⟨rfl, ?_, rfl, rfl, trivial⟩, rfl, rfl, (show 0 ≤ (t + 1).toInt by omega), (show (t + 1).toInt ≤ n.toInt by omega)⟩
        rw [i3]
        show some (false, Value.int (zmw A' set t.toInt.toNat + zI A' 345 (zI A' 349 t.toInt.toNat).toInt.toNat)) = some (false, .int (zmw A' set t.toInt.toNat + (if zbi set t.toInt.toNat = true then zI A' 345 (zI A' 349 t.toInt.toNat).toInt.toNat else 0)))
        rw [if_pos hb]
  · obtain ⟨set, n⟩ := a
    obtain ⟨hn, n0, n1⟩ := hp
    exact ⟨0, ⟨rfl, rfl, rfl, rfl, trivial⟩, rfl, rfl, by decide, n0⟩
def zq_isEntrySet : zQ := zpu (fun a : Int32 × Int32 => [.ref 343, .int a.1]) (fun a A => zF A 343 8 = .int a.2 ∧ 0 ≤ a.2.toInt ∧ a.2.toInt ≤ 12) (fun a _ => .int (zb (decide (0 ≤ a.1.toInt ∧ a.1.toInt < ((2 ^ a.2.toInt.toNat : Nat) : Int)))))
set_option maxRecDepth 20000 in
theorem za_X12_isEntrySet : zdo r_X12_isEntrySet zq_isEntrySet := by
  refine zdo_pu [(457, 3, zq_in)] (fun _ _ => []) 60 fo_X12 rfl (zs_cons rfl za_X12_in zs_nil) k_X12_isEntrySet (fun _ _ _ => no_zh) (fun a A hp => ?_)
  obtain ⟨set, n⟩ := a
  obtain ⟨hn, n0, n1⟩ := hp
  have hn : zF A 343 8 = .int n := hn
  have n0 : 0 ≤ n.toInt := n0
  have n1 : n.toInt ≤ 12 := n1
  have en : n = Int32.ofNat n.toInt.toNat := n32_of (by omega)
  have key := (zes_p n.toInt.toNat (by omega)).2
  rw [← en] at key
  have e0 := ze0
  have e1 := ze1
  have es := Int32.toInt_toInt64 set
  have hp2 : 2 ^ n.toInt.toNat ≤ 4096 := by
    have : ∀ n, n < 13 → 2 ^ n ≤ 4096 := by decide
    exact this _ (by omega)
  have ed : ((Int64.ofNat 1 <<< ((iv (zF A 343 8)).toInt64 &&& 63)) - Int64.ofNat 1).toInt = ((2 ^ n.toInt.toNat : Nat) : Int) - 1 := by
    rw [hn]
    show ((Int64.ofNat 1 <<< (n.toInt64 &&& 63)) - Int64.ofNat 1).toInt = _
    rw [Int64.toInt_sub, key, e1]
    generalize 2 ^ n.toInt.toNat = w at hp2
    exact Int.bmod_eq_of_le (by omega) (by omega)
  refine ⟨(set.toInt64, Int64.ofNat 0, (Int64.ofNat 1 <<< ((iv (zF A 343 8)).toInt64 &&& 63)) - Int64.ofNat 1), rfl, trivial, ?_, rfl⟩
  show some (Value.int (zb (decide ((Int64.ofNat 0).toInt ≤ set.toInt64.toInt ∧ set.toInt64.toInt ≤ ((Int64.ofNat 1 <<< ((iv (zF A 343 8)).toInt64 &&& 63)) - Int64.ofNat 1).toInt)))) = some (.int (zb (decide (0 ≤ set.toInt ∧ set.toInt < ((2 ^ n.toInt.toNat : Nat) : Int)))))
  rw [ed, es, e0]
  by_cases h : 0 ≤ set.toInt ∧ set.toInt < ((2 ^ n.toInt.toNat : Nat) : Int)
  · rw [decide_eq_true h, decide_eq_true ⟨h.1, by omega⟩]
  · rw [decide_eq_false h, decide_eq_false (fun z => h ⟨z.1, by omega⟩)]
def zq_weightM : zQ := zpu (fun a : Int32 × Int32 => [.ref 343, .int a.1]) (fun a A => zF A 343 8 = .int a.2 ∧ 0 ≤ a.2.toInt ∧ a.2.toInt ≤ 12) (fun a A => .int (zwtV a.1 a.2 (zmw A a.1 a.2.toInt.toNat)))
set_option maxRecDepth 20000 in
theorem za_X12_weight : zdo r_X12_weight zq_weightM := by
  refine zdo_pu [(951, 2, zq_isEntrySet), (897, 2, zq_weightOf)] (fun _ _ => []) 60 fo_X12 rfl (zs_cons rfl za_X12_isEntrySet (zs_cons rfl za_X12_weightOf zs_nil)) k_X12_weight (fun _ _ _ => no_zh) (fun a A hp => ?_)
  obtain ⟨set, n⟩ := a
  refine ⟨(set, n), rfl, hp, fun h => ?_, fun h => ⟨(set, n), rfl, hp, ?_⟩⟩
  · have h := zb_n h
    refine ⟨?_, rfl⟩
    show some (Value.int (-2)) = some (.int (zwtV set n _))
    unfold zwtV
    rw [if_neg h]
  · have h := zb_y h
    refine ⟨?_, rfl⟩
    show some (Value.int (zmw A set n.toInt.toNat)) = some (.int (zwtV set n _))
    unfold zwtV
    rw [if_pos h]
end
section
/-! what both sides have alike of entries, rules, claims, holds, the view, trusts, the trail -/
theorem zrun {r : fR} {P : zQ} (h : zdo r P) {As : List Value} {w w' : lW} {rv : Option Value} (hx : fLr r As w rv w') {A : zW} {Us : List Value} {K : Option Value → zW → Prop} (hA : zA A w.1 w.2) (hv : zvs w.1 As Us) (hP : P Us A K) : ∃ (A' : zW) (u : Option Value), zA A' w'.1 w'.2 ∧ zvs w'.1 rv.toList u.toList ∧ K u A' := (h As w.1 w.2 rv w'.1 w'.2 hx).2 A Us K hA hv hP
theorem zvB {B : Nat → Nat} {w : lW} (hb : bI B w) {q : Nat} (hq : q < 385) : zvr w.1 (.ref (B q)) (.ref q) := by
  obtain ⟨c, hc⟩ := lp_L2_at hq
  obtain ⟨e, h1, -⟩ := hb.2.2 q c hc
  exact ⟨B q, e, rfl, h1⟩
theorem zv_int {ws : va_W} {rv u : Option Value} {v : Int32} (h : zvs ws rv.toList u.toList) (hu : u = some (.int v)) : rv = some (.int v) := by
  subst hu
  cases rv with
  | none => exact h.elim
  | some x =>
    have h1 : x = .int v := h.1
    rw [h1]
/-- a number in an object's field -/
theorem zo_F {B : Nat → Nat} {w : lW} {A : zW} {q ci k : Nat} {x : Int32} (hA : zA A w.1 w.2) (hb : bI B w) (hq : q < 385) (hz : zc q k = 0) (ho : oF B q ci k (.int x) w) : zF A q k = .int x := by
  obtain ⟨c, hc⟩ := lp_L2_at hq
  obtain ⟨e, h1, h2, -⟩ := hb.2.h hb.1 hc
  obtain ⟨fs, g1, g2, g3⟩ := ho
  rw [h2] at g1
  have g1 := Option.some.inj g1
  subst g1
  have h3 := (hA.2.2 q _ _ h1).2.2 k (.int x) (by
    show fs[k]? = _
    rw [List.getD_eq_getElem?_getD, List.getElem?_eq_getElem g2] at g3
    rw [List.getElem?_eq_getElem g2]
    exact congrArg some g3)
  have h4 := h3.int
  unfold zfl at h4
  rw [zcr_z hz] at h4
  exact h4
theorem nw_of {S Wr : List (Nat × Nat)} (h : S.all (fun x => !(Wr.contains x)) = true) {t k : Nat} (hm : (t, k) ∈ S) : zwr Wr t k = false := by
  cases hb : zwr Wr t k with
  | false => rfl
  | true =>
    have h1 := List.all_eq_true.mp h _ hm
    rw [List.contains_iff_mem.mpr (zwr_t.mp hb)] at h1
    cases h1
theorem zhv_bF {Wr : List (Nat × Nat)} {A X : zW} {q k : Nat} (hq : q < 385) (h : zwr Wr (zn lp_sh q) k = false) : zF (zhv Wr A X) q k = zF A q k := by
  show (bif zold A q && !(zwr Wr (zty A q) k) then zF A q k else zF X q k) = _
  rw [zold_b hq]
  unfold zty
  rw [nltT hq]
  show (bif true && !(zwr Wr (zn lp_sh q) k) then zF A q k else zF X q k) = _
  rw [h]
  rfl
theorem zhv_bI {Wr : List (Nat × Nat)} {A X : zW} {q k : Nat} (hq : q < 385) (h : zwr Wr (zn lp_sh q) 0 = false) : zI (zhv Wr A X) q k = zI A q k := by
  show (bif zold A q && !(zwr Wr (zty A q) 0) then zI A q k else zI X q k) = _
  rw [zold_b hq]
  unfold zty
  rw [nltT hq]
  show (bif true && !(zwr Wr (zn lp_sh q) 0) then zI A q k else zI X q k) = _
  rw [h]
  rfl
theorem zhv_bR {Wr : List (Nat × Nat)} {A X : zW} {q k : Nat} (hq : q < 385) (h : zwr Wr (zn lp_sh q) 0 = false) : zR (zhv Wr A X) q k = zR A q k := by
  show (bif zold A q && !(zwr Wr (zty A q) 0) then zR A q k else zR X q k) = _
  rw [zold_b hq]
  unfold zty
  rw [nltT hq]
  show (bif true && !(zwr Wr (zn lp_sh q) 0) then zR A q k else zR X q k) = _
  rw [h]
  rfl
theorem zhv_dF {Wr : List (Nat × Nat)} {A X : zW} {j k t ci : Nat} (h1 : 385 ≤ j) (h2 : j < zN A) (hK : zK A j = (ci, t)) (h : zwr Wr t k = false) : zF (zhv Wr A X) j k = zF A j k := by
  show (bif zold A j && !(zwr Wr (zty A j) k) then zF A j k else zF X j k) = _
  rw [zold_t h2, zty_d h1, hK, h]
  rfl
theorem zhv_dK {Wr : List (Nat × Nat)} {A X : zW} {j : Nat} (h2 : j < zN A) : zK (zhv Wr A X) j = zK A j := by
  show (bif zold A j then zK A j else zK X j) = _
  rw [zold_t h2]
  rfl
/-- an entry -/
def jent (A : zW) (e : Nat) : Prop := ∃ j : Nat, zR A 195 e = .ref j ∧ (385 ≤ j ∧ j < zN A ∧ zK A j = (4, 7)) ∧ zF A j 0 = .int (Int32.ofNat e) ∧ zF A j 1 = .int (zI A 348 e) ∧ zF A j 2 = .int (zI A 349 e) ∧ zF A j 3 = .int (zI A 350 e) ∧ zF A j 4 = .int (zI A 351 e) ∧ zF A j 5 = .int (zI A 352 e) ∧ 0 ≤ (zI A 349 e).toInt ∧ (zI A 349 e).toInt < 6
def jE (A : zW) (n : Int32) : Prop := zcE A n ∧ zF A 343 8 = .int n ∧ ∀ e : Nat, (e : Int) < n.toInt → jent A e
/-- a rule -/
def jrul (A : zW) (r : Nat) : Prop := ∃ j : Nat, zR A 210 r = .ref j ∧ (j < zN A ∧ 0 ≤ (zI A 357 r).toInt ∧ (zI A 357 r).toInt ≤ 2) ∧ zgR A j (zI A 357 r) (Int32.ofNat r) (zI A 359 r) (zI A 360 r) ∧ zF A j (kpd pI_X8 7 (zkC (zI A 357 r))) = .int (zI A 358 r) ∧ zF A j (kpd pI_X8 19 (zkC (zI A 357 r))) = .int (zI A 361 r)
def jR (A : zW) (m : Int32) : Prop := zcR A m ∧ zF A 343 27 = .int m ∧ ∀ r : Nat, (r : Int) < m.toInt → jrul A r
def jC (A : zW) (q : Int32) : Prop := zcC A q ∧ zF A 343 40 = .int q ∧ ∀ k : Nat, (k : Int) < q.toInt → zI A 283 k = zI A 366 k ∧ zI A 284 k = zI A 367 k
def jT (A : zW) : Prop := ∀ i, i < 6 → zI A 194 i = zI A 345 i
def jV (A : zW) : Prop := ∃ t k : Int32, zF A 193 2 = .int t ∧ zF A 343 15 = .int t ∧ zF A 193 3 = .int k ∧ zF A 343 16 = .int k
def jhd (A : zW) (n m : Int32) (k : Nat) : Prop := ((zI A 379 k).toInt < 0 ∧ zR A 334 k = .null) ∨ ((zI A 379 k).toInt = 0 ∧ (0 ≤ (zI A 380 k).toInt ∧ (zI A 380 k).toInt < n.toInt) ∧ zR A 334 k = zR A 195 (zI A 380 k).toInt.toNat) ∨ ((zI A 379 k).toInt = 1 ∧ (0 ≤ (zI A 380 k).toInt ∧ (zI A 380 k).toInt < m.toInt) ∧ zR A 334 k = zR A 210 (zI A 380 k).toInt.toNat)
def jH (A : zW) (n m : Int32) : Prop := ∀ k, k < 6 → jhd A n m k
def jL (A : zW) : Prop := zF A 343 63 = .int (zI A 342 0)
def S_E : List (Nat × Nat) := [(13, 1), (17, 8), (28, 0), (49, 0), (50, 0), (51, 0), (52, 0), (53, 0), (7, 0), (7, 1), (7, 2), (7, 3), (7, 4), (7, 5)]
def S_R : List (Nat × Nat) := [(14, 1), (17, 27), (30, 0), (58, 0), (59, 0), (60, 0), (61, 0), (62, 0), (8, 0), (8, 1), (8, 2), (8, 3), (8, 4), (9, 0), (9, 1), (9, 2), (9, 3), (9, 4), (10, 0), (10, 1), (10, 2), (10, 3), (10, 4)]
def S_C : List (Nat × Nat) := [(15, 0), (17, 40), (34, 0), (38, 0), (67, 0), (68, 0)]
def S_T : List (Nat × Nat) := [(27, 0), (46, 0)]
def S_V : List (Nat × Nat) := [(13, 2), (13, 3), (17, 15), (17, 16)]
def S_H : List (Nat × Nat) := [(80, 0), (81, 0), (19, 0), (28, 0), (30, 0)]
def S_L : List (Nat × Nat) := [(24, 0), (17, 63)]
def nW (S Wr : List (Nat × Nat)) : Bool := S.all (fun x => !(Wr.contains x))
theorem jrul_t {kd : Int32} {k : Nat} (hd : 0 ≤ kd.toInt ∧ kd.toInt ≤ 2) (hk : k < 5) : (zkY kd, k) ∈ S_R := by
  have h : zkY kd = 8 ∨ zkY kd = 9 ∨ zkY kd = 10 := by
    unfold zkY
    split
    · exact Or.inl rfl
    · split
      · exact Or.inr (Or.inl rfl)
      · exact Or.inr (Or.inr rfl)
  have h2 : k = 0 ∨ k = 1 ∨ k = 2 ∨ k = 3 ∨ k = 4 := by omega
  rcases h with h | h | h <;> rw [h] <;> rcases h2 with rfl | rfl | rfl | rfl | rfl <;> decide
theorem jrul_k {kd : Int32} (hd : 0 ≤ kd.toInt ∧ kd.toInt ≤ 2) : kpd pI_X10 7 (zkC kd) < 5 ∧ kpd pI_X8 7 (zkC kd) < 5 ∧ kpd pI_X8 13 (zkC kd) < 5 ∧ kpd pI_X8 16 (zkC kd) < 5 ∧ kpd pI_X8 19 (zkC kd) < 5 := by
  rcases zkS_k hd with z | z | z <;> rw [z] <;> decide
section
variable {A A' : zW} {n n' m m' q : Int32}
theorem jE.tr (h : jE A n) (h1 : zF A' 193 1 = zF A 193 1) (h2 : zF A' 343 8 = zF A 343 8) (h3 : ∀ e, zR A' 195 e = zR A 195 e) (h4 : ∀ i e, 348 ≤ i → i ≤ 352 → zI A' i e = zI A i e) (hN : zN A ≤ zN A') (hd : ∀ j, 385 ≤ j → j < zN A → zK A j = (4, 7) → zK A' j = zK A j ∧ ∀ k, k < 6 → zF A' j k = zF A j k) : jE A' n := by
  obtain ⟨⟨a1, a2⟩, a3, a4⟩ := h
  refine ⟨⟨h1.trans a1, a2⟩, h2.trans a3, fun e he => ?_⟩
  obtain ⟨j, b0, ⟨b1, b2, b3⟩, c0, c1, c2, c3, c4, c5, c6⟩ := a4 e he
  obtain ⟨d1, d2⟩ := hd j b1 b2 b3
  refine ⟨j, (h3 e).trans b0, ⟨b1, by omega, d1.trans b3⟩, ?_, ?_, ?_, ?_, ?_, ?_, ?_⟩
  · rw [d2 0 (by omega)]; exact c0
  · rw [d2 1 (by omega), h4 348 e (by omega) (by omega)]; exact c1
  · rw [d2 2 (by omega), h4 349 e (by omega) (by omega)]; exact c2
  · rw [d2 3 (by omega), h4 350 e (by omega) (by omega)]; exact c3
  · rw [d2 4 (by omega), h4 351 e (by omega) (by omega)]; exact c4
  · rw [d2 5 (by omega), h4 352 e (by omega) (by omega)]; exact c5
  · rw [h4 349 e (by omega) (by omega)]; exact c6
theorem jR.tr (h : jR A m) (h1 : zF A' 207 1 = zF A 207 1) (h2 : zF A' 343 27 = zF A 343 27) (h3 : ∀ e, zR A' 210 e = zR A 210 e) (h4 : ∀ i e, 357 ≤ i → i ≤ 361 → zI A' i e = zI A i e) (hN : zN A ≤ zN A') (hd : ∀ (j : Nat) (kd : Int32), 385 ≤ j → j < zN A → (0 ≤ kd.toInt ∧ kd.toInt ≤ 2) → zK A j = (zkC kd, zkY kd) → zK A' j = zK A j ∧ ∀ k, k < 5 → zF A' j k = zF A j k) : jR A' m := by
  obtain ⟨⟨a1, a2⟩, a3, a4⟩ := h
  refine ⟨⟨h1.trans a1, a2⟩, h2.trans a3, fun r hr => ?_⟩
  obtain ⟨j, b0, ⟨b1, b2⟩, ⟨c1, c2, c3, c4, c5⟩, c6, c7⟩ := a4 r hr
  obtain ⟨d1, d2⟩ := hd j _ c1 b1 b2 c2
  obtain ⟨k1, k2, k3, k4, k5⟩ := jrul_k b2
  have i7 := h4 357 r (by omega) (by omega)
  have i8 := h4 358 r (by omega) (by omega)
  have i9 := h4 359 r (by omega) (by omega)
  have i10 := h4 360 r (by omega) (by omega)
  have i11 := h4 361 r (by omega) (by omega)
  refine ⟨j, (h3 r).trans b0, ⟨by omega, by rw [i7]; exact b2⟩, ⟨c1, ?_, ?_, ?_, ?_⟩, ?_, ?_⟩
  · rw [d1, i7]; exact c2
  · rw [i7, d2 _ (by omega)]; exact c3
  · rw [i7, i9, d2 _ (by omega)]; exact c4
  · rw [i7, i10, d2 _ (by omega)]; exact c5
  · rw [i7, i8, d2 _ (by omega)]; exact c6
  · rw [i7, i11, d2 _ (by omega)]; exact c7
theorem jC.tr (h : jC A q) (h1 : zF A' 282 0 = zF A 282 0) (h2 : zF A' 343 40 = zF A 343 40) (h3 : ∀ k, zI A' 283 k = zI A 283 k) (h4 : ∀ k, zI A' 366 k = zI A 366 k) (h5 : ∀ k, zI A' 284 k = zI A 284 k) (h6 : ∀ k, zI A' 367 k = zI A 367 k) : jC A' q := by
  obtain ⟨⟨a1, a2⟩, a3, a4⟩ := h
  refine ⟨⟨h1.trans a1, a2⟩, h2.trans a3, fun k hk => ?_⟩
  rw [h3, h4, h5, h6]
  exact a4 k hk
theorem jT.tr (h : jT A) (h1 : ∀ k, zI A' 194 k = zI A 194 k) (h2 : ∀ k, zI A' 345 k = zI A 345 k) : jT A' := fun i hi => by
  rw [h1, h2]
  exact h i hi
theorem jV.tr (h : jV A) (h1 : zF A' 193 2 = zF A 193 2) (h2 : zF A' 343 15 = zF A 343 15) (h3 : zF A' 193 3 = zF A 193 3) (h4 : zF A' 343 16 = zF A 343 16) : jV A' := by
  obtain ⟨t, k, a1, a2, a3, a4⟩ := h
  exact ⟨t, k, h1.trans a1, h2.trans a2, h3.trans a3, h4.trans a4⟩
theorem jH.tr (h : jH A n m) (hn : n.toInt ≤ n'.toInt) (hm : m.toInt ≤ m'.toInt) (h1 : ∀ k, zI A' 379 k = zI A 379 k) (h2 : ∀ k, zI A' 380 k = zI A 380 k) (h3 : ∀ k, zR A' 334 k = zR A 334 k) (h4 : ∀ e : Nat, (e : Int) < n.toInt → zR A' 195 e = zR A 195 e) (h5 : ∀ e : Nat, (e : Int) < m.toInt → zR A' 210 e = zR A 210 e) : jH A' n' m' := fun k hk => by
  unfold jhd
  rw [h1, h2, h3]
  rcases h k hk with a | ⟨a, b, c⟩ | ⟨a, b, c⟩
  · exact Or.inl a
  · exact Or.inr (Or.inl ⟨a, ⟨b.1, by omega⟩, by rw [h4 _ (by omega)]; exact c⟩)
  · exact Or.inr (Or.inr ⟨a, ⟨b.1, by omega⟩, by rw [h5 _ (by omega)]; exact c⟩)
theorem jL.tr (h : jL A) (h1 : zF A' 343 63 = zF A 343 63) (h2 : zI A' 342 0 = zI A 342 0) : jL A' := by
  show zF A' 343 63 = .int (zI A' 342 0)
  rw [h1, h2]
  exact h
end
def jx (A : zW) : Prop := ∃ n m q : Int32, jE A n ∧ jR A m ∧ jC A q ∧ jT A ∧ jV A ∧ jH A n m ∧ jL A
def S_X : List (Nat × Nat) := S_E ++ S_R ++ S_C ++ S_T ++ S_V ++ S_H ++ S_L
/-- alike in all of it -/
def agr (A' A : zW) : Prop := (∀ q i, q < 385 → (zn lp_sh q, i) ∈ S_X → zF A' q i = zF A q i) ∧ (∀ q i, q < 385 → (zn lp_sh q, 0) ∈ S_X → zI A' q i = zI A q i ∧ zR A' q i = zR A q i) ∧ zN A ≤ zN A' ∧ ∀ j ci ty, 385 ≤ j → j < zN A → zK A j = (ci, ty) → zK A' j = (ci, ty) ∧ ∀ i, (ty, i) ∈ S_X → zF A' j i = zF A j i
theorem agr.rf {A : zW} : agr A A := ⟨fun _ _ _ _ => rfl, fun _ _ _ _ => ⟨rfl, rfl⟩, Nat.le_refl _, fun _ _ _ _ _ h => ⟨h, fun _ _ => rfl⟩⟩
theorem agr.tr {A B C : zW} (h1 : agr B A) (h2 : agr C B) : agr C A := by
  obtain ⟨a1, a2, a3, a4⟩ := h1
  obtain ⟨b1, b2, b3, b4⟩ := h2
  refine ⟨fun q i hq hm => (b1 q i hq hm).trans (a1 q i hq hm), fun q i hq hm => ⟨(b2 q i hq hm).1.trans (a2 q i hq hm).1, (b2 q i hq hm).2.trans (a2 q i hq hm).2⟩, by omega, fun j ci ty hj hl hK => ?_⟩
  obtain ⟨c1, c2⟩ := a4 j ci ty hj hl hK
  obtain ⟨d1, d2⟩ := b4 j ci ty hj (by omega) c1
  exact ⟨d1, fun i hm => (d2 i hm).trans (c2 i hm)⟩
theorem agr.hv {A X : zW} {Wr : List (Nat × Nat)} (hw : nW S_X Wr = true) (hN : zN A ≤ zN X) : agr (zhv Wr A X) A :=
  ⟨fun _ _ hq hm => zhv_bF hq (nw_of hw hm), fun _ _ hq hm => ⟨zhv_bI hq (nw_of hw hm), zhv_bR hq (nw_of hw hm)⟩, hN, fun _ _ _ hj hl hK => ⟨(zhv_dK hl).trans hK, fun _ hm => zhv_dF hj hl hK (nw_of hw hm)⟩⟩
theorem jrul_x {kd : Int32} {k : Nat} (hd : 0 ≤ kd.toInt ∧ kd.toInt ≤ 2) (hk : k < 5) : (zkY kd, k) ∈ S_X := by
  have h := jrul_t hd hk
  have hs : ∀ x ∈ S_R, x ∈ S_X := by decide
  exact hs _ h
theorem jent_x {k : Nat} (hk : k < 6) : (7, k) ∈ S_X := by
  have h : ∀ k, k < 6 → (7, k) ∈ S_X := by decide
  exact h k hk
theorem jx_agr {A A' : zW} (h : jx A) (g : agr A' A) : jx A' := by
  obtain ⟨n, m, q, h1, h2, h3, h4, h5, h6, h7⟩ := h
  obtain ⟨F, IR, N, D⟩ := g
  have I : ∀ q i, q < 385 → (zn lp_sh q, 0) ∈ S_X → zI A' q i = zI A q i := fun q i a b => (IR q i a b).1
  have R : ∀ q i, q < 385 → (zn lp_sh q, 0) ∈ S_X → zR A' q i = zR A q i := fun q i a b => (IR q i a b).2
  have s1 : ∀ i, 348 ≤ i → i ≤ 352 → i < 385 ∧ (zn lp_sh i, 0) ∈ S_X := fun i a b => by
    rcases (show i = 348 ∨ i = 349 ∨ i = 350 ∨ i = 351 ∨ i = 352 by omega) with rfl | rfl | rfl | rfl | rfl <;> exact ⟨by decide, by decide +kernel⟩
  have s2 : ∀ i, 357 ≤ i → i ≤ 361 → i < 385 ∧ (zn lp_sh i, 0) ∈ S_X := fun i a b => by
    rcases (show i = 357 ∨ i = 358 ∨ i = 359 ∨ i = 360 ∨ i = 361 by omega) with rfl | rfl | rfl | rfl | rfl <;> exact ⟨by decide, by decide +kernel⟩
  refine ⟨n, m, q, h1.tr (F _ _ (by decide) (by decide +kernel)) (F _ _ (by decide) (by decide +kernel)) (fun e => R _ _ (by decide) (by decide +kernel)) (fun i e a b => I _ _ (s1 i a b).1 (s1 i a b).2) N (fun j a b c => ?_), h2.tr (F _ _ (by decide) (by decide +kernel)) (F _ _ (by decide) (by decide +kernel)) (fun e => R _ _ (by decide) (by decide +kernel)) (fun i e a b => I _ _ (s2 i a b).1 (s2 i a b).2) N (fun j kd a b hd c => ?_), h3.tr (F _ _ (by decide) (by decide +kernel)) (F _ _ (by decide) (by decide +kernel)) (fun _ => I _ _ (by decide) (by decide +kernel)) (fun _ => I _ _ (by decide) (by decide +kernel)) (fun _ => I _ _ (by decide) (by decide +kernel)) (fun _ => I _ _ (by decide) (by decide +kernel)), h4.tr (fun _ => I _ _ (by decide) (by decide +kernel)) (fun _ => I _ _ (by decide) (by decide +kernel)), h5.tr (F _ _ (by decide) (by decide +kernel)) (F _ _ (by decide) (by decide +kernel)) (F _ _ (by decide) (by decide +kernel)) (F _ _ (by decide) (by decide +kernel)), h6.tr (Int.le_refl _) (Int.le_refl _) (fun _ => I _ _ (by decide) (by decide +kernel)) (fun _ => I _ _ (by decide) (by decide +kernel)) (fun _ => R _ _ (by decide) (by decide +kernel)) (fun _ _ => R _ _ (by decide) (by decide +kernel)) (fun _ _ => R _ _ (by decide) (by decide +kernel)), h7.tr (F _ _ (by decide) (by decide +kernel)) (I _ _ (by decide) (by decide +kernel))⟩
  · obtain ⟨d1, d2⟩ := D j 4 7 a b c
    exact ⟨d1.trans c.symm, fun k hk => d2 k (jent_x hk)⟩
  · obtain ⟨d1, d2⟩ := D j _ _ a b c
    exact ⟨d1.trans c.symm, fun k hk => d2 k (jrul_x hd hk)⟩
theorem jx_hv {A X : zW} {Wr : List (Nat × Nat)} (h : jx A) (hw : nW S_X Wr = true) (hN : zN A ≤ zN X) : jx (zhv Wr A X) := jx_agr h (agr.hv hw hN)
def j7 (w : lW) : Prop := ∃ A, zA A w.1 w.2 ∧ jx A
def J7 (B : Nat → Nat) : lW → Prop := fun w => J6 B w ∧ j7 w
section
variable {B : Nat → Nat} {rt : Nat} {Wr : List (Nat × Nat)} {T : fT} {cc : ByteArray} {As : List Value} {w w' : lW} {rv : Option Value}
/-- a call of which only what it leaves alone is said -/
theorem z_fr {A : zW} (h : fLr (fq cw_TT cw_SG rt Wr T cc) As w rv w') (hA : zA A w.1 w.2) (hk : bs_K.all (fun x => !(Wr.contains x)) = true) : ∃ X, zN A ≤ zN X ∧ zA (zhv Wr A X) w'.1 w'.2 := zhv_ok h hA hk hA.sh
theorem kp7 (h : fLr (fq cw_TT cw_SG rt Wr T cc) As w rv w') (hJ : j7 w) (hk : bs_K.all (fun x => !(Wr.contains x)) = true) (hw : nW S_X Wr = true) : j7 w' := by
  obtain ⟨A, hA, hj⟩ := hJ
  obtain ⟨X, hN, hA'⟩ := z_fr h hA hk
  exact ⟨_, hA', jx_hv hj hw hN⟩
end
end
section
/-! what hold, news, rule, claim and so on leave of it -/
/-! what stands where after a write -/
section
variable {A : zW} {q k a b : Nat} {v : Value} {x : Int32}
theorem zI_uF : zI (zuF A q k v) a b = zI A a b := rfl
theorem zR_uF : zR (zuF A q k v) a b = zR A a b := rfl
theorem zK_uF : zK (zuF A q k v) a = zK A a := rfl
theorem zN_uF : zN (zuF A q k v) = zN A := rfl
theorem zI_uR : zI (zuR A q k v) a b = zI A a b := rfl
theorem zF_uR : zF (zuR A q k v) a b = zF A a b := rfl
theorem zK_uR : zK (zuR A q k v) a = zK A a := rfl
theorem zN_uR : zN (zuR A q k v) = zN A := rfl
theorem zF_uI : zF (zuI A q k x) a b = zF A a b := rfl
theorem zR_uI : zR (zuI A q k x) a b = zR A a b := rfl
theorem zK_uI : zK (zuI A q k x) a = zK A a := rfl
theorem zN_uI : zN (zuI A q k x) = zN A := rfl
theorem zF_sI {f : Nat → Int32} : zF (zsI A q f) a b = zF A a b := rfl
theorem zR_sI {f : Nat → Int32} : zR (zsI A q f) a b = zR A a b := rfl
theorem zK_sI {f : Nat → Int32} : zK (zsI A q f) a = zK A a := rfl
theorem zN_sI {f : Nat → Int32} : zN (zsI A q f) = zN A := rfl
theorem zI_uN {ci t : Nat} {D : Nat → Value} : zI (zuN A ci t D) a b = zI A a b := rfl
theorem zR_uN {ci t : Nat} {D : Nat → Value} : zR (zuN A ci t D) a b = zR A a b := rfl
theorem zI_ent {n s u f t k : Int32} : zI (zent A q n s u f t k) a b = zI A a b := by
  unfold zent
  rw [zI_uF, zI_uF, zI_uF, zI_uF, zI_uF, zI_uF, zI_uF]
theorem zR_ent {n s u f t k : Int32} : zR (zent A q n s u f t k) a b = zR A a b := by
  unfold zent
  rw [zR_uF, zR_uF, zR_uF, zR_uF, zR_uF, zR_uF, zR_uF]
theorem zK_ent {n s u f t k : Int32} : zK (zent A q n s u f t k) a = zK A a := by
  unfold zent
  rw [zK_uF, zK_uF, zK_uF, zK_uF, zK_uF, zK_uF, zK_uF]
theorem zN_ent {n s u f t k : Int32} : zN (zent A q n s u f t k) = zN A := by
  unfold zent
  rw [zN_uF, zN_uF, zN_uF, zN_uF, zN_uF, zN_uF, zN_uF]
end
theorem agr.sJ {A : zW} {q : Nat} {f : Nat → Int64} : agr (zsJ A q f) A := ⟨fun _ _ _ _ => rfl, fun _ _ _ _ => ⟨rfl, rfl⟩, Nat.le_refl _, fun _ _ _ _ _ h => ⟨h, fun _ _ => rfl⟩⟩
/-! an entry comes, on both sides -/
section
variable {A : zW} {D : Nat → Value} {n s u f t k : Int32}
theorem znE_N : zN (znE A D s u f t k) = zN A + 1 := by
  unfold znE zkp
  rw [zN_uF, zN_uR, zN_sI, zN_ent]
  rfl
theorem znE_F {q i : Nat} (hN : 385 ≤ zN A) (hq : q < 385) (h : ¬ (q = 193 ∧ i = 1)) : zF (znE A D s u f t k) q i = zF A q i := by
  unfold znE zkp
  rw [zuF_x, if_neg h, zF_uR, zF_sI, zent_ne (znN hN hq), zuN_f (znN hN hq)]
theorem znE_c (hN : 385 ≤ zN A) (hn : zF A 193 1 = .int n) : iv (zF (zent (zuN A 4 7 D) (zN A) (iv (zF A 193 1)) s u f t k) 193 1) = n := by
  rw [zent_ne (znN hN (by decide)), zuN_f (znN hN (by decide)), hn]
  rfl
theorem znE_1 (hN : 385 ≤ zN A) (hn : zF A 193 1 = .int n) : zF (znE A D s u f t k) 193 1 = .int (n + 1) := by
  unfold znE zkp
  rw [zuF_x, if_pos ⟨rfl, rfl⟩, znE_c hN hn]
  rfl
theorem znE_I {q i : Nat} (hq : q ≠ 196) : zI (znE A D s u f t k) q i = zI A q i := by
  unfold znE zkp
  rw [zI_uF, zI_uR, zsI_ne hq, zI_ent, zI_uN]
theorem znE_R {q i : Nat} (hN : 385 ≤ zN A) (hn : zF A 193 1 = .int n) : zR (znE A D s u f t k) q i = if q = 195 ∧ i = n.toInt.toNat then .ref (zN A) else zR A q i := by
  unfold znE zkp
  rw [zR_uF, zuR_x, znE_c hN hn, zR_sI, zR_ent, zR_uN]
  rfl
theorem znE_K {j : Nat} (h : j ≠ zN A) : zK (znE A D s u f t k) j = zK A j := by
  unfold znE zkp
  rw [zK_uF, zK_uR, zK_sI, zK_ent, zuN_K h]
theorem znE_Kn : zK (znE A D s u f t k) (zN A) = (4, 7) := by
  unfold znE zkp
  rw [zK_uF, zK_uR, zK_sI, zK_ent, zuN_k]
theorem znE_d {j i : Nat} (h : j ≠ zN A) (h2 : 385 ≤ j) : zF (znE A D s u f t k) j i = zF A j i := by
  unfold znE zkp
  rw [zuF_ne (by omega), zF_uR, zF_sI, zent_ne h, zuN_f h]
theorem znE_n {i : Nat} (hN : 385 ≤ zN A) : zF (znE A D s u f t k) (zN A) i = zF (zent (zuN A 4 7 D) (zN A) (iv (zF A 193 1)) s u f t k) (zN A) i := by
  unfold znE zkp
  rw [zuF_ne (by omega), zF_uR, zF_sI]
set_option maxRecDepth 20000 in
theorem zae_F {q i : Nat} (h : ¬ (q = 343 ∧ (i = 8 ∨ i = 17 ∨ i = 19 ∨ i = 33 ∨ i = 55))) : zF (zae A s u f t k) q i = zF A q i := by
  unfold zae zov
  rw [zuF_x, if_neg (fun z => h ⟨z.1, by omega⟩), zuF_x, if_neg (fun z => h ⟨z.1, by omega⟩), zuF_x, if_neg (fun z => h ⟨z.1, by omega⟩), zuF_x, if_neg (fun z => h ⟨z.1, by omega⟩), zuF_x, if_neg (fun z => h ⟨z.1, by omega⟩), zF_uI, zF_uI, zF_uI, zF_uI, zF_uI, zF_uI]
set_option maxRecDepth 20000 in
theorem zae_8 (hn : zF A 343 8 = .int n) : zF (zae A s u f t k) 343 8 = .int (n + 1) := by
  show Value.int (iv (zF A 343 8) + Int32.ofInt 1) = _
  rw [hn]
  rfl
set_option maxRecDepth 20000 in
theorem zae_I {q i : Nat} (h : q < 348 ∨ 353 < q) : zI (zae A s u f t k) q i = zI A q i := by
  unfold zae zov
  rw [zI_uF, zI_uF, zI_uF, zI_uF, zI_uF, zuI_ne (by omega), zuI_ne (by omega), zuI_ne (by omega), zuI_ne (by omega), zuI_ne (by omega), zuI_ne (by omega)]
set_option maxRecDepth 20000 in
theorem zae_at (hn : zF A 343 8 = .int n) (e : Nat) : zI (zae A s u f t k) 348 e = (if e = n.toInt.toNat then s else zI A 348 e) ∧ zI (zae A s u f t k) 349 e = (if e = n.toInt.toNat then u else zI A 349 e) ∧ zI (zae A s u f t k) 350 e = (if e = n.toInt.toNat then f else zI A 350 e) ∧ zI (zae A s u f t k) 351 e = (if e = n.toInt.toNat then t else zI A 351 e) ∧ zI (zae A s u f t k) 352 e = (if e = n.toInt.toNat then k else zI A 352 e) ∧ zI (zae A s u f t k) 353 e = (if e = n.toInt.toNat then Int32.ofInt (-9) else zI A 353 e) := by
  have en : (iv (zF A 343 8)).toNatClampNeg = n.toInt.toNat := by
    rw [hn]
    rfl
  have one : ∀ (A : zW) (q : Nat) (v : Int32), zI (zuI A q n.toInt.toNat v) q e = if e = n.toInt.toNat then v else zI A q e := fun A q v => by
    rw [zuI_x]
    by_cases h : e = n.toInt.toNat
    · rw [if_pos ⟨rfl, h⟩, if_pos h]
    · rw [if_neg (fun z => h z.2), if_neg h]
  unfold zae zov
  refine ⟨?_, ?_, ?_, ?_, ?_, ?_⟩
  · rw [zI_uF, zI_uF, zI_uF, zI_uF, zI_uF, en, zuI_ne (by decide), zuI_ne (by decide), zuI_ne (by decide), zuI_ne (by decide), zuI_ne (by decide), one]
  · rw [zI_uF, zI_uF, zI_uF, zI_uF, zI_uF, en, zuI_ne (by decide), zuI_ne (by decide), zuI_ne (by decide), zuI_ne (by decide), one, zuI_ne (by decide)]
  · rw [zI_uF, zI_uF, zI_uF, zI_uF, zI_uF, en, zuI_ne (by decide), zuI_ne (by decide), zuI_ne (by decide), one, zuI_ne (by decide), zuI_ne (by decide)]
  · rw [zI_uF, zI_uF, zI_uF, zI_uF, zI_uF, en, zuI_ne (by decide), zuI_ne (by decide), one, zuI_ne (by decide), zuI_ne (by decide), zuI_ne (by decide)]
  · rw [zI_uF, zI_uF, zI_uF, zI_uF, zI_uF, en, zuI_ne (by decide), one, zuI_ne (by decide), zuI_ne (by decide), zuI_ne (by decide), zuI_ne (by decide)]
  · rw [zI_uF, zI_uF, zI_uF, zI_uF, zI_uF, en, one, zuI_ne (by decide), zuI_ne (by decide), zuI_ne (by decide), zuI_ne (by decide), zuI_ne (by decide)]
set_option maxRecDepth 20000 in
theorem zae_R {q i : Nat} : zR (zae A s u f t k) q i = zR A q i := by
  unfold zae zov
  rw [zR_uF, zR_uF, zR_uF, zR_uF, zR_uF, zR_uI, zR_uI, zR_uI, zR_uI, zR_uI, zR_uI]
set_option maxRecDepth 20000 in
theorem zae_K {j : Nat} : zK (zae A s u f t k) j = zK A j := by
  unfold zae zov
  rw [zK_uF, zK_uF, zK_uF, zK_uF, zK_uF, zK_uI, zK_uI, zK_uI, zK_uI, zK_uI, zK_uI]
set_option maxRecDepth 20000 in
theorem zae_N : zN (zae A s u f t k) = zN A := by
  unfold zae zov
  rw [zN_uF, zN_uF, zN_uF, zN_uF, zN_uF, zN_uI, zN_uI, zN_uI, zN_uI, zN_uI, zN_uI]
end
theorem n_inc {n : Int32} (h0 : 0 ≤ n.toInt) (h : n.toInt < 100) : (n + 1).toInt = n.toInt + 1 := i_inc h0 (by omega)
theorem jE_add {A : zW} {D : Nat → Value} {n s u f t k : Int32} (h : jE A n) (hn : n.toInt < 12) (hN : 385 ≤ zN A) (hu : 0 ≤ u.toInt ∧ u.toInt < 6) : jE (zae (znE A D s u f t k) s u f t k) (n + 1) := by
  obtain ⟨⟨a1, a2, a2'⟩, a3, a4⟩ := h
  have hm : zF (znE A D s u f t k) 343 8 = .int n := (znE_F hN (by decide) (by decide)).trans a3
  have hi := n_inc a2 (by omega)
  refine ⟨⟨?_, by omega, by omega⟩, zae_8 hm, fun e he => ?_⟩
  · rw [zae_F (by decide)]
    exact znE_1 hN a1
  · obtain ⟨g1, g2, g3, g4, g5, -⟩ := zae_at (s := s) (u := u) (f := f) (t := t) (k := k) hm e
    by_cases ee : e = n.toInt.toNat
    · have d0 : ∀ i, zF (zae (znE A D s u f t k) s u f t k) (zN A) i = zF (zent (zuN A 4 7 D) (zN A) (iv (zF A 193 1)) s u f t k) (zN A) i := fun i => by
        rw [zae_F (by omega), znE_n hN]
      refine ⟨zN A, ?_, ⟨hN, by rw [zae_N, znE_N]; omega, by rw [zae_K]; exact znE_Kn⟩, ?_, ?_, ?_, ?_, ?_, ?_, ?_⟩
      · rw [zae_R, znE_R hN a1, if_pos ⟨rfl, ee⟩]
      · rw [d0, zent_0, a1, ee]
        have en : n = Int32.ofNat n.toInt.toNat := n32_of (by omega)
        exact congrArg Value.int en
      · rw [d0, zent_1, g1, if_pos ee]
      · rw [d0, zent_2, g2, if_pos ee]
      · rw [d0, zent_3, g3, if_pos ee]
      · rw [d0, zent_4, g4, if_pos ee]
      · rw [d0, zent_5, g5, if_pos ee]
      · rw [g2, if_pos ee]
        exact hu
    · obtain ⟨j, b0, ⟨b1, b2, b3⟩, c0, c1, c2, c3, c4, c5, c6⟩ := a4 e (by omega)
      have nj : j ≠ zN A := by omega
      have d0 : ∀ i, zF (zae (znE A D s u f t k) s u f t k) j i = zF A j i := fun i => by
        rw [zae_F (by omega), znE_d nj b1]
      rw [if_neg ee, znE_I (by decide)] at g1 g2 g3 g4 g5
      refine ⟨j, ?_, ⟨b1, by rw [zae_N, znE_N]; omega, by rw [zae_K, znE_K nj]; exact b3⟩, ?_, ?_, ?_, ?_, ?_, ?_, ?_⟩
      · rw [zae_R, znE_R hN a1, if_neg (fun z => ee z.2)]
        exact b0
      · rw [d0]; exact c0
      · rw [d0, g1]; exact c1
      · rw [d0, g2]; exact c2
      · rw [d0, g3]; exact c3
      · rw [d0, g4]; exact c4
      · rw [d0, g5]; exact c5
      · rw [g2]; exact c6
theorem jx_add {A : zW} {D : Nat → Value} {n m q s u f t k : Int32} (h1 : jE A n) (h2 : jR A m) (h3 : jC A q) (h4 : jT A) (h5 : jV A) (h6 : jH A n m) (h7 : jL A) (hn : n.toInt < 12) (hN : 385 ≤ zN A) (hu : 0 ≤ u.toInt ∧ u.toInt < 6) : jx (zae (znE A D s u f t k) s u f t k) := by
  have a1 := h1.1.1
  have n0 := h1.1.2.1
  have hi := n_inc n0 (by omega)
  have F : ∀ q i, q < 385 → ¬ (q = 193 ∧ i = 1) → ¬ (q = 343 ∧ (i = 8 ∨ i = 17 ∨ i = 19 ∨ i = 33 ∨ i = 55)) → zF (zae (znE A D s u f t k) s u f t k) q i = zF A q i := fun q i hq h1 h2 => by
    rw [zae_F h2, znE_F hN hq h1]
  have I : ∀ q i, q ≠ 196 → (q < 348 ∨ 353 < q) → zI (zae (znE A D s u f t k) s u f t k) q i = zI A q i := fun q i h1 h2 => by
    rw [zae_I h2, znE_I h1]
  have R : ∀ q i, q ≠ 195 → zR (zae (znE A D s u f t k) s u f t k) q i = zR A q i := fun q i h => by
    rw [zae_R, znE_R hN a1, if_neg (fun z => h z.1)]
  refine ⟨n + 1, m, q, jE_add h1 hn hN hu, h2.tr (F _ _ (by decide) (by decide) (by decide)) (F _ _ (by decide) (by decide) (by decide)) (fun e => R _ _ (by decide)) (fun i e _ _ => I _ _ (by omega) (by omega)) (by rw [zae_N, znE_N]; omega) (fun j _ b1 b2 _ _ => ⟨by rw [zae_K]; exact znE_K (by omega), fun i _ => ?_⟩), h3.tr (F _ _ (by decide) (by decide) (by decide)) (F _ _ (by decide) (by decide) (by decide)) (fun _ => I _ _ (by decide) (by decide)) (fun _ => I _ _ (by decide) (by decide)) (fun _ => I _ _ (by decide) (by decide)) (fun _ => I _ _ (by decide) (by decide)), h4.tr (fun _ => I _ _ (by decide) (by decide)) (fun _ => I _ _ (by decide) (by decide)), h5.tr (F _ _ (by decide) (by decide) (by decide)) (F _ _ (by decide) (by decide) (by decide)) (F _ _ (by decide) (by decide) (by decide)) (F _ _ (by decide) (by decide) (by decide)), h6.tr (by omega) (by omega) (fun _ => I _ _ (by decide) (by decide)) (fun _ => I _ _ (by decide) (by decide)) (fun _ => R _ _ (by decide)) (fun e he => ?_) (fun e _ => R _ _ (by decide)), h7.tr (F _ _ (by decide) (by decide) (by decide)) (I _ _ (by decide) (by decide))⟩
  · rw [zae_F (by omega), znE_d (by omega) b1]
  · rw [zae_R, znE_R hN a1, if_neg (fun z => by omega)]
/-- what news gives up is told of no entry but when it was given up -/
theorem jx_e3 {A X X2 : zW} {b : Nat} (h : jx A) (h1 : zN A ≤ zN X) (h2 : zN X ≤ zN X2) : jx (zE3 A X X2 b) := by
  have h0 : jx (zE2 A b) := jx_agr h (by
    unfold zE2 ztn zbe
    exact agr.tr agr.sJ agr.sJ)
  exact jx_hv (X := X2) (Wr := [(7, 6)]) (jx_hv (X := X) (Wr := [(6, 0)]) h0 (by decide) h1) (by decide) h2
theorem agr_e3m {A X X2 : zW} (h1 : zN A ≤ zN X) (h2 : zN X ≤ zN X2) : agr (zE3m A X X2) A :=
  agr.tr (agr.hv (X := X) (Wr := [(17, 17), (17, 19), (17, 20), (17, 21), (17, 23), (17, 25), (17, 26), (55, 0), (56, 0), (57, 0)]) (by decide) h1) (agr.hv (X := X2) (Wr := [(17, 19), (17, 33), (17, 55), (54, 0)]) (by decide) h2)
/-- the reference's entry, over worlds that are alike -/
theorem agr_zae {A B : zW} {s u f t k : Int32} (h : agr B A) : agr (zae B s u f t k) (zae A s u f t k) := by
  obtain ⟨F, IR, N, D⟩ := h
  have hn : zF B 343 8 = zF A 343 8 := F _ _ (by decide) (by decide +kernel)
  have one : ∀ (X Y : zW) (q i r : Nat) (v : Int32), zI X q i = zI Y q i → zI (zuI X r (iv (zF B 343 8)).toNatClampNeg v) q i = zI (zuI Y r (iv (zF A 343 8)).toNatClampNeg v) q i := fun X Y q i r v e => by
    rw [zuI_x, zuI_x, hn, e]
  have two : ∀ (X Y : zW) (q i r x : Nat) (v w : Value), v = w → zF X q i = zF Y q i → zF (zuF X r x v) q i = zF (zuF Y r x w) q i := fun X Y q i r x v w e1 e => by
    rw [zuF_x, zuF_x, e1, e]
  refine ⟨fun q i hq hm => ?_, fun q i hq hm => ⟨?_, by rw [zae_R, zae_R]; exact (IR q i hq hm).2⟩, by rw [zae_N, zae_N]; exact N, fun j ci ty hj hl hK => ?_⟩
  · have e0 := F q i hq hm
    unfold zae zov
    refine two _ _ _ _ _ _ _ _ rfl (two _ _ _ _ _ _ _ _ rfl (two _ _ _ _ _ _ _ _ rfl (two _ _ _ _ _ _ _ _ rfl (two _ _ _ _ _ _ _ _ ?_ ?_))))
    · rw [hn]
    · rw [zF_uI, zF_uI, zF_uI, zF_uI, zF_uI, zF_uI, zF_uI, zF_uI, zF_uI, zF_uI, zF_uI, zF_uI]
      exact e0
  · have e0 := (IR q i hq hm).1
    unfold zae zov
    rw [zI_uF, zI_uF, zI_uF, zI_uF, zI_uF, zI_uF, zI_uF, zI_uF, zI_uF, zI_uF]
    exact one _ _ _ _ _ _ (one _ _ _ _ _ _ (one _ _ _ _ _ _ (one _ _ _ _ _ _ (one _ _ _ _ _ _ (one _ _ _ _ _ _ e0)))))
  · rw [zae_N] at hl
    rw [zae_K] at hK
    obtain ⟨d1, d2⟩ := D j ci ty hj hl hK
    refine ⟨by rw [zae_K]; exact d1, fun i hm => ?_⟩
    rw [zae_F (by omega), zae_F (by omega)]
    exact d2 i hm
end
section
/-! the pairs of calls over it -/
/-- what both sides count of sentences -/
theorem j7_c {B : Nat → Nat} {w : lW} {A : zW} (hJ : J6 B w) (hA : zA A w.1 w.2) {tys : List (ClassId × FieldType)} (hw : ck_wo tys cw_TT cw_SG w.1 w.2) : ∃ c : Int32, zF A 0 1 = .int c ∧ zF A 343 1 = .int c ∧ 0 ≤ c.toInt ∧ c.toInt ≤ 60 := by
  have hb := hJ.1.b
  obtain ⟨h4, c, W, g, hc, hW, hg, hE⟩ := hJ
  obtain ⟨c0, hc0, hm⟩ := h4.1.2
  have ec : c0 = c := hc0.uni hc
  subst ec
  have hr := rng_0 hb hw hc
  exact ⟨c0, zo_F hA hb (by decide) (by decide +kernel) hc, zo_F hA hb (by decide) (by decide +kernel) hm, hr.1, hr.2⟩
theorem zargs {B : Nat → Nat} {w : lW} (hb : bI B w) {q : Nat} (hq : q < 385) {r s : List Value} (h : zvs w.1 r s) : zvs w.1 (.ref (B q) :: r) (.ref q :: s) := ⟨zvB hb hq, h⟩
section
variable {B : Nat → Nat} {rt1 rt2 : Nat} {Wr1 Wr2 : List (Nat × Nat)} {T1 T2 : fT} {cc1 cc2 : ByteArray} {As1 As2 : List Value} {w w1 w2 : lW} {rv1 rv2 : Option Value}
/-- what isn't written on either side stays -/
theorem up7 (hJ : J7 B w) (h1 : fLr (fq cw_TT cw_SG rt1 Wr1 T1 cc1) As1 w rv1 w1) (h2 : fLr (fq cw_TT cw_SG rt2 Wr2 T2 cc2) As2 w1 rv2 w2) (k1 : bs_K.all (fun x => !(Wr1.contains x)) = true) (k2 : bs_K.all (fun x => !(Wr2.contains x)) = true) (a1 : nW S_X Wr1 = true) (a2 : nW S_X Wr2 = true) (h6 : J6 B w2) : J7 B w2 :=
  ⟨h6, kp7 h2 (kp7 h1 hJ.2 k1 a1) k2 a2⟩
end
set_option maxRecDepth 20000 in
theorem pk7_hold {B : Nat → Nat} : ∀ (w w1 w2 : lW) (rv1 rv2 : Option Value) (s u f t k : Int32), J7 B w → fLr r_X11_hold [.ref (B 0), .int s, .int u, .int f, .int t, .int k] w rv1 w1 → fLr r_X12_hold [.ref (B 343), .int s, .int u, .int f, .int t, .int k] w1 rv2 w2 → rv1 = rv2 ∧ J7 B w2 := by
  intro w w1 w2 rv1 rv2 s u f t k hJ h1 h2
  have hb := hJ.1.1.b
  have hb1 : bI B w1 := hb.keep h1 (by decide)
  have h6 : J6 B w2 := fr6 h2 (fr6 h1 hJ.1 (by decide) (by decide) (by decide) (by decide) (by decide)) (by decide) (by decide) (by decide) (by decide) (by decide)
  obtain ⟨tys, hw, -⟩ := h1.2.2.2.2.1
  obtain ⟨J6w, A, hA, n, m, q, g1, g2, g3, g4, g5, g6, g7⟩ := hJ
  obtain ⟨c, hc, hc', c0, c60⟩ := j7_c J6w hA hw
  have hN : 385 ≤ zN A := hA.2.1.2.2
  obtain ⟨A1, u1, hA1, hv1, hQ1⟩ := zrun za_X11_hold h1 hA (zargs hb (by decide) (s := [.int s, .int u, .int f, .int t, .int k]) ⟨rfl, rfl, rfl, rfl, rfl, trivial⟩) (K := fun rv A' => zhd_Q ((c, n), s, u, f, t, k) A rv A') ⟨((c, n), s, u, f, t, k), rfl, ⟨⟨hc, c60⟩, g1.1, hN⟩, fun _ _ h => h⟩
  have hQ1 : zhdQ (zhdV c n s u f t k) n (fun A' => ∃ D, A' = znE A D s u f t k) A u1 A1 := hQ1
  have hpre : zF A1 343 1 = .int c ∧ zF A1 343 8 = .int n ∧ 0 ≤ n.toInt ∧ n.toInt ≤ 12 := by
    unfold zhdQ at hQ1
    split at hQ1
    · rw [hQ1.2]
      exact ⟨hc', g1.2.1, g1.1.2.1, g1.1.2.2⟩
    · obtain ⟨-, D, rfl⟩ := hQ1
      exact ⟨(znE_F hN (by decide) (by decide)).trans hc', (znE_F hN (by decide) (by decide)).trans g1.2.1, g1.1.2.1, g1.1.2.2⟩
  obtain ⟨A2, u2, hA2, hv2, hQ2⟩ := zrun za_X12_hold h2 hA1 (zargs hb1 (by decide) (s := [.int s, .int u, .int f, .int t, .int k]) ⟨rfl, rfl, rfl, rfl, rfl, trivial⟩) (K := fun rv A' => zhm_Q ((c, n), s, u, f, t, k) A1 rv A') ⟨((c, n), s, u, f, t, k), rfl, hpre, fun _ _ h => h⟩
  have hQ2 : zhdQ (zhdV c n s u f t k) n (fun A' => A' = zae A1 s u f t k) A1 u2 A2 := hQ2
  unfold zhdQ at hQ1 hQ2
  cases hV : zhdV c n s u f t k with
  | some v =>
    rw [hV] at hQ1 hQ2
    obtain ⟨e1, e2⟩ := hQ1
    obtain ⟨e3, e4⟩ := hQ2
    refine ⟨(zv_int hv1 e1).trans (zv_int hv2 e3).symm, h6, A2, hA2, ?_⟩
    rw [e4, e2]
    exact ⟨n, m, q, g1, g2, g3, g4, g5, g6, g7⟩
  | none =>
    rw [hV] at hQ1 hQ2
    obtain ⟨e1, D, e2⟩ := hQ1
    obtain ⟨e3, e4⟩ := hQ2
    have e4 : A2 = zae A1 s u f t k := e4
    obtain ⟨⟨-, hu⟩, -, hn⟩ := zhd_g hV
    refine ⟨(zv_int hv1 e1).trans (zv_int hv2 e3).symm, h6, A2, hA2, ?_⟩
    rw [e4, e2]
    exact jx_add g1 g2 g3 g4 g5 g6 g7 hn hN hu
/-- no world there: the class's question and the reference's -/
theorem znw_ee {A B : zW} {s : Int32} (h : ∀ x, x < 4 → zJ A (2 + 2 * s.toInt.toNat + 1) x = zsw B s.toInt.toNat x) : znw_e A s = znm_e B s := by
  unfold znw_e znm_e
  have h1 := (szA_z (f := zsw B s.toInt.toNat) (Nat.le_refl 4)).2
  by_cases hz : (szA (fun v => cbA v 64) (zsw B s.toInt.toNat) 4).toInt = 0
  · rw [decide_eq_true hz]
    exact zzB_t.mpr (fun x hx => by rw [h x hx]; exact h1.mp hz x hx)
  · rw [decide_eq_false hz]
    cases hb : zzB (zJ A (2 + 2 * s.toInt.toNat + 1)) 4 with
    | false => rfl
    | true =>
      exfalso
      exact hz (h1.mpr (fun x hx => by rw [← h x hx]; exact zzB_t.mp hb x hx))
set_option maxRecDepth 20000 in
/-- the words of a long array, over places -/
theorem za_J {B : Nat → Nat} {w : lW} {A : zW} (hA : zA A w.1 w.2) (hb : bI B w) {q n : Nat} {g : Nat → Int64} (hq : q < 385) (h : aJ B q n g w) (x : Nat) : zJ A q x = g x := by
  obtain ⟨c, hc⟩ := lp_L2_at hq
  obtain ⟨e, h1, h2, -⟩ := hb.2.h hb.1 hc
  obtain ⟨cA, h3⟩ := h
  rw [h2] at h3
  have h3 := Option.some.inj h3
  subst h3
  exact (hA.2.2 q _ _ h1).2.2 x
/-- both sides' sentences, over places -/
theorem j7_w {B : Nat → Nat} {w : lW} {A : zW} (hJ : J6 B w) (hA : zA A w.1 w.2) : ∃ c : Int32, zF A 0 1 = .int c ∧ ∀ i : Nat, (i : Int) < c.toInt → i < 60 → ∀ x, x < 4 → zJ A (2 + 2 * i + 1) x = zsw A i x := by
  have hb := hJ.1.b
  obtain ⟨h4, c, W, g, hc, hW, hg, hE⟩ := hJ
  refine ⟨c, zo_F hA hb (by decide) (by decide +kernel) hc, fun i hi hi60 x hx => ?_⟩
  have a1 := za_J hA hb (show 3 + 2 * i < 385 by omega) (hW i hi60) x
  have a2 := za_J hA hb (show 344 < 385 by decide) hg (4 * i + x)
  rw [show 2 + 2 * i + 1 = 3 + 2 * i by omega, a1]
  show W i x = zJ A 344 (4 * i + x)
  rw [a2]
  exact hE i hi x hx
set_option maxRecDepth 20000 in
theorem pk7_news {B : Nat → Nat} : ∀ (w w1 w2 : lW) (rv1 rv2 : Option Value) (s u : Int32), J7 B w → fLr r_X11_news [.ref (B 0), .int s, .int u] w rv1 w1 → fLr r_X12_news [.ref (B 343), .int s, .int u] w1 rv2 w2 → rv1 = rv2 ∧ J7 B w2 := by
  intro w w1 w2 rv1 rv2 s u hJ h1 h2
  have hb := hJ.1.1.b
  have hb1 : bI B w1 := hb.keep h1 (by decide)
  have h61 : J6 B w1 := fr6 h1 hJ.1 (by decide) (by decide) (by decide) (by decide) (by decide)
  have h6 : J6 B w2 := fr6 h2 h61 (by decide) (by decide) (by decide) (by decide) (by decide)
  obtain ⟨tys, hw, hw1⟩ := h1.2.2.2.2.1
  obtain ⟨J6w, A, hA, n, m, q, g1, g2, g3, g4, g5, g6, g7⟩ := hJ
  obtain ⟨c, hc, hc', c0, c60⟩ := j7_c J6w hA hw
  have hN : 385 ≤ zN A := hA.2.1.2.2
  obtain ⟨t, k, v1, v2, v3, v4⟩ := id g5
  obtain ⟨A1, u1, hA1, hv1, hQ1⟩ := zrun za_X11_news h1 hA (zargs hb (by decide) (s := [.int s, .int u]) ⟨rfl, rfl, trivial⟩) (K := fun rv A' => znw_Q ((c, n, t, k), s, u) A rv A') ⟨((c, n, t, k), s, u), rfl, ⟨⟨hc, c60⟩, g1.1, hN, v1, v3⟩, fun _ _ h => h⟩
  have hQ1 : zhdQ (znwV c n s u (znw_e A s)) n (fun A' => ∃ X X2 D, (zN A ≤ zN X ∧ zN X ≤ zN X2) ∧ A' = znE (zE3 A X X2 (2 + 2 * s.toInt.toNat)) D s u t (Int32.ofInt 99) k) A u1 A1 := hQ1
  have hj : jx A := ⟨n, m, q, g1, g2, g3, g4, g5, g6, g7⟩
  -- what the reference finds
  have hpre : zF A1 343 1 = .int c ∧ zF A1 343 8 = .int n ∧ zF A1 343 15 = .int t ∧ zF A1 343 16 = .int k := by
    unfold zhdQ at hQ1
    split at hQ1
    · rw [hQ1.2]
      exact ⟨hc', g1.2.1, v2, v4⟩
    · obtain ⟨-, X, X2, D, ⟨x1, x2⟩, rfl⟩ := hQ1
      have hN3 : 385 ≤ zN (zE3 A X X2 (2 + 2 * s.toInt.toNat)) := by
        show 385 ≤ zN X2
        omega
      exact ⟨(znE_F hN3 (by decide) (by decide)).trans hc', (znE_F hN3 (by decide) (by decide)).trans g1.2.1, (znE_F hN3 (by decide) (by decide)).trans v2, (znE_F hN3 (by decide) (by decide)).trans v4⟩
  have hee : (0 ≤ s.toInt ∧ s.toInt < c.toInt) → znw_e A s = znm_e A1 s := fun hs => by
    obtain ⟨ca, ha1, ha2⟩ := j7_w J6w hA
    obtain ⟨cb, hb1', hb2⟩ := j7_w h61 hA1
    have eca : ca = c := by
      rw [hc] at ha1
      injection ha1 with z
      exact z.symm
    subst eca
    have ecb : cb = ca := by
      obtain ⟨c2, d1, d2, -⟩ := j7_c h61 hA1 hw1
      rw [d1] at hb1'
      rw [hpre.1] at d2
      injection hb1' with z1
      injection d2 with z2
      rw [← z1, z2]
    subst ecb
    refine znw_ee (fun x hx => ?_)
    rw [ha2 s.toInt.toNat (by omega) (by omega) x hx]
    have e1 := za_J (B := B) hA hb (show 344 < 385 by decide) (J6w.2.choose_spec.choose_spec.choose_spec.2.2.1) (4 * s.toInt.toNat + x)
    have e2 := za_J (B := B) hA1 hb1 (show 344 < 385 by decide) ((J6w.2.choose_spec.choose_spec.choose_spec.2.2.1).keep hb h1 bl_344 bt_344 (by decide) (by decide)) (4 * s.toInt.toNat + x)
    show zJ A 344 (4 * s.toInt.toNat + x) = zJ A1 344 (4 * s.toInt.toNat + x)
    rw [e1, e2]
  obtain ⟨A2, u2, hA2, hv2, hQ2⟩ := zrun za_X12_news h2 hA1 (zargs hb1 (by decide) (s := [.int s, .int u]) ⟨rfl, rfl, trivial⟩) (K := fun rv A' => znm_Q ((c, n, t, k), s, u) A1 rv A') ⟨((c, n, t, k), s, u), rfl, ⟨⟨hpre.1, c60⟩, ⟨hpre.2.1, g1.1.2⟩, hpre.2.2⟩, fun _ _ h => h⟩
  have hQ2 : zhdQ (znwV c n s u (znm_e A1 s)) n (fun A' => ∃ X X2, (zN A1 ≤ zN X ∧ zN X ≤ zN X2) ∧ A' = zae (zE3m A1 X X2) s u t (Int32.ofInt 99) k) A1 u2 A2 := hQ2
  have hVV : znwV c n s u (znw_e A s) = znwV c n s u (znm_e A1 s) := by
    by_cases hs : 0 ≤ s.toInt ∧ s.toInt < c.toInt
    · rw [hee hs]
    · rw [znw_1 (fun z => hs z.1), znw_1 (fun z => hs z.1)]
  rw [← hVV] at hQ2
  unfold zhdQ at hQ1 hQ2
  cases hV : znwV c n s u (znw_e A s) with
  | some v =>
    rw [hV] at hQ1 hQ2
    obtain ⟨e1, e2⟩ := hQ1
    obtain ⟨e3, e4⟩ := hQ2
    refine ⟨(zv_int hv1 e1).trans (zv_int hv2 e3).symm, h6, A2, hA2, ?_⟩
    rw [e4, e2]
    exact hj
  | none =>
    rw [hV] at hQ1 hQ2
    obtain ⟨e1, X, X2, D, ⟨x1, x2⟩, e2⟩ := hQ1
    obtain ⟨e3, Y, Y2, ⟨y1, y2⟩, e4⟩ := hQ2
    have e4 : A2 = zae (zE3m A1 Y Y2) s u t (Int32.ofInt 99) k := e4
    obtain ⟨⟨-, hu⟩, -, hn⟩ := znw_g hV
    refine ⟨(zv_int hv1 e1).trans (zv_int hv2 e3).symm, h6, A2, hA2, ?_⟩
    have hN3 : 385 ≤ zN (zE3 A X X2 (2 + 2 * s.toInt.toNat)) := by
      show 385 ≤ zN X2
      omega
    obtain ⟨n', m', q', k1, k2, k3, k4, k5, k6, k7⟩ := jx_e3 (b := 2 + 2 * s.toInt.toNat) hj x1 x2
    have en : n' = n := by
      have z1 : zF A 193 1 = .int n' := k1.1.1
      have z2 := g1.1.1
      rw [z1] at z2
      injection z2
    subst en
    have hx := jx_add (D := D) (s := s) (u := u) (f := t) (t := Int32.ofInt 99) (k := k) k1 k2 k3 k4 k5 k6 k7 hn hN3 hu
    rw [e4]
    refine jx_agr hx (agr_zae ?_)
    rw [← e2]
    exact agr_e3m y1 y2
end
section
/-! alike in a part of it -/
def agl (S : List (Nat × Nat)) (A' A : zW) : Prop := (∀ q i, q < 385 → (zn lp_sh q, i) ∈ S → zF A' q i = zF A q i) ∧ (∀ q i, q < 385 → (zn lp_sh q, 0) ∈ S → zI A' q i = zI A q i ∧ zR A' q i = zR A q i) ∧ zN A ≤ zN A' ∧ ∀ j ci ty, 385 ≤ j → j < zN A → zK A j = (ci, ty) → zK A' j = (ci, ty) ∧ ∀ i, (ty, i) ∈ S → zF A' j i = zF A j i
theorem agl.x {A A' : zW} (h : agl S_X A' A) : agr A' A := h
theorem agr.l {A A' : zW} (h : agr A' A) : agl S_X A' A := h
section
variable {S : List (Nat × Nat)} {A B C X : zW} {q i : Nat} {v : Value} {x : Int32}
theorem agl.sub {S' : List (Nat × Nat)} (h : agl S B A) (hs : ∀ y ∈ S', y ∈ S) : agl S' B A := by
  obtain ⟨F, IR, N, D⟩ := h
  refine ⟨fun p k hp hm => F p k hp (hs _ hm), fun p k hp hm => IR p k hp (hs _ hm), N, fun j ci ty hj hl hK => ?_⟩
  obtain ⟨d1, d2⟩ := D j ci ty hj hl hK
  exact ⟨d1, fun k hm => d2 k (hs _ hm)⟩
theorem agl.rf : agl S A A := ⟨fun _ _ _ _ => rfl, fun _ _ _ _ => ⟨rfl, rfl⟩, Nat.le_refl _, fun _ _ _ _ _ h => ⟨h, fun _ _ => rfl⟩⟩
theorem agl.tr (h1 : agl S B A) (h2 : agl S C B) : agl S C A := by
  obtain ⟨a1, a2, a3, a4⟩ := h1
  obtain ⟨b1, b2, b3, b4⟩ := h2
  refine ⟨fun q i hq hm => (b1 q i hq hm).trans (a1 q i hq hm), fun q i hq hm => ⟨(b2 q i hq hm).1.trans (a2 q i hq hm).1, (b2 q i hq hm).2.trans (a2 q i hq hm).2⟩, by omega, fun j ci ty hj hl hK => ?_⟩
  obtain ⟨c1, c2⟩ := a4 j ci ty hj hl hK
  obtain ⟨d1, d2⟩ := b4 j ci ty hj (by omega) c1
  exact ⟨d1, fun i hm => (d2 i hm).trans (c2 i hm)⟩
theorem agl.hv {Wr : List (Nat × Nat)} (hw : nW S Wr = true) (hN : zN A ≤ zN X) : agl S (zhv Wr A X) A :=
  ⟨fun _ _ hq hm => zhv_bF hq (nw_of hw hm), fun _ _ hq hm => ⟨zhv_bI hq (nw_of hw hm), zhv_bR hq (nw_of hw hm)⟩, hN, fun _ _ _ hj hl hK => ⟨(zhv_dK hl).trans hK, fun _ hm => zhv_dF hj hl hK (nw_of hw hm)⟩⟩
/-- a write that isn't of it -/
theorem agl.nF (hq : q < 385) (hs : ¬ (zn lp_sh q, i) ∈ S) : agl S (zuF A q i v) A := by
  refine ⟨fun p k hp hm => ?_, fun p k hp hm => ⟨zI_uF, zR_uF⟩, by rw [zN_uF]; exact Nat.le_refl _, fun j ci ty hj hl hK => ⟨by rw [zK_uF]; exact hK, fun k _ => zuF_ne (by omega)⟩⟩
  rw [zuF_x]
  by_cases c : p = q ∧ k = i
  · obtain ⟨rfl, rfl⟩ := c
    exact absurd hm hs
  · rw [if_neg c]
theorem agl.nI (hq : q < 385) (hs : ¬ (zn lp_sh q, 0) ∈ S) : agl S (zuI A q i x) A := by
  refine ⟨fun p k hp hm => zF_uI, fun p k hp hm => ⟨?_, zR_uI⟩, by rw [zN_uI]; exact Nat.le_refl _, fun j ci ty hj hl hK => ⟨by rw [zK_uI]; exact hK, fun k _ => zF_uI⟩⟩
  rw [zuI_x]
  by_cases c : p = q ∧ k = i
  · obtain ⟨rfl, rfl⟩ := c
    exact absurd hm hs
  · rw [if_neg c]
theorem agl.nR (hq : q < 385) (hs : ¬ (zn lp_sh q, 0) ∈ S) : agl S (zuR A q i v) A := by
  refine ⟨fun p k hp hm => zF_uR, fun p k hp hm => ⟨zI_uR, ?_⟩, by rw [zN_uR]; exact Nat.le_refl _, fun j ci ty hj hl hK => ⟨by rw [zK_uR]; exact hK, fun k _ => zF_uR⟩⟩
  rw [zuR_x]
  by_cases c : p = q ∧ k = i
  · obtain ⟨rfl, rfl⟩ := c
    exact absurd hm hs
  · rw [if_neg c]
theorem agl.sJ {f : Nat → Int64} : agl S (zsJ A q f) A := ⟨fun _ _ _ _ => rfl, fun _ _ _ _ => ⟨rfl, rfl⟩, Nat.le_refl _, fun _ _ _ _ _ h => ⟨h, fun _ _ => rfl⟩⟩
theorem agl_be {p n : Nat} : agl S (zbe A q p n) A := agl.sJ
theorem agl.new {ci t : Nat} {D : Nat → Value} (hN : 385 ≤ zN A) : agl S (zuN A ci t D) A := by
  refine ⟨fun p k hp hm => zuN_f (by omega), fun p k hp hm => ⟨zI_uN, zR_uN⟩, ?_, fun j c y hj hl hK => ⟨?_, fun k _ => zuN_f (by omega)⟩⟩
  · show zN A ≤ zN A + 1
    omega
  · rw [zuN_K (by omega)]
    exact hK
/-- a write of a later object -/
theorem agl.dF (h : agl S B A) (hq : zN A ≤ q) (hN : 385 ≤ zN A) : agl S (zuF B q i v) A := by
  obtain ⟨F, IR, N, D⟩ := h
  refine ⟨fun p k hp hm => (zuF_ne (by omega)).trans (F p k hp hm), fun p k hp hm => ⟨zI_uF.trans (IR p k hp hm).1, zR_uF.trans (IR p k hp hm).2⟩, by rw [zN_uF]; exact N, fun j ci ty hj hl hK => ?_⟩
  obtain ⟨d1, d2⟩ := D j ci ty hj hl hK
  exact ⟨by rw [zK_uF]; exact d1, fun k hm => (zuF_ne (by omega)).trans (d2 k hm)⟩
/-- the same write on both -/
theorem agl.uF (h : agl S B A) : agl S (zuF B q i v) (zuF A q i v) := by
  obtain ⟨F, IR, N, D⟩ := h
  refine ⟨fun p k hp hm => ?_, fun p k hp hm => ⟨by rw [zI_uF, zI_uF]; exact (IR p k hp hm).1, by rw [zR_uF, zR_uF]; exact (IR p k hp hm).2⟩, by rw [zN_uF, zN_uF]; exact N, fun j ci ty hj hl hK => ?_⟩
  · rw [zuF_x, zuF_x]
    by_cases c : p = q ∧ k = i
    · rw [if_pos c, if_pos c]
    · rw [if_neg c, if_neg c]
      exact F p k hp hm
  · rw [zN_uF] at hl
    rw [zK_uF] at hK
    obtain ⟨d1, d2⟩ := D j ci ty hj hl hK
    refine ⟨by rw [zK_uF]; exact d1, fun k hm => ?_⟩
    rw [zuF_x, zuF_x]
    by_cases c : j = q ∧ k = i
    · rw [if_pos c, if_pos c]
    · rw [if_neg c, if_neg c]
      exact d2 k hm
theorem agl_ov (h : ¬ (17, 19) ∈ S ∧ ¬ (17, 33) ∈ S ∧ ¬ (17, 55) ∈ S) : agl S (zov A) A := by
  have e : zn lp_sh 343 = 17 := by decide +kernel
  unfold zov
  exact agl.tr (agl.tr (agl.nF (by decide) (by rw [e]; exact h.1)) (agl.nF (by decide) (by rw [e]; exact h.2.1))) (agl.nF (by decide) (by rw [e]; exact h.2.2))
end
/-! each part of it stays -/
section
variable {S : List (Nat × Nat)} {A A' : zW} {n m q : Int32}
theorem jE.ag (h : jE A n) (g : agl S A' A) (hs : ∀ y ∈ S_E, y ∈ S) : jE A' n := by
  obtain ⟨F, IR, N, D⟩ := g
  have f : ∀ q i, q < 385 → (zn lp_sh q, i) ∈ S_E → zF A' q i = zF A q i := fun q i a b => F q i a (hs _ b)
  have I : ∀ q i, q < 385 → (zn lp_sh q, 0) ∈ S_E → zI A' q i = zI A q i := fun q i a b => (IR q i a (hs _ b)).1
  have R : ∀ q i, q < 385 → (zn lp_sh q, 0) ∈ S_E → zR A' q i = zR A q i := fun q i a b => (IR q i a (hs _ b)).2
  have ke : ∀ k, k < 6 → (7, k) ∈ S_E := by decide
  refine h.tr (f _ _ (by decide) (by decide +kernel)) (f _ _ (by decide) (by decide +kernel)) (fun e => R _ _ (by decide) (by decide +kernel)) (fun i e a b => ?_) N (fun j a b c => ?_)
  · rcases (show i = 348 ∨ i = 349 ∨ i = 350 ∨ i = 351 ∨ i = 352 by omega) with rfl | rfl | rfl | rfl | rfl <;> exact I _ _ (by decide) (by decide +kernel)
  · obtain ⟨d1, d2⟩ := D j 4 7 a b c
    exact ⟨d1.trans c.symm, fun k hk => d2 k (hs _ (ke k hk))⟩
theorem jR.ag (h : jR A m) (g : agl S A' A) (hs : ∀ y ∈ S_R, y ∈ S) : jR A' m := by
  obtain ⟨F, IR, N, D⟩ := g
  have f : ∀ q i, q < 385 → (zn lp_sh q, i) ∈ S_R → zF A' q i = zF A q i := fun q i a b => F q i a (hs _ b)
  have I : ∀ q i, q < 385 → (zn lp_sh q, 0) ∈ S_R → zI A' q i = zI A q i := fun q i a b => (IR q i a (hs _ b)).1
  have R : ∀ q i, q < 385 → (zn lp_sh q, 0) ∈ S_R → zR A' q i = zR A q i := fun q i a b => (IR q i a (hs _ b)).2
  refine h.tr (f _ _ (by decide) (by decide +kernel)) (f _ _ (by decide) (by decide +kernel)) (fun e => R _ _ (by decide) (by decide +kernel)) (fun i e a b => ?_) N (fun j kd a b hd c => ?_)
  · rcases (show i = 357 ∨ i = 358 ∨ i = 359 ∨ i = 360 ∨ i = 361 by omega) with rfl | rfl | rfl | rfl | rfl <;> exact I _ _ (by decide) (by decide +kernel)
  · obtain ⟨d1, d2⟩ := D j _ _ a b c
    exact ⟨d1.trans c.symm, fun k hk => d2 k (hs _ (jrul_t hd hk))⟩
theorem jC.ag (h : jC A q) (g : agl S A' A) (hs : ∀ y ∈ S_C, y ∈ S) : jC A' q := by
  obtain ⟨F, IR, N, D⟩ := g
  have f : ∀ q i, q < 385 → (zn lp_sh q, i) ∈ S_C → zF A' q i = zF A q i := fun q i a b => F q i a (hs _ b)
  have I : ∀ q i, q < 385 → (zn lp_sh q, 0) ∈ S_C → zI A' q i = zI A q i := fun q i a b => (IR q i a (hs _ b)).1
  exact h.tr (f _ _ (by decide) (by decide +kernel)) (f _ _ (by decide) (by decide +kernel)) (fun _ => I _ _ (by decide) (by decide +kernel)) (fun _ => I _ _ (by decide) (by decide +kernel)) (fun _ => I _ _ (by decide) (by decide +kernel)) (fun _ => I _ _ (by decide) (by decide +kernel))
theorem jT.ag (h : jT A) (g : agl S A' A) (hs : ∀ y ∈ S_T, y ∈ S) : jT A' := by
  obtain ⟨F, IR, N, D⟩ := g
  have I : ∀ q i, q < 385 → (zn lp_sh q, 0) ∈ S_T → zI A' q i = zI A q i := fun q i a b => (IR q i a (hs _ b)).1
  exact h.tr (fun _ => I _ _ (by decide) (by decide +kernel)) (fun _ => I _ _ (by decide) (by decide +kernel))
theorem jV.ag (h : jV A) (g : agl S A' A) (hs : ∀ y ∈ S_V, y ∈ S) : jV A' := by
  obtain ⟨F, IR, N, D⟩ := g
  have f : ∀ q i, q < 385 → (zn lp_sh q, i) ∈ S_V → zF A' q i = zF A q i := fun q i a b => F q i a (hs _ b)
  exact h.tr (f _ _ (by decide) (by decide +kernel)) (f _ _ (by decide) (by decide +kernel)) (f _ _ (by decide) (by decide +kernel)) (f _ _ (by decide) (by decide +kernel))
theorem jH.ag (h : jH A n m) (g : agl S A' A) (hs : ∀ y ∈ S_H, y ∈ S) : jH A' n m := by
  obtain ⟨F, IR, N, D⟩ := g
  have I : ∀ q i, q < 385 → (zn lp_sh q, 0) ∈ S_H → zI A' q i = zI A q i := fun q i a b => (IR q i a (hs _ b)).1
  have R : ∀ q i, q < 385 → (zn lp_sh q, 0) ∈ S_H → zR A' q i = zR A q i := fun q i a b => (IR q i a (hs _ b)).2
  exact h.tr (Int.le_refl _) (Int.le_refl _) (fun _ => I _ _ (by decide) (by decide +kernel)) (fun _ => I _ _ (by decide) (by decide +kernel)) (fun _ => R _ _ (by decide) (by decide +kernel)) (fun _ _ => R _ _ (by decide) (by decide +kernel)) (fun _ _ => R _ _ (by decide) (by decide +kernel))
theorem jL.ag (h : jL A) (g : agl S A' A) (hs : ∀ y ∈ S_L, y ∈ S) : jL A' := by
  obtain ⟨F, IR, N, D⟩ := g
  have f : ∀ q i, q < 385 → (zn lp_sh q, i) ∈ S_L → zF A' q i = zF A q i := fun q i a b => F q i a (hs _ b)
  have I : ∀ q i, q < 385 → (zn lp_sh q, 0) ∈ S_L → zI A' q i = zI A q i := fun q i a b => (IR q i a (hs _ b)).1
  exact h.tr (f _ _ (by decide) (by decide +kernel)) (I _ _ (by decide) (by decide +kernel))
end
end
section
/-! trust, view: both sides -/
def ztrV (u x : Int32) : Option Int32 := if ¬ (0 ≤ u.toInt ∧ u.toInt < 6) then some (-1) else if ¬ (1 ≤ x.toInt ∧ x.toInt ≤ 9) then some (-2) else none
section
variable {u x : Int32}
theorem ztr_1 (h : ¬ (0 ≤ u.toInt ∧ u.toInt < 6)) : ztrV u x = some (-1) := if_pos h
theorem ztr_2 (h : 0 ≤ u.toInt ∧ u.toInt < 6) (h2 : ¬ (1 ≤ x.toInt ∧ x.toInt ≤ 9)) : ztrV u x = some (-2) := by
  unfold ztrV
  rw [if_neg (fun z => z h), if_pos h2]
theorem ztr_n (h : 0 ≤ u.toInt ∧ u.toInt < 6) (h2 : 1 ≤ x.toInt ∧ x.toInt ≤ 9) : ztrV u x = none := by
  unfold ztrV
  rw [if_neg (fun z => z h), if_neg (fun z => z h2)]
theorem ztr_g (h : ztrV u x = none) : (0 ≤ u.toInt ∧ u.toInt < 6) ∧ (1 ≤ x.toInt ∧ x.toInt ≤ 9) := by
  by_cases h1 : 0 ≤ u.toInt ∧ u.toInt < 6
  · by_cases h2 : 1 ≤ x.toInt ∧ x.toInt ≤ 9
    · exact ⟨h1, h2⟩
    · rw [ztr_2 h1 h2] at h
      cases h
  · rw [ztr_1 h1] at h
    cases h
end
def ztr_G (u x : Int32) (A A' : zW) : Prop := A' = zuI A 194 u.toInt.toNat x
def ztr_H (u x : Int32) (A A' : zW) : Prop := A' = zuF (zov (zuI A 345 u.toInt.toNat x)) 343 43 (.int (Int32.ofInt 0))
def zq_trust : zQ := zs (fun a : Int32 × Int32 => [.ref 0, .int a.1, .int a.2]) (fun _ _ => True) (fun a A rv A' => zhdQ (ztrV a.1 a.2) (zI A 194 a.1.toInt.toNat) (ztr_G a.1 a.2 A) A rv A')
def zq_trustM : zQ := zs (fun a : Int32 × Int32 => [.ref 343, .int a.1, .int a.2]) (fun _ _ => True) (fun a A rv A' => zhdQ (ztrV a.1 a.2) (zI A 345 a.1.toInt.toNat) (ztr_H a.1 a.2 A) A rv A')
set_option maxRecDepth 20000 in
set_option maxHeartbeats 4000000 in
theorem za_X11_trust : zdo r_X11_trust zq_trust := by
  refine zdo_of _ _ _ [(487, 1, q_isSource)] (fun _ _ => []) 60 fo_X11 rfl (zs_cons rfl za_X11_isSource zs_nil) k_X11_trust (fun _ _ _ => no_zh) (fun a A _ => ?_)
  obtain ⟨u, x⟩ := a
  have e1 : (Int32.ofInt 1).toInt = 1 := by decide
  have e9 : (Int32.ofInt 9).toInt = 9 := by decide
  have no : ∀ v : Int32, ztrV u x = some v → zhdQ (ztrV u x) (zI A 194 u.toInt.toNat) (ztr_G u x A) A (some (.int v)) A := fun v h => zhd_no h
  refine ⟨u, rfl, trivial, fun h => ?_, fun h => ?_⟩
  rotate_left
  · exact no _ (ztr_1 (zb_n (Classical.not_not.mp h)))
  have hu : 0 ≤ u.toInt ∧ u.toInt < 6 := zb_y h
  refine ⟨fun h => ?_, fun h => ⟨fun h2 => ?_, fun h2 => ?_⟩⟩
  · have h : x.toInt < (Int32.ofInt 1).toInt := h
    exact no _ (ztr_2 hu (by omega))
  · have h : ¬ x.toInt < (Int32.ofInt 1).toInt := h
    have h2 : x.toInt ≤ (Int32.ofInt 9).toInt := h2
    show zhdQ (ztrV u x) (zI A 194 u.toInt.toNat) (ztr_G u x A) A (some (.int (zI A 194 u.toInt.toNat))) (zuI A 194 u.toInt.toNat x)
    rw [ztr_n hu ⟨by omega, by omega⟩]
    exact ⟨rfl, rfl⟩
  · have h2 : ¬ x.toInt ≤ (Int32.ofInt 9).toInt := h2
    exact no _ (ztr_2 hu (by omega))
set_option maxRecDepth 20000 in
set_option maxHeartbeats 4000000 in
theorem za_X12_trust : zdo r_X12_trust zq_trustM := by
  refine zdo_of _ _ _ [(727, 1, q_noSource), (457, 3, zq_in), (741, 1, zq_otherView)] (fun _ _ => []) 60 fo_X12 rfl (zs_cons rfl za_X12_noSource (zs_cons rfl za_X12_in (zs_cons rfl za_X12_otherView zs_nil))) k_X12_trust (fun _ _ _ => no_zh) (fun a A _ => ?_)
  obtain ⟨u, x⟩ := a
  have e1 := ze1
  have e9 : (Int64.ofInt 9).toInt = 9 := by decide
  have ex := Int32.toInt_toInt64 x
  have no : ∀ v : Int32, ztrV u x = some v → zhdQ (ztrV u x) (zI A 345 u.toInt.toNat) (ztr_H u x A) A (some (.int v)) A := fun v h => zhd_no h
  refine ⟨u, rfl, trivial, fun h => ?_, fun h => ?_⟩
  rotate_left
  · exact no _ (ztr_1 (zb_y h))
  have hu : 0 ≤ u.toInt ∧ u.toInt < 6 := Classical.not_not.mp (zb_n h)
  refine ⟨(x.toInt64, Int64.ofNat 1, Int64.ofInt 9), rfl, trivial, fun h => ?_, fun h => ?_⟩
  · have hx : (Int64.ofNat 1).toInt ≤ x.toInt64.toInt ∧ x.toInt64.toInt ≤ (Int64.ofInt 9).toInt := zb_y h
    refine ⟨(), rfl, trivial, rfl, ?_⟩
    show zhdQ (ztrV u x) (zI A 345 u.toInt.toNat) (ztr_H u x A) A (some (.int (zI A 345 u.toInt.toNat))) (zuF (zov (zuI A 345 u.toInt.toNat x)) 343 43 (.int (Int32.ofInt 0)))
    rw [ztr_n hu ⟨by omega, by omega⟩]
    exact ⟨rfl, rfl⟩
  · have h := zb_n (Classical.not_not.mp h)
    exact no _ (ztr_2 hu (fun z => h ⟨by show (Int64.ofNat 1).toInt ≤ x.toInt64.toInt; omega, by show x.toInt64.toInt ≤ (Int64.ofInt 9).toInt; omega⟩))
/-- the view -/
def zvwV (t k : Int32) : Bool := decide ((0 ≤ t.toInt ∧ t.toInt < 100) ∧ (0 ≤ k.toInt ∧ k.toInt < 100))
def zvwQ (b : Bool) (G : zW → Prop) (A : zW) (rv : Option Value) (A' : zW) : Prop := (b = false ∧ rv = some (.int (-2)) ∧ A' = A) ∨ (b = true ∧ G A')
def zvw_G (t k : Int32) (A A' : zW) : Prop := ∃ X X2, (zN A ≤ zN X ∧ zN X ≤ zN X2) ∧ A' = zhv [] (zhv [] (zuF (zuF A 193 2 (.int t)) 193 3 (.int k)) X) X2
def zvw_H (t k : Int32) (A A' : zW) : Prop := ∃ X X2, (zN A ≤ zN X ∧ zN X ≤ zN X2) ∧ A' = zhv [] (zhv [(17, 17), (17, 19), (17, 20), (17, 21), (17, 23), (17, 25), (17, 26), (55, 0), (56, 0), (57, 0)] (zov (zuF (zuF A 343 15 (.int t)) 343 16 (.int k))) X) X2
def zq_view : zQ := zs (fun a : Int32 × Int32 => [.ref 0, .int a.1, .int a.2]) (fun _ _ => True) (fun a A rv A' => zvwQ (zvwV a.1 a.2) (zvw_G a.1 a.2 A) A rv A')
def zq_viewM : zQ := zs (fun a : Int32 × Int32 => [.ref 343, .int a.1, .int a.2]) (fun _ _ => True) (fun a A rv A' => zvwQ (zvwV a.1 a.2) (zvw_H a.1 a.2 A) A rv A')
def zQ_iv : zQ := zhq 1 []
def zQ_layM : zQ := zhq 0 [(17, 17), (17, 19), (17, 20), (17, 21), (17, 23), (17, 25), (17, 26), (55, 0), (56, 0), (57, 0)]
set_option maxRecDepth 20000 in
theorem za_X2_inView : zdo r_X2_inView zQ_iv := zdo_hv (by decide) (by decide)
set_option maxRecDepth 20000 in
theorem za_J6_bitCount : zdo r_J6_bitCount_0f7a4 zQ_iv := zdo_hv (by decide) (by decide)
set_option maxRecDepth 20000 in
theorem za_X12_lay : zdo r_X12_lay zQ_layM := zdo_hv (by decide) (by decide)
set_option maxRecDepth 20000 in
set_option maxHeartbeats 4000000 in
theorem za_X11_view : zdo r_X11_view zq_view := by
  refine zdo_of _ _ _ [(505, 1, q_isTime), (579, 1, zQ_iv), (589, 1, zQ_iv)] (fun _ _ => []) 60 fo_X11 rfl (zs_cons rfl za_X11_isTime (zs_cons rfl za_X2_inView (zs_cons rfl za_J6_bitCount zs_nil))) k_X11_view (fun _ _ _ => no_zh) (fun a A _ => ?_)
  obtain ⟨t, k⟩ := a
  have no : ¬ ((0 ≤ t.toInt ∧ t.toInt < 100) ∧ (0 ≤ k.toInt ∧ k.toInt < 100)) → zvwQ (zvwV t k) (zvw_G t k A) A (some (.int (-2))) A := fun h => Or.inl ⟨decide_eq_false h, rfl, rfl⟩
  refine ⟨t, rfl, trivial, fun h => ?_, fun h => ?_⟩
  · exact no (fun z => zb_n h z.1)
  have ht : 0 ≤ t.toInt ∧ t.toInt < 100 := zb_y h
  refine ⟨k, rfl, trivial, fun h => ?_, fun h => ?_⟩
  rotate_left
  · exact no (fun z => zb_n (Classical.not_not.mp h) z.2)
  have hk : 0 ≤ k.toInt ∧ k.toInt < 100 := zb_y h
  refine ⟨rfl, rfl, ?_⟩
  intro X x hx hX
  obtain ⟨x, rfl⟩ := hx
  intro X2 y hy hX2
  obtain ⟨y, rfl⟩ := hy
  have hX : zN A ≤ zN X := hX
  have hX2 : zN X ≤ zN X2 := hX2
  show zvwQ (zvwV t k) (zvw_G t k A) A (some (.int y)) (zhv [] (zhv [] (zuF (zuF A 193 2 (.int t)) 193 3 (.int k)) X) X2)
  exact Or.inr ⟨decide_eq_true ⟨ht, hk⟩, X, X2, ⟨hX, hX2⟩, rfl⟩
set_option maxRecDepth 20000 in
theorem za_X12_cbH : zdo r_X12_countBits zQ_iv := zdo_hv (by decide) (by decide)
def in_vw (t k : Int32) (A : zW) : fL_ → List Value → zW → Prop := fun lg vs A' => f_sub [(0, false, .ref 343), (1, false, .int t), (2, false, .int k)] lg ∧ vs = [] ∧ A' = A ∧ (0 ≤ t.toInt ∧ t.toInt < 100) ∧ (0 ≤ k.toInt ∧ k.toInt < 100)
def in_v2 (t k : Int32) (A : zW) : fL_ → List Value → zW → Prop := fun lg vs A' => f_sub [(0, false, .ref 343), (1, false, .int t), (2, false, .int k)] lg ∧ vs = [] ∧ A' = A ∧ (0 ≤ t.toInt ∧ t.toInt < 100)
set_option maxRecDepth 20000 in
set_option maxHeartbeats 4000000 in
theorem za_X12_view : zdo r_X12_view zq_viewM := by
  refine zdo_of _ _ _ [(457, 3, zq_in), (741, 1, zq_otherView), (924, 1, zQ_layM), (679, 1, zQ_iv)] (fun a A => [(12, in_v2 a.1 a.2 A), (27, in_vw a.1 a.2 A)]) 60 fo_X12 rfl (zs_cons rfl za_X12_in (zs_cons rfl za_X12_otherView (zs_cons rfl za_X12_lay (zs_cons rfl za_X12_cbH zs_nil)))) k_X12_view (fun a A _ => ?_) (fun a A _ => ?_)
  · obtain ⟨t, k⟩ := a
    refine List.forall_mem_cons.mpr ⟨?_, List.forall_mem_cons.mpr ⟨?_, fun _ h => absurd h List.not_mem_nil⟩⟩
    · rintro lg vs A' ⟨hs, rfl, rfl, ht⟩
      have ht : 0 ≤ t.toInt ∧ t.toInt < 100 := ht
      have e0 := ze0
      have e99 := ze99
      have ek := Int32.toInt_toInt64 k
      have no : ¬ (0 ≤ k.toInt ∧ k.toInt < 100) → zvwQ (zvwV t k) (zvw_H t k A') A' (some (.int (-2))) A' := fun h => Or.inl ⟨decide_eq_false (fun z => h z.2), rfl, rfl⟩
      refine ⟨_, 60, hs, (k.toInt64, Int64.ofNat 0, Int64.ofInt 99), rfl, trivial, fun h => ?_, fun h => ?_⟩
      rotate_left
      · have h := zb_n (Classical.not_not.mp h)
        exact no (fun z => h ⟨by show (Int64.ofNat 0).toInt ≤ k.toInt64.toInt; omega, by show k.toInt64.toInt ≤ (Int64.ofInt 99).toInt; omega⟩)
      have hk : (Int64.ofNat 0).toInt ≤ k.toInt64.toInt ∧ k.toInt64.toInt ≤ (Int64.ofInt 99).toInt := zb_y h
      have hk : 0 ≤ k.toInt ∧ k.toInt < 100 := ⟨by omega, by omega⟩
      exact ⟨⟨rfl, rfl, rfl, trivial⟩, rfl, rfl, ht, hk⟩
    · rintro lg vs A' ⟨hs, rfl, rfl, good⟩
      have good : (0 ≤ t.toInt ∧ t.toInt < 100) ∧ (0 ≤ k.toInt ∧ k.toInt < 100) := good
      refine ⟨_, 60, hs, rfl, rfl, (), rfl, trivial, ?_⟩
      intro X y hy hX
      obtain rfl : y = none := hy
      have hX : zN A' ≤ zN X := hX
      intro X2 y hy hX2
      obtain ⟨y, rfl⟩ := hy
      have hX2 : zN X ≤ zN X2 := hX2
      show zvwQ (zvwV t k) (zvw_H t k A') A' (some (.int y)) (zhv [] (zhv [(17, 17), (17, 19), (17, 20), (17, 21), (17, 23), (17, 25), (17, 26), (55, 0), (56, 0), (57, 0)] (zov (zuF (zuF A' 343 15 (.int t)) 343 16 (.int k))) X) X2)
      exact Or.inr ⟨decide_eq_true good, X, X2, ⟨hX, hX2⟩, rfl⟩
  · obtain ⟨t, k⟩ := a
    have e0 := ze0
    have e99 := ze99
    have et := Int32.toInt_toInt64 t
    have no : ¬ (0 ≤ t.toInt ∧ t.toInt < 100) → zvwQ (zvwV t k) (zvw_H t k A) A (some (.int (-2))) A := fun h => Or.inl ⟨decide_eq_false (fun z => h z.1), rfl, rfl⟩
    refine ⟨(t.toInt64, Int64.ofNat 0, Int64.ofInt 99), rfl, trivial, fun h => ?_, fun h => ?_⟩
    · have h := zb_n h
      exact no (fun z => h ⟨by show (Int64.ofNat 0).toInt ≤ t.toInt64.toInt; omega, by show t.toInt64.toInt ≤ (Int64.ofInt 99).toInt; omega⟩)
    have ht : (Int64.ofNat 0).toInt ≤ t.toInt64.toInt ∧ t.toInt64.toInt ≤ (Int64.ofInt 99).toInt := zb_y h
    have ht : 0 ≤ t.toInt ∧ t.toInt < 100 := ⟨by omega, by omega⟩
    exact ⟨⟨rfl, rfl, rfl, trivial⟩, rfl, rfl, ht⟩
/-! the pairs -/
theorem jx_T {A : zW} {i : Nat} {x : Int32} (h : jx A) : jx (zuI (zuI A 194 i x) 345 i x) := by
  obtain ⟨n, m, q, h1, h2, h3, h4, h5, h6, h7⟩ := h
  have g : agl (S_E ++ S_R ++ S_C ++ S_V ++ S_H ++ S_L) (zuI (zuI A 194 i x) 345 i x) A := agl.tr (agl.nI (by decide) (by decide +kernel)) (agl.nI (by decide) (by decide +kernel))
  refine ⟨n, m, q, h1.ag g (by decide), h2.ag g (by decide), h3.ag g (by decide), fun k hk => ?_, h5.ag g (by decide), h6.ag g (by decide), h7.ag g (by decide)⟩
  rw [zuI_ne (show (194 : Nat) ≠ 345 by decide), zuI_x, zuI_x, zuI_ne (show (345 : Nat) ≠ 194 by decide)]
  by_cases c : k = i
  · rw [if_pos ⟨rfl, c⟩, if_pos ⟨rfl, c⟩]
  · rw [if_neg (fun z => c z.2), if_neg (fun z => c z.2)]
    exact h4 k hk
theorem jx_V {A : zW} {t k : Int32} (h : jx A) : jx (zuF (zuF (zuF (zuF A 193 2 (.int t)) 193 3 (.int k)) 343 15 (.int t)) 343 16 (.int k)) := by
  obtain ⟨n, m, q, h1, h2, h3, h4, h5, h6, h7⟩ := h
  have g : agl (S_E ++ S_R ++ S_C ++ S_T ++ S_H ++ S_L) (zuF (zuF (zuF (zuF A 193 2 (.int t)) 193 3 (.int k)) 343 15 (.int t)) 343 16 (.int k)) A := agl.tr (agl.tr (agl.tr (agl.nF (by decide) (by decide +kernel)) (agl.nF (by decide) (by decide +kernel))) (agl.nF (by decide) (by decide +kernel))) (agl.nF (by decide) (by decide +kernel))
  exact ⟨n, m, q, h1.ag g (by decide), h2.ag g (by decide), h3.ag g (by decide), h4.ag g (by decide), ⟨t, k, rfl, rfl, rfl, rfl⟩, h6.ag g (by decide), h7.ag g (by decide)⟩
set_option maxRecDepth 20000 in
theorem pk7_trust {B : Nat → Nat} : ∀ (w w1 w2 : lW) (rv1 rv2 : Option Value) (u x : Int32), J7 B w → fLr r_X11_trust [.ref (B 0), .int u, .int x] w rv1 w1 → fLr r_X12_trust [.ref (B 343), .int u, .int x] w1 rv2 w2 → rv1 = rv2 ∧ J7 B w2 := by
  intro w w1 w2 rv1 rv2 u x hJ h1 h2
  have hb := hJ.1.1.b
  have hb1 : bI B w1 := hb.keep h1 (by decide)
  have h6 : J6 B w2 := fr6 h2 (fr6 h1 hJ.1 (by decide) (by decide) (by decide) (by decide) (by decide)) (by decide) (by decide) (by decide) (by decide) (by decide)
  obtain ⟨J6w, A, hA, hj⟩ := hJ
  obtain ⟨A1, u1, hA1, hv1, hQ1⟩ := zrun za_X11_trust h1 hA (zargs hb (by decide) (s := [.int u, .int x]) ⟨rfl, rfl, trivial⟩) (K := fun rv A' => zhdQ (ztrV u x) (zI A 194 u.toInt.toNat) (ztr_G u x A) A rv A') ⟨(u, x), rfl, trivial, fun _ _ h => h⟩
  obtain ⟨A2, u2, hA2, hv2, hQ2⟩ := zrun za_X12_trust h2 hA1 (zargs hb1 (by decide) (s := [.int u, .int x]) ⟨rfl, rfl, trivial⟩) (K := fun rv A' => zhdQ (ztrV u x) (zI A1 345 u.toInt.toNat) (ztr_H u x A1) A1 rv A') ⟨(u, x), rfl, trivial, fun _ _ h => h⟩
  unfold zhdQ at hQ1 hQ2
  cases hV : ztrV u x with
  | some v =>
    rw [hV] at hQ1 hQ2
    obtain ⟨e1, e2⟩ := hQ1
    obtain ⟨e3, e4⟩ := hQ2
    refine ⟨(zv_int hv1 e1).trans (zv_int hv2 e3).symm, h6, A2, hA2, ?_⟩
    rw [e4, e2]
    exact hj
  | none =>
    rw [hV] at hQ1 hQ2
    obtain ⟨e1, e2⟩ := hQ1
    obtain ⟨e3, e4⟩ := hQ2
    have e2 : A1 = zuI A 194 u.toInt.toNat x := e2
    have e4 : A2 = zuF (zov (zuI A1 345 u.toInt.toNat x)) 343 43 (.int (Int32.ofInt 0)) := e4
    obtain ⟨hu, -⟩ := ztr_g hV
    have ea : zI A1 345 u.toInt.toNat = zI A 194 u.toInt.toNat := by
      obtain ⟨n, m, q, g1, g2, g3, g4, g5, g6, g7⟩ := hj
      rw [e2, zuI_ne (show (345 : Nat) ≠ 194 by decide)]
      exact (g4 u.toInt.toNat (by omega)).symm
    rw [ea] at e3
    refine ⟨(zv_int hv1 e1).trans (zv_int hv2 e3).symm, h6, A2, hA2, ?_⟩
    rw [e4, e2]
    exact jx_agr (jx_T hj) (agl.x (agl.tr (agl_ov ⟨by decide, by decide, by decide⟩) (agl.nF (by decide) (by decide +kernel))))
set_option maxRecDepth 20000 in
theorem pk7_view {B : Nat → Nat} : ∀ (w w1 w2 : lW) (rv1 rv2 : Option Value) (t k : Int32), J7 B w → fLr r_X11_view [.ref (B 0), .int t, .int k] w rv1 w1 → fLr r_X12_view [.ref (B 343), .int t, .int k] w1 rv2 w2 → J7 B w2 := by
  intro w w1 w2 rv1 rv2 t k hJ h1 h2
  have hb := hJ.1.1.b
  have hb1 : bI B w1 := hb.keep h1 (by decide)
  have h6 : J6 B w2 := fr6 h2 (fr6 h1 hJ.1 (by decide) (by decide) (by decide) (by decide) (by decide)) (by decide) (by decide) (by decide) (by decide) (by decide)
  obtain ⟨J6w, A, hA, hj⟩ := hJ
  obtain ⟨A1, u1, hA1, hv1, hQ1⟩ := zrun za_X11_view h1 hA (zargs hb (by decide) (s := [.int t, .int k]) ⟨rfl, rfl, trivial⟩) (K := fun rv A' => zvwQ (zvwV t k) (zvw_G t k A) A rv A') ⟨(t, k), rfl, trivial, fun _ _ h => h⟩
  obtain ⟨A2, u2, hA2, hv2, hQ2⟩ := zrun za_X12_view h2 hA1 (zargs hb1 (by decide) (s := [.int t, .int k]) ⟨rfl, rfl, trivial⟩) (K := fun rv A' => zvwQ (zvwV t k) (zvw_H t k A1) A1 rv A') ⟨(t, k), rfl, trivial, fun _ _ h => h⟩
  refine ⟨h6, A2, hA2, ?_⟩
  rcases hQ1 with ⟨b1, -, e1⟩ | ⟨b1, X, X2, ⟨x1, x2⟩, e1⟩
  · rcases hQ2 with ⟨b2, -, e2⟩ | ⟨b2, X, X2, x1, e2⟩
    · rw [e2, e1]
      exact hj
    · rw [b1] at b2
      cases b2
  · rcases hQ2 with ⟨b2, -, e2⟩ | ⟨b2, Y, Y2, ⟨y1, y2⟩, e2⟩
    · rw [b1] at b2
      cases b2
    · have g1 : agl S_X A1 (zuF (zuF A 193 2 (.int t)) 193 3 (.int k)) := by
        rw [e1]
        exact agl.tr (agl.hv (X := X) (Wr := []) rfl x1) (agl.hv (X := X2) (Wr := []) rfl x2)
      have g2 : agl S_X A2 (zuF (zuF A1 343 15 (.int t)) 343 16 (.int k)) := by
        rw [e2]
        exact agl.tr (agl.tr (agl_ov ⟨by decide, by decide, by decide⟩) (agl.hv (X := Y) (Wr := [(17, 17), (17, 19), (17, 20), (17, 21), (17, 23), (17, 25), (17, 26), (55, 0), (56, 0), (57, 0)]) (by decide) y1)) (agl.hv (X := Y2) (Wr := []) rfl y2)
      exact jx_agr (jx_V (t := t) (k := k) hj) (agl.x (agl.tr (agl.uF (agl.uF g1)) g2))
end
section
/-! rule, claim: what they leave, and the pairs -/
section
variable {A : zW} {D : Nat → Value} {ci ty : Nat} {m s th un rk kd : Int32}
theorem zI_be {q p n a b : Nat} : zI (zbe A q p n) a b = zI A a b := rfl
theorem zF_be {q p n a b : Nat} : zF (zbe A q p n) a b = zF A a b := rfl
theorem zR_be {q p n a b : Nat} : zR (zbe A q p n) a b = zR A a b := rfl
theorem zK_be {q p n a : Nat} : zK (zbe A q p n) a = zK A a := rfl
theorem zN_be {q p n : Nat} : zN (zbe A q p n) = zN A := rfl
theorem zI_rul {p a b : Nat} : zI (zrul A p ci m s th un rk) a b = zI A a b := by
  unfold zrul
  rw [zI_uF, zI_uF, zI_uF, zI_uF, zI_uF]
theorem zR_rul {p a b : Nat} : zR (zrul A p ci m s th un rk) a b = zR A a b := by
  unfold zrul
  rw [zR_uF, zR_uF, zR_uF, zR_uF, zR_uF]
theorem zK_rul {p a : Nat} : zK (zrul A p ci m s th un rk) a = zK A a := by
  unfold zrul
  rw [zK_uF, zK_uF, zK_uF, zK_uF, zK_uF]
theorem zN_rul {p : Nat} : zN (zrul A p ci m s th un rk) = zN A := by
  unfold zrul
  rw [zN_uF, zN_uF, zN_uF, zN_uF, zN_uF]
theorem znR_N : zN (znR A D ci ty m s th un rk) = zN A + 1 := by
  unfold znR zkR
  rw [zN_uF, zN_be, zN_be, zN_be, zN_uR, zN_rul]
  rfl
theorem znR_I {q i : Nat} : zI (znR A D ci ty m s th un rk) q i = zI A q i := by
  unfold znR zkR
  rw [zI_uF, zI_be, zI_be, zI_be, zI_uR, zI_rul, zI_uN]
theorem znR_K {j : Nat} (h : j ≠ zN A) : zK (znR A D ci ty m s th un rk) j = zK A j := by
  unfold znR zkR
  rw [zK_uF, zK_be, zK_be, zK_be, zK_uR, zK_rul, zuN_K h]
theorem znR_Kn : zK (znR A D ci ty m s th un rk) (zN A) = (ci, ty) := by
  unfold znR zkR
  rw [zK_uF, zK_be, zK_be, zK_be, zK_uR, zK_rul, zuN_k]
theorem znR_F {q i : Nat} (hN : 385 ≤ zN A) (hq : q < 385) (h : ¬ (q = 207 ∧ i = 1)) : zF (znR A D ci ty m s th un rk) q i = zF A q i := by
  unfold znR zkR
  rw [zuF_x, if_neg h, zF_be, zF_be, zF_be, zF_uR, zrul_ne (znN hN hq), zuN_f (znN hN hq)]
theorem znR_c (hN : 385 ≤ zN A) (hm : zF A 207 1 = .int m) : iv (zF (zrul (zuN A ci ty D) (zN A) ci m s th un rk) 207 1) = m := by
  rw [zrul_ne (znN hN (by decide)), zuN_f (znN hN (by decide)), hm]
  rfl
theorem znR_1 (hN : 385 ≤ zN A) (hm : zF A 207 1 = .int m) : zF (znR A D ci ty m s th un rk) 207 1 = .int (m + 1) := by
  unfold znR zkR
  rw [zuF_x, if_pos ⟨rfl, rfl⟩, znR_c hN hm]
  rfl
theorem znR_R {q i : Nat} (hN : 385 ≤ zN A) (hm : zF A 207 1 = .int m) : zR (znR A D ci ty m s th un rk) q i = if q = 210 ∧ i = m.toInt.toNat then .ref (zN A) else zR A q i := by
  unfold znR zkR
  rw [zR_uF, zR_be, zR_be, zR_be, zuR_x, znR_c hN hm, zR_rul, zR_uN]
  rfl
theorem znR_d {j i : Nat} (h : j ≠ zN A) (h2 : 385 ≤ j) : zF (znR A D ci ty m s th un rk) j i = zF A j i := by
  unfold znR zkR
  rw [zuF_ne (by omega), zF_be, zF_be, zF_be, zF_uR, zrul_ne h, zuN_f h]
theorem znR_n {i : Nat} (hN : 385 ≤ zN A) : zF (znR A D ci ty m s th un rk) (zN A) i = zF (zrul (zuN A ci ty D) (zN A) ci m s th un rk) (zN A) i := by
  unfold znR zkR
  rw [zuF_ne (by omega), zF_be, zF_be, zF_be, zF_uR]
theorem agl_nR {S : List (Nat × Nat)} (hN : 385 ≤ zN A) (h1 : ¬ (30, 0) ∈ S) (h2 : ¬ (14, 1) ∈ S) : agl S (znR A D ci ty m s th un rk) A := by
  have e1 : zn lp_sh 210 = 30 := by decide +kernel
  have e2 : zn lp_sh 207 = 14 := by decide +kernel
  have g : agl S (zrul (zuN A ci ty D) (zN A) ci m s th un rk) A := by
    unfold zrul
    exact agl.dF (agl.dF (agl.dF (agl.dF (agl.dF (agl.new hN) (Nat.le_refl _) hN) (Nat.le_refl _) hN) (Nat.le_refl _) hN) (Nat.le_refl _) hN) (Nat.le_refl _) hN
  unfold znR zkR
  exact agl.tr g (agl.tr (agl.tr (agl.tr (agl.tr (agl.nR (by decide) (by rw [e1]; exact h1)) agl_be) agl_be) agl_be) (agl.nF (by decide) (by rw [e2]; exact h2)))
/-! the reference's -/
theorem zrm_F {q i : Nat} (h : ¬ (q = 343 ∧ (i = 27 ∨ i = 33))) : zF (zrm A kd s th un rk) q i = zF A q i := by
  unfold zrm
  rw [zuF_x, if_neg (fun z => h ⟨z.1, by omega⟩), zuF_x, if_neg (fun z => h ⟨z.1, by omega⟩), zF_uI, zF_uI, zF_uI, zF_uI, zF_uI]
theorem zrm_27 (hm : zF A 343 27 = .int m) : zF (zrm A kd s th un rk) 343 27 = .int (m + 1) := by
  unfold zrm
  rw [zuF_x, if_neg (fun z => by cases z.2), zuF_x, if_pos ⟨rfl, rfl⟩, hm]
  rfl
theorem zrm_I {q i : Nat} (h : q < 357 ∨ 361 < q) : zI (zrm A kd s th un rk) q i = zI A q i := by
  unfold zrm
  rw [zI_uF, zI_uF, zuI_ne (by omega), zuI_ne (by omega), zuI_ne (by omega), zuI_ne (by omega), zuI_ne (by omega)]
theorem zrm_at (hm : zF A 343 27 = .int m) (r : Nat) : zI (zrm A kd s th un rk) 357 r = (if r = m.toInt.toNat then kd else zI A 357 r) ∧ zI (zrm A kd s th un rk) 358 r = (if r = m.toInt.toNat then s else zI A 358 r) ∧ zI (zrm A kd s th un rk) 359 r = (if r = m.toInt.toNat then th else zI A 359 r) ∧ zI (zrm A kd s th un rk) 360 r = (if r = m.toInt.toNat then un else zI A 360 r) ∧ zI (zrm A kd s th un rk) 361 r = (if r = m.toInt.toNat then rk else zI A 361 r) := by
  have en : (iv (zF A 343 27)).toNatClampNeg = m.toInt.toNat := by
    rw [hm]
    rfl
  have one : ∀ (A : zW) (q : Nat) (v : Int32), zI (zuI A q m.toInt.toNat v) q r = if r = m.toInt.toNat then v else zI A q r := fun A q v => by
    rw [zuI_x]
    by_cases h : r = m.toInt.toNat
    · rw [if_pos ⟨rfl, h⟩, if_pos h]
    · rw [if_neg (fun z => h z.2), if_neg h]
  unfold zrm
  refine ⟨?_, ?_, ?_, ?_, ?_⟩
  · rw [zI_uF, zI_uF, en, zuI_ne (by decide), zuI_ne (by decide), zuI_ne (by decide), zuI_ne (by decide), one]
  · rw [zI_uF, zI_uF, en, zuI_ne (by decide), zuI_ne (by decide), zuI_ne (by decide), one, zuI_ne (by decide)]
  · rw [zI_uF, zI_uF, en, zuI_ne (by decide), zuI_ne (by decide), one, zuI_ne (by decide), zuI_ne (by decide)]
  · rw [zI_uF, zI_uF, en, zuI_ne (by decide), one, zuI_ne (by decide), zuI_ne (by decide), zuI_ne (by decide)]
  · rw [zI_uF, zI_uF, en, one, zuI_ne (by decide), zuI_ne (by decide), zuI_ne (by decide), zuI_ne (by decide)]
theorem zrm_R {q i : Nat} : zR (zrm A kd s th un rk) q i = zR A q i := by
  unfold zrm
  rw [zR_uF, zR_uF, zR_uI, zR_uI, zR_uI, zR_uI, zR_uI]
theorem zrm_K {j : Nat} : zK (zrm A kd s th un rk) j = zK A j := by
  unfold zrm
  rw [zK_uF, zK_uF, zK_uI, zK_uI, zK_uI, zK_uI, zK_uI]
theorem zrm_N : zN (zrm A kd s th un rk) = zN A := by
  unfold zrm
  rw [zN_uF, zN_uF, zN_uI, zN_uI, zN_uI, zN_uI, zN_uI]
theorem agl_rm {S : List (Nat × Nat)} (h : ∀ y ∈ [(17, 27), (17, 33), (58, 0), (59, 0), (60, 0), (61, 0), (62, 0)], ¬ y ∈ S) : agl S (zrm A kd s th un rk) A := by
  have a1 : ¬ (zn lp_sh 357, 0) ∈ S := h _ (by decide +kernel)
  have a2 : ¬ (zn lp_sh 358, 0) ∈ S := h _ (by decide +kernel)
  have a3 : ¬ (zn lp_sh 359, 0) ∈ S := h _ (by decide +kernel)
  have a4 : ¬ (zn lp_sh 360, 0) ∈ S := h _ (by decide +kernel)
  have a5 : ¬ (zn lp_sh 361, 0) ∈ S := h _ (by decide +kernel)
  have a6 : ¬ (zn lp_sh 343, 27) ∈ S := h _ (by decide +kernel)
  have a7 : ¬ (zn lp_sh 343, 33) ∈ S := h _ (by decide +kernel)
  unfold zrm
  exact agl.tr (agl.tr (agl.tr (agl.tr (agl.tr (agl.tr (agl.nI (by decide) a1) (agl.nI (by decide) a2)) (agl.nI (by decide) a3)) (agl.nI (by decide) a4)) (agl.nI (by decide) a5)) (agl.nF (by decide) a6)) (agl.nF (by decide) a7)
end
theorem jR_add {A : zW} {D : Nat → Value} {m kd s th un rk : Int32} (h : jR A m) (hm : m.toInt < 10) (hN : 385 ≤ zN A) (hk : 0 ≤ kd.toInt ∧ kd.toInt ≤ 2) : jR (zrm (znR A D (zkC kd) (zkY kd) m s th un rk) kd s th un rk) (m + 1) := by
  obtain ⟨⟨a1, a2, a2'⟩, a3, a4⟩ := h
  have hm7 : zF (znR A D (zkC kd) (zkY kd) m s th un rk) 343 27 = .int m := (znR_F hN (by decide) (by decide)).trans a3
  have hi := n_inc a2 (by omega)
  refine ⟨⟨?_, by omega, by omega⟩, zrm_27 hm7, fun r hr => ?_⟩
  · rw [zrm_F (by decide)]
    exact znR_1 hN a1
  · obtain ⟨g1, g2, g3, g4, g5⟩ := zrm_at (kd := kd) (s := s) (th := th) (un := un) (rk := rk) hm7 r
    by_cases ee : r = m.toInt.toNat
    · have d0 : ∀ i, zF (zrm (znR A D (zkC kd) (zkY kd) m s th un rk) kd s th un rk) (zN A) i = zF (zrul (zuN A (zkC kd) (zkY kd) D) (zN A) (zkC kd) m s th un rk) (zN A) i := fun i => by
        rw [zrm_F (by omega), znR_n hN]
      obtain ⟨r1, r2, r3, r4, r5⟩ := zrul_at (A := zuN A (zkC kd) (zkY kd) D) (p := zN A) (m := m) (s := s) (th := th) (un := un) (rk := rk) (zkS_k hk)
      rw [if_pos ee] at g1 g2 g3 g4 g5
      refine ⟨zN A, ?_, ⟨by rw [zrm_N, znR_N]; omega, by rw [g1]; exact hk⟩, ⟨hN, ?_, ?_, ?_, ?_⟩, ?_, ?_⟩
      · rw [zrm_R, znR_R hN a1, if_pos ⟨rfl, ee⟩]
      · rw [zrm_K, znR_Kn, g1]
      · rw [g1, d0, r1, ee]
        have en : m = Int32.ofNat m.toInt.toNat := n32_of (by omega)
        exact congrArg Value.int en
      · rw [g1, g3, d0, r3]
      · rw [g1, g4, d0, r4]
      · rw [g1, g2, d0, r2]
      · rw [g1, g5, d0, r5]
    · obtain ⟨j, b0, ⟨b1, b2⟩, ⟨c1, c2, c3, c4, c5⟩, c6, c7⟩ := a4 r (by omega)
      have nj : j ≠ zN A := by omega
      have d0 : ∀ i, zF (zrm (znR A D (zkC kd) (zkY kd) m s th un rk) kd s th un rk) j i = zF A j i := fun i => by
        rw [zrm_F (by omega), znR_d nj c1]
      rw [if_neg ee, znR_I] at g1 g2 g3 g4 g5
      refine ⟨j, ?_, ⟨by rw [zrm_N, znR_N]; omega, by rw [g1]; exact b2⟩, ⟨c1, ?_, ?_, ?_, ?_⟩, ?_, ?_⟩
      · rw [zrm_R, znR_R hN a1, if_neg (fun z => ee z.2)]
        exact b0
      · rw [zrm_K, znR_K nj, g1]; exact c2
      · rw [g1, d0]; exact c3
      · rw [g1, g3, d0]; exact c4
      · rw [g1, g4, d0]; exact c5
      · rw [g1, g2, d0]; exact c6
      · rw [g1, g5, d0]; exact c7
theorem jx_rul {A : zW} {D : Nat → Value} {n m q kd s th un rk : Int32} (h1 : jE A n) (h2 : jR A m) (h3 : jC A q) (h4 : jT A) (h5 : jV A) (h6 : jH A n m) (h7 : jL A) (hm : m.toInt < 10) (hN : 385 ≤ zN A) (hk : 0 ≤ kd.toInt ∧ kd.toInt ≤ 2) : jx (zrm (znR A D (zkC kd) (zkY kd) m s th un rk) kd s th un rk) := by
  have a1 := h2.1.1
  have m0 := h2.1.2.1
  have hi := n_inc m0 (by omega)
  have g : agl (S_E ++ S_C ++ S_T ++ S_V ++ S_L) (zrm (znR A D (zkC kd) (zkY kd) m s th un rk) kd s th un rk) A := agl.tr (agl_nR hN (by decide) (by decide)) (agl_rm (by decide))
  refine ⟨n, m + 1, q, h1.ag g (by decide), jR_add h2 hm hN hk, h3.ag g (by decide), h4.ag g (by decide), h5.ag g (by decide), h6.tr (by omega) (by omega) (fun _ => ?_) (fun _ => ?_) (fun _ => ?_) (fun e _ => ?_) (fun e he => ?_), h7.ag g (by decide)⟩
  · rw [zrm_I (by omega), znR_I]
  · rw [zrm_I (by omega), znR_I]
  · rw [zrm_R, znR_R hN a1, if_neg (fun z => by cases z.1)]
  · rw [zrm_R, znR_R hN a1, if_neg (fun z => by cases z.1)]
  · rw [zrm_R, znR_R hN a1, if_neg (fun z => by omega)]
set_option maxRecDepth 20000 in
theorem pk7_rule {B : Nat → Nat} : ∀ (w w1 w2 : lW) (rv1 rv2 : Option Value) (kd s th un rk : Int32), J7 B w → fLr r_X11_rule [.ref (B 0), .int kd, .int s, .int th, .int un, .int rk] w rv1 w1 → fLr r_X12_rule [.ref (B 343), .int kd, .int s, .int th, .int un, .int rk] w1 rv2 w2 → J6 B w2 → rv1 = rv2 ∧ J7 B w2 := by
  intro w w1 w2 rv1 rv2 kd s th un rk hJ h1 h2 h6
  have hb := hJ.1.1.b
  have hb1 : bI B w1 := hb.keep h1 (by decide)
  obtain ⟨tys, hw, -⟩ := h1.2.2.2.2.1
  obtain ⟨J6w, A, hA, n, m, q, g1, g2, g3, g4, g5, g6, g7⟩ := hJ
  obtain ⟨c, hc, hc', c0, c60⟩ := j7_c J6w hA hw
  have hN : 385 ≤ zN A := hA.2.1.2.2
  obtain ⟨A1, u1, hA1, hv1, hQ1⟩ := zrun za_X11_rule h1 hA (zargs hb (by decide) (s := [.int kd, .int s, .int th, .int un, .int rk]) ⟨rfl, rfl, rfl, rfl, rfl, trivial⟩) (K := fun rv A' => zru_Q ((c, m), kd, s, th, un, rk) A rv A') ⟨((c, m), kd, s, th, un, rk), rfl, ⟨⟨hc, c60⟩, g2.1, hN⟩, fun _ _ h => h⟩
  have hQ1 : zhdQ (zruV c m kd s th un rk) m (fun A' => ∃ D, A' = znR A D (zkC kd) (zkY kd) m s th un rk) A u1 A1 := hQ1
  have hpre : zF A1 343 1 = .int c ∧ zF A1 343 27 = .int m ∧ 0 ≤ m.toInt ∧ m.toInt ≤ 10 := by
    unfold zhdQ at hQ1
    split at hQ1
    · rw [hQ1.2]
      exact ⟨hc', g2.2.1, g2.1.2.1, g2.1.2.2⟩
    · obtain ⟨-, D, rfl⟩ := hQ1
      exact ⟨(znR_F hN (by decide) (by decide)).trans hc', (znR_F hN (by decide) (by decide)).trans g2.2.1, g2.1.2.1, g2.1.2.2⟩
  obtain ⟨A2, u2, hA2, hv2, hQ2⟩ := zrun za_X12_rule h2 hA1 (zargs hb1 (by decide) (s := [.int kd, .int s, .int th, .int un, .int rk]) ⟨rfl, rfl, rfl, rfl, rfl, trivial⟩) (K := fun rv A' => zrm_Q ((c, m), kd, s, th, un, rk) A1 rv A') ⟨((c, m), kd, s, th, un, rk), rfl, hpre, fun _ _ h => h⟩
  have hQ2 : zhdQ (zruV c m kd s th un rk) m (fun A' => A' = zrm A1 kd s th un rk) A1 u2 A2 := hQ2
  unfold zhdQ at hQ1 hQ2
  cases hV : zruV c m kd s th un rk with
  | some v =>
    rw [hV] at hQ1 hQ2
    obtain ⟨e1, e2⟩ := hQ1
    obtain ⟨e3, e4⟩ := hQ2
    refine ⟨(zv_int hv1 e1).trans (zv_int hv2 e3).symm, h6, A2, hA2, ?_⟩
    rw [e4, e2]
    exact ⟨n, m, q, g1, g2, g3, g4, g5, g6, g7⟩
  | none =>
    rw [hV] at hQ1 hQ2
    obtain ⟨e1, D, e2⟩ := hQ1
    obtain ⟨e3, e4⟩ := hQ2
    have e4 : A2 = zrm A1 kd s th un rk := e4
    obtain ⟨hk, -, -, hm⟩ := zru_g hV
    refine ⟨(zv_int hv1 e1).trans (zv_int hv2 e3).symm, h6, A2, hA2, ?_⟩
    rw [e4, e2]
    exact jx_rul g1 g2 g3 g4 g5 g6 g7 hm hN hk
/-! claim -/
set_option maxRecDepth 20000 in
theorem zcl_F' {A : zW} {s u : Int32} {b q i : Nat} (h : ¬ (q = 282 ∧ i = 0)) : zF (zkCl A s u b) q i = zF A q i := by
  unfold zkCl
  rw [zuF_x, if_neg h, zF_be, zF_uI, zF_uI]
set_option maxRecDepth 20000 in
theorem zcl_F0 {A : zW} {s u m : Int32} {b : Nat} (hm : zF A 282 0 = .int m) : zF (zkCl A s u b) 282 0 = .int (m + 1) := by
  unfold zkCl
  rw [zuF_x, if_pos ⟨rfl, rfl⟩, hm]
  rfl
theorem jx_clm {A : zW} {q s u : Int32} {b : Nat} (h : jx A) (hq : zF A 282 0 = .int q) (hm : q.toInt < 12) : jx (zcm (zkCl A s u b) s u) := by
  obtain ⟨n, m, q', h1, h2, h3, h4, h5, h6, h7⟩ := h
  obtain ⟨⟨a1, a2, a2'⟩, a3, a4⟩ := id h3
  have eq : q' = q := by
    rw [hq] at a1
    injection a1 with z
    exact z.symm
  subst eq
  have e1 : zn lp_sh 283 = 34 := by decide +kernel
  have hi := n_inc a2 (by omega)
  have m4 : zF (zkCl A s u b) 343 40 = .int q' := (zcl_F' (by decide)).trans a3
  have en : (iv (zF A 282 0)).toNatClampNeg = q'.toInt.toNat := by
    rw [hq]
    rfl
  have en2 : (iv (zF (zkCl A s u b) 343 40)).toNatClampNeg = q'.toInt.toNat := by
    rw [m4]
    rfl
  have g : agl (S_E ++ S_R ++ S_T ++ S_V ++ S_H ++ S_L) (zcm (zkCl A s u b) s u) A := by
    unfold zcm
    refine agl.tr (B := zkCl A s u b) ?_ (agl.tr (agl.tr (agl.tr (agl.nI (by decide) (by decide +kernel)) (agl.nI (by decide) (by decide +kernel))) (agl.nF (by decide) (by decide +kernel))) (agl.nF (by decide) (by decide +kernel)))
    unfold zkCl
    exact agl.tr (agl.tr (agl.tr (agl.nI (by decide) (by decide +kernel)) (agl.nI (by decide) (by decide +kernel))) agl_be) (agl.nF (by decide) (by decide +kernel))
  refine ⟨n, m, q' + 1, h1.ag g (by decide), h2.ag g (by decide), ⟨⟨?_, by omega, by omega⟩, ?_, fun k hk => ?_⟩, h4.ag g (by decide), h5.ag g (by decide), h6.ag g (by decide), h7.ag g (by decide)⟩
  · unfold zcm
    rw [zuF_x, if_neg (fun z => by cases z.1), zuF_x, if_neg (fun z => by cases z.1), zF_uI, zF_uI]
    exact zcl_F0 hq
  · unfold zcm
    rw [zuF_x, if_neg (fun z => by cases z.2), zuF_x, if_pos ⟨rfl, rfl⟩, m4]
    rfl
  · have one : ∀ (A : zW) (p : Nat) (v : Int32), zI (zuI A p q'.toInt.toNat v) p k = if k = q'.toInt.toNat then v else zI A p k := fun A p v => by
      rw [zuI_x]
      by_cases h : k = q'.toInt.toNat
      · rw [if_pos ⟨rfl, h⟩, if_pos h]
      · rw [if_neg (fun z => h z.2), if_neg h]
    have c1 : zI (zkCl A s u b) 283 k = if k = q'.toInt.toNat then s else zI A 283 k := by
      unfold zkCl
      rw [zI_uF, zI_be, en, zuI_ne (by decide), one]
    have c2 : zI (zkCl A s u b) 284 k = if k = q'.toInt.toNat then u else zI A 284 k := by
      unfold zkCl
      rw [zI_uF, zI_be, en, one, zuI_ne (by decide)]
    have c3 : ∀ p, p ≠ 283 → p ≠ 284 → zI (zkCl A s u b) p k = zI A p k := fun p h1 h2 => by
      unfold zkCl
      rw [zI_uF, zI_be, zuI_ne h2, zuI_ne h1]
    have d1 : zI (zcm (zkCl A s u b) s u) 283 k = zI (zkCl A s u b) 283 k := by
      unfold zcm
      rw [zI_uF, zI_uF, zuI_ne (by decide), zuI_ne (by decide)]
    have d2 : zI (zcm (zkCl A s u b) s u) 284 k = zI (zkCl A s u b) 284 k := by
      unfold zcm
      rw [zI_uF, zI_uF, zuI_ne (by decide), zuI_ne (by decide)]
    have d3 : zI (zcm (zkCl A s u b) s u) 366 k = if k = q'.toInt.toNat then s else zI A 366 k := by
      unfold zcm
      rw [zI_uF, zI_uF, en2, zuI_ne (by decide), one, c3 366 (by decide) (by decide)]
    have d4 : zI (zcm (zkCl A s u b) s u) 367 k = if k = q'.toInt.toNat then u else zI A 367 k := by
      unfold zcm
      rw [zI_uF, zI_uF, en2, one, zuI_ne (by decide), c3 367 (by decide) (by decide)]
    rw [d1, d2, d3, d4, c1, c2]
    by_cases e : k = q'.toInt.toNat
    · rw [if_pos e, if_pos e, if_pos e, if_pos e]
      exact ⟨rfl, rfl⟩
    · rw [if_neg e, if_neg e, if_neg e, if_neg e]
      exact a4 k (by omega)
set_option maxRecDepth 20000 in
theorem pk7_claim {B : Nat → Nat} : ∀ (w w1 w2 : lW) (rv1 rv2 : Option Value) (s u : Int32), J7 B w → fLr r_X11_claim [.ref (B 0), .int s, .int u] w rv1 w1 → fLr r_X12_claim [.ref (B 343), .int s, .int u] w1 rv2 w2 → J6 B w2 → rv1 = rv2 ∧ J7 B w2 := by
  intro w w1 w2 rv1 rv2 s u hJ h1 h2 h6
  have hb := hJ.1.1.b
  have hb1 : bI B w1 := hb.keep h1 (by decide)
  obtain ⟨tys, hw, -⟩ := h1.2.2.2.2.1
  obtain ⟨J6w, A, hA, hj⟩ := hJ
  obtain ⟨n, m, q, g1, g2, g3, g4, g5, g6, g7⟩ := id hj
  obtain ⟨c, hc, hc', c0, c60⟩ := j7_c J6w hA hw
  obtain ⟨A1, u1, hA1, hv1, hQ1⟩ := zrun za_X11_claim h1 hA (zargs hb (by decide) (s := [.int s, .int u]) ⟨rfl, rfl, trivial⟩) (K := fun rv A' => zcl_Q ((c, q), s, u) A rv A') ⟨((c, q), s, u), rfl, ⟨⟨hc, c60⟩, g3.1⟩, fun _ _ h => h⟩
  have hQ1 : zhdQ (zclV c q s u) q (fun A' => A' = zkCl A s u (2 + 2 * s.toInt.toNat)) A u1 A1 := hQ1
  have hpre : zF A1 343 1 = .int c ∧ zF A1 343 40 = .int q ∧ 0 ≤ q.toInt ∧ q.toInt ≤ 12 := by
    unfold zhdQ at hQ1
    split at hQ1
    · rw [hQ1.2]
      exact ⟨hc', g3.2.1, g3.1.2.1, g3.1.2.2⟩
    · obtain ⟨-, e⟩ := hQ1
      rw [e]
      exact ⟨(zcl_F' (by decide)).trans hc', (zcl_F' (by decide)).trans g3.2.1, g3.1.2.1, g3.1.2.2⟩
  obtain ⟨A2, u2, hA2, hv2, hQ2⟩ := zrun za_X12_claim h2 hA1 (zargs hb1 (by decide) (s := [.int s, .int u]) ⟨rfl, rfl, trivial⟩) (K := fun rv A' => zcm_Q ((c, q), s, u) A1 rv A') ⟨((c, q), s, u), rfl, hpre, fun _ _ h => h⟩
  have hQ2 : zhdQ (zclV c q s u) q (fun A' => A' = zcm A1 s u) A1 u2 A2 := hQ2
  unfold zhdQ at hQ1 hQ2
  cases hV : zclV c q s u with
  | some v =>
    rw [hV] at hQ1 hQ2
    obtain ⟨e1, e2⟩ := hQ1
    obtain ⟨e3, e4⟩ := hQ2
    refine ⟨(zv_int hv1 e1).trans (zv_int hv2 e3).symm, h6, A2, hA2, ?_⟩
    rw [e4, e2]
    exact hj
  | none =>
    rw [hV] at hQ1 hQ2
    obtain ⟨e1, e2⟩ := hQ1
    obtain ⟨e3, e4⟩ := hQ2
    have e4 : A2 = zcm A1 s u := e4
    obtain ⟨-, hm⟩ := zcl_g hV
    refine ⟨(zv_int hv1 e1).trans (zv_int hv2 e3).symm, h6, A2, hA2, ?_⟩
    rw [e4, e2]
    exact jx_clm hj g3.1.1 hm
end
section
/-! take, loose, tell, show, as: the pairs -/
section
variable {A : zW} {n m q : Int32}
/-- what a hold has, by what the reference keeps of it -/
theorem j_hl {k : Nat} (h1 : jE A n) (h2 : jR A m) (h6 : jH A n m) (hk : k < 6) : zhl A k (zI A 379 k) (zI A 380 k) (zI A 348 (zI A 380 k).toInt.toNat) (zI A 357 (zI A 380 k).toInt.toNat) (zI A 359 (zI A 380 k).toInt.toNat) (zI A 360 (zI A 380 k).toInt.toNat) := by
  rcases h6 k hk with a | ⟨a, b, c⟩ | ⟨a, b, c⟩
  · exact Or.inl a
  · obtain ⟨j, b0, ⟨b1, b2, b3⟩, c0, c1, -⟩ := h1.2.2 (zI A 380 k).toInt.toNat (by omega)
    have en : zI A 380 k = Int32.ofNat (zI A 380 k).toInt.toNat := n32_of (by omega)
    refine Or.inr (Or.inl ⟨a, j, c.trans b0, b1, b3, ?_, c1⟩)
    exact c0.trans (congrArg Value.int en.symm)
  · obtain ⟨j, b0, ⟨b1, b2⟩, ⟨c1, c2, c3, c4, c5⟩, -⟩ := h2.2.2 (zI A 380 k).toInt.toNat (by omega)
    have en : zI A 380 k = Int32.ofNat (zI A 380 k).toInt.toNat := n32_of (by omega)
    refine Or.inr (Or.inr ⟨a, b2, j, c.trans b0, c1, c2, ?_, c4, c5⟩)
    exact c3.trans (congrArg Value.int en.symm)
/-- a hold's kind of rule is one -/
theorem j_kd {k : Nat} (h2 : jR A m) (h6 : jH A n m) (hk : k < 6) (h : ¬ (zI A 379 k).toInt < 0) (h0 : ¬ (zI A 379 k).toInt = 0) : 0 ≤ (zI A 357 (zI A 380 k).toInt.toNat).toInt ∧ (zI A 357 (zI A 380 k).toInt.toNat).toInt ≤ 2 := by
  rcases h6 k hk with ⟨a, -⟩ | ⟨a, -⟩ | ⟨a, b, c⟩
  · exact absurd a h
  · exact absurd a h0
  · obtain ⟨j, b0, ⟨b1, b2⟩, -⟩ := h2.2.2 (zI A 380 k).toInt.toNat (by omega)
    exact b2
theorem jE.rf (h : jE A n) : zref A 195 n := fun e he => by
  obtain ⟨j, b0, -⟩ := h.2.2 e he
  exact ⟨j, b0⟩
theorem jR.rf (h : jR A m) : zref A 210 m := fun e he => by
  obtain ⟨j, b0, -⟩ := h.2.2 e he
  exact ⟨j, b0⟩
end
def ztkM (A : zW) (k : Nat) (y x : Int32) (v : Value) : zW := zuI (zuI (zuR A 334 k v) 379 k y) 380 k x
section
variable {A : zW} {k i : Nat} {y x : Int32} {v : Value}
theorem ztkM_1 : zI (ztkM A k y x v) 379 i = if i = k then y else zI A 379 i := by
  unfold ztkM
  rw [zuI_ne (show (379 : Nat) ≠ 380 by decide), zuI_x, zI_uR]
  by_cases h : i = k
  · rw [if_pos ⟨rfl, h⟩, if_pos h]
  · rw [if_neg (fun z => h z.2), if_neg h]
theorem ztkM_2 : zI (ztkM A k y x v) 380 i = if i = k then x else zI A 380 i := by
  unfold ztkM
  rw [zuI_x, zuI_ne (show (380 : Nat) ≠ 379 by decide), zI_uR]
  by_cases h : i = k
  · rw [if_pos ⟨rfl, h⟩, if_pos h]
  · rw [if_neg (fun z => h z.2), if_neg h]
theorem ztkM_3 : zR (ztkM A k y x v) 334 i = if i = k then v else zR A 334 i := by
  unfold ztkM
  rw [zR_uI, zR_uI, zuR_x]
  by_cases h : i = k
  · rw [if_pos ⟨rfl, h⟩, if_pos h]
  · rw [if_neg (fun z => h z.2), if_neg h]
theorem ztkM_4 {p : Nat} (h : p ≠ 334) : zR (ztkM A k y x v) p i = zR A p i := by
  unfold ztkM
  rw [zR_uI, zR_uI, zuR_x, if_neg (fun z => h z.1)]
theorem ztkM_g : agl (S_E ++ S_R ++ S_C ++ S_T ++ S_V ++ S_L) (ztkM A k y x v) A := by
  unfold ztkM
  exact agl.tr (agl.tr (agl.nR (by decide) (by decide +kernel)) (agl.nI (by decide) (by decide +kernel))) (agl.nI (by decide) (by decide +kernel))
end
theorem jx_tk {A : zW} {n m q k y x : Int32} (h1 : jE A n) (h2 : jR A m) (h3 : jC A q) (h4 : jT A) (h5 : jV A) (h6 : jH A n m) (h7 : jL A) (hy : 0 ≤ y.toInt ∧ y.toInt ≤ 1) (hx : 0 ≤ x.toInt ∧ x.toInt < (if y.toInt = 0 then n else m).toInt) : jx (ztkM A k.toInt.toNat y x (zR A (if y.toInt = 0 then 195 else 210) x.toInt.toNat)) := by
  have g := ztkM_g (A := A) (k := k.toInt.toNat) (y := y) (x := x) (v := zR A (if y.toInt = 0 then 195 else 210) x.toInt.toNat)
  refine ⟨n, m, q, h1.ag g (by decide), h2.ag g (by decide), h3.ag g (by decide), h4.ag g (by decide), h5.ag g (by decide), fun i hi => ?_, h7.ag g (by decide)⟩
  unfold jhd
  rw [ztkM_1, ztkM_2, ztkM_3, ztkM_4 (by decide), ztkM_4 (by decide)]
  by_cases c : i = k.toInt.toNat
  · rw [if_pos c, if_pos c, if_pos c]
    by_cases hy0 : y.toInt = 0
    · rw [if_pos hy0] at hx
      exact Or.inr (Or.inl ⟨hy0, hx, by rw [if_pos hy0]⟩)
    · rw [if_neg hy0] at hx
      exact Or.inr (Or.inr ⟨by omega, hx, by rw [if_neg hy0]⟩)
  · rw [if_neg c, if_neg c, if_neg c]
    exact h6 i hi
set_option maxRecDepth 20000 in
theorem pk7_take {B : Nat → Nat} : ∀ (w w1 w2 : lW) (rv1 rv2 : Option Value) (k y x : Int32), J7 B w → fLr r_X11_take [.ref (B 0), .int k, .int y, .int x] w rv1 w1 → fLr r_X12_take [.ref (B 343), .int k, .int y, .int x] w1 rv2 w2 → rv1 = rv2 ∧ J7 B w2 := by
  intro w w1 w2 rv1 rv2 k y x hJ h1 h2
  have hb := hJ.1.1.b
  have hb1 : bI B w1 := hb.keep h1 (by decide)
  have h6 : J6 B w2 := fr6 h2 (fr6 h1 hJ.1 (by decide) (by decide) (by decide) (by decide) (by decide)) (by decide) (by decide) (by decide) (by decide) (by decide)
  obtain ⟨J6w, A, hA, n, m, q, g1, g2, g3, g4, g5, g6, g7⟩ := hJ
  obtain ⟨A1, u1, hA1, hv1, hQ1⟩ := zrun za_X11_take h1 hA (zargs hb (by decide) (s := [.int k, .int y, .int x]) ⟨rfl, rfl, rfl, trivial⟩) (K := fun rv A' => ztk_Q ((n, m), k, y, x) A rv A') ⟨((n, m), k, y, x), rfl, ⟨g1.1, g2.1, g1.rf, g2.rf⟩, fun _ _ h => h⟩
  have hQ1 : zhdQ (ztkV n m k y x) 1 (fun A' => A' = zuR A 334 k.toInt.toNat (zR A (if y.toInt = 0 then 195 else 210) x.toInt.toNat)) A u1 A1 := hQ1
  have hpre : zF A1 343 8 = .int n ∧ zF A1 343 27 = .int m := by
    unfold zhdQ at hQ1
    split at hQ1
    · rw [hQ1.2]
      exact ⟨g1.2.1, g2.2.1⟩
    · obtain ⟨-, e⟩ := hQ1
      rw [e, zF_uR, zF_uR]
      exact ⟨g1.2.1, g2.2.1⟩
  obtain ⟨A2, u2, hA2, hv2, hQ2⟩ := zrun za_X12_take h2 hA1 (zargs hb1 (by decide) (s := [.int k, .int y, .int x]) ⟨rfl, rfl, rfl, trivial⟩) (K := fun rv A' => ztm_Q ((n, m), k, y, x) A1 rv A') ⟨((n, m), k, y, x), rfl, hpre, fun _ _ h => h⟩
  have hQ2 : zhdQ (ztkV n m k y x) 1 (fun A' => A' = zuI (zuI A1 379 k.toInt.toNat y) 380 k.toInt.toNat x) A1 u2 A2 := hQ2
  unfold zhdQ at hQ1 hQ2
  cases hV : ztkV n m k y x with
  | some v =>
    rw [hV] at hQ1 hQ2
    obtain ⟨e1, e2⟩ := hQ1
    obtain ⟨e3, e4⟩ := hQ2
    refine ⟨(zv_int hv1 e1).trans (zv_int hv2 e3).symm, h6, A2, hA2, ?_⟩
    rw [e4, e2]
    exact ⟨n, m, q, g1, g2, g3, g4, g5, g6, g7⟩
  | none =>
    rw [hV] at hQ1 hQ2
    obtain ⟨e1, e2⟩ := hQ1
    obtain ⟨e3, e4⟩ := hQ2
    have e4 : A2 = zuI (zuI A1 379 k.toInt.toNat y) 380 k.toInt.toNat x := e4
    obtain ⟨-, hy, hx⟩ := ztk_g hV
    refine ⟨(zv_int hv1 e1).trans (zv_int hv2 e3).symm, h6, A2, hA2, ?_⟩
    rw [e4, e2]
    exact jx_tk (k := k) (y := y) (x := x) g1 g2 g3 g4 g5 g6 g7 hy hx
/-- loose -/
def zlsM (A : zW) (k : Nat) : zW := zuI (zuR A 334 k .null) 379 k (Int32.ofInt (-9))
section
variable {A : zW} {k i : Nat}
theorem zlsM_1 : zI (zlsM A k) 379 i = if i = k then Int32.ofInt (-9) else zI A 379 i := by
  unfold zlsM
  rw [zuI_x, zI_uR]
  by_cases h : i = k
  · rw [if_pos ⟨rfl, h⟩, if_pos h]
  · rw [if_neg (fun z => h z.2), if_neg h]
theorem zlsM_2 {p : Nat} (h : p ≠ 379) : zI (zlsM A k) p i = zI A p i := by
  unfold zlsM
  rw [zuI_ne h, zI_uR]
theorem zlsM_3 : zR (zlsM A k) 334 i = if i = k then .null else zR A 334 i := by
  unfold zlsM
  rw [zR_uI, zuR_x]
  by_cases h : i = k
  · rw [if_pos ⟨rfl, h⟩, if_pos h]
  · rw [if_neg (fun z => h z.2), if_neg h]
theorem zlsM_4 {p : Nat} (h : p ≠ 334) : zR (zlsM A k) p i = zR A p i := by
  unfold zlsM
  rw [zR_uI, zuR_x, if_neg (fun z => h z.1)]
theorem zlsM_g : agl (S_E ++ S_R ++ S_C ++ S_T ++ S_V ++ S_L) (zlsM A k) A := by
  unfold zlsM
  exact agl.tr (agl.nR (by decide) (by decide +kernel)) (agl.nI (by decide) (by decide +kernel))
end
theorem jx_ls {A : zW} {k : Nat} (h : jx A) : jx (zlsM A k) := by
  obtain ⟨n, m, q, h1, h2, h3, h4, h5, h6, h7⟩ := h
  have g := zlsM_g (A := A) (k := k)
  refine ⟨n, m, q, h1.ag g (by decide), h2.ag g (by decide), h3.ag g (by decide), h4.ag g (by decide), h5.ag g (by decide), fun i hi => ?_, h7.ag g (by decide)⟩
  unfold jhd
  rw [zlsM_1, zlsM_2 (by decide), zlsM_3, zlsM_4 (by decide), zlsM_4 (by decide)]
  by_cases c : i = k
  · rw [if_pos c, if_pos c]
    exact Or.inl ⟨by decide, rfl⟩
  · rw [if_neg c, if_neg c]
    exact h6 i hi
theorem j_ls {A : zW} {n m : Int32} {k : Nat} (h1 : jE A n) (h2 : jR A m) (h6 : jH A n m) (hk : k < 6) : (¬ zR A 334 k = .null) ↔ 0 ≤ (zI A 379 k).toInt := by
  rcases h6 k hk with ⟨a, b⟩ | ⟨a, b, c⟩ | ⟨a, b, c⟩
  · exact ⟨fun z => absurd b z, fun z => by omega⟩
  · obtain ⟨j, b0, -⟩ := h1.2.2 (zI A 380 k).toInt.toNat (by omega)
    refine ⟨fun _ => by omega, fun _ z => ?_⟩
    rw [c, b0] at z
    cases z
  · obtain ⟨j, b0, -⟩ := h2.2.2 (zI A 380 k).toInt.toNat (by omega)
    refine ⟨fun _ => by omega, fun _ z => ?_⟩
    rw [c, b0] at z
    cases z
set_option maxRecDepth 20000 in
theorem pk7_loose {B : Nat → Nat} : ∀ (w w1 w2 : lW) (rv1 rv2 : Option Value) (k : Int32), J7 B w → fLr r_X11_loose [.ref (B 0), .int k] w rv1 w1 → fLr r_X12_loose [.ref (B 343), .int k] w1 rv2 w2 → rv1 = rv2 ∧ J7 B w2 := by
  intro w w1 w2 rv1 rv2 k hJ h1 h2
  have hb := hJ.1.1.b
  have hb1 : bI B w1 := hb.keep h1 (by decide)
  have h6 : J6 B w2 := fr6 h2 (fr6 h1 hJ.1 (by decide) (by decide) (by decide) (by decide) (by decide)) (by decide) (by decide) (by decide) (by decide) (by decide)
  obtain ⟨J6w, A, hA, hj⟩ := hJ
  obtain ⟨n, m, q, g1, g2, g3, g4, g5, g6, g7⟩ := id hj
  obtain ⟨A1, u1, hA1, hv1, hQ1⟩ := zrun za_X11_loose h1 hA (zargs hb (by decide) (s := [.int k]) ⟨rfl, trivial⟩) (K := fun rv A' => zlsQ k (decide ¬ zR A 334 k.toInt.toNat = .null) (fun A' => A' = zuR A 334 k.toInt.toNat .null) A rv A') ⟨k, rfl, trivial, fun _ _ h => h⟩
  obtain ⟨A2, u2, hA2, hv2, hQ2⟩ := zrun za_X12_loose h2 hA1 (zargs hb1 (by decide) (s := [.int k]) ⟨rfl, trivial⟩) (K := fun rv A' => zlsQ k (decide (0 ≤ (zI A1 379 k.toInt.toNat).toInt)) (fun A' => A' = zuI A1 379 k.toInt.toNat (Int32.ofInt (-9))) A1 rv A') ⟨k, rfl, trivial, fun _ _ h => h⟩
  rcases hQ1 with ⟨b1, e1, e2⟩ | ⟨b1, e1, e2⟩
  · rcases hQ2 with ⟨b2, e3, e4⟩ | ⟨b2, e3, e4⟩
    · refine ⟨(zv_int hv1 e1).trans (zv_int hv2 e3).symm, h6, A2, hA2, ?_⟩
      rw [e4, e2]
      exact hj
    · exact absurd b2 b1
  · rcases hQ2 with ⟨b2, e3, e4⟩ | ⟨b2, e3, e4⟩
    · exact absurd b1 b2
    · have e2 : A1 = zuR A 334 k.toInt.toNat .null := e2
      have e4 : A2 = zuI A1 379 k.toInt.toNat (Int32.ofInt (-9)) := e4
      have ee : (decide ¬ zR A 334 k.toInt.toNat = .null) = decide (0 ≤ (zI A1 379 k.toInt.toNat).toInt) := by
        rw [e2, zI_uR]
        have hi := j_ls (k := k.toInt.toNat) g1 g2 g6 (by omega)
        by_cases c : 0 ≤ (zI A 379 k.toInt.toNat).toInt
        · rw [decide_eq_true c, decide_eq_true (hi.mpr c)]
        · rw [decide_eq_false c, decide_eq_false (fun z => c (hi.mp z))]
      rw [← ee] at e3
      refine ⟨(zv_int hv1 e1).trans (zv_int hv2 e3).symm, h6, A2, hA2, ?_⟩
      rw [e4, e2]
      exact jx_ls (k := k.toInt.toNat) hj
/-! as, tell, show -/
theorem jx_tl {A : zW} {f f2 t : Int32} (h : jx A) : jx (zuF (zuF (zuI (zuF A 0 14 (.int f)) 342 0 t) 343 63 (.int t)) 343 0 (.int f2)) := by
  obtain ⟨n, m, q, h1, h2, h3, h4, h5, h6, h7⟩ := h
  have g : agl (S_E ++ S_R ++ S_C ++ S_T ++ S_V ++ S_H) (zuF (zuF (zuI (zuF A 0 14 (.int f)) 342 0 t) 343 63 (.int t)) 343 0 (.int f2)) A := agl.tr (agl.tr (agl.tr (agl.nF (by decide) (by decide +kernel)) (agl.nI (by decide) (by decide +kernel))) (agl.nF (by decide) (by decide +kernel))) (agl.nF (by decide) (by decide +kernel))
  exact ⟨n, m, q, h1.ag g (by decide), h2.ag g (by decide), h3.ag g (by decide), h4.ag g (by decide), h5.ag g (by decide), h6.ag g (by decide), rfl⟩
set_option maxRecDepth 20000 in
theorem pk7_tell {B : Nat → Nat} : ∀ (w w1 w2 : lW) (rv1 rv2 : Option Value) (k : Int32), J7 B w → fLr r_X11_tell [.ref (B 0), .int k] w rv1 w1 → fLr r_X12_tell [.ref (B 343), .int k] w1 rv2 w2 → rv1 = rv2 ∧ J7 B w2 := by
  intro w w1 w2 rv1 rv2 k hJ h1 h2
  have hb := hJ.1.1.b
  have hb1 : bI B w1 := hb.keep h1 (by decide)
  have h6 : J6 B w2 := fr6 h2 (fr6 h1 hJ.1 (by decide) (by decide) (by decide) (by decide) (by decide)) (by decide) (by decide) (by decide) (by decide) (by decide)
  obtain ⟨J6w, A, hA, hj⟩ := hJ
  obtain ⟨n, m, q, g1, g2, g3, g4, g5, g6, g7⟩ := id hj
  let i := (zI A 380 k.toInt.toNat).toInt.toNat
  obtain ⟨A1, u1, hA1, hv1, hQ1⟩ := zrun za_X11_tell h1 hA (zargs hb (by decide) (s := [.int k]) ⟨rfl, trivial⟩) (K := fun rv A' => ztc (ztlV k (zI A 379 k.toInt.toNat) (zI A 348 i) (zI A 357 i) (zI A 359 i) (zI A 360 i)) (ztlT (zI A 342 0) k (zI A 379 k.toInt.toNat) (zI A 357 i)) A rv A') ⟨(k, zI A 379 k.toInt.toNat, zI A 380 k.toInt.toNat, zI A 348 i, zI A 357 i, zI A 359 i, zI A 360 i), rfl, fun hk => j_hl g1 g2 g6 (show k.toInt.toNat < 6 by omega), fun _ _ h => h⟩
  obtain ⟨e1, e2⟩ := hQ1
  have eI : ∀ p x, p ≠ 342 → zI A1 p x = zI A p x := fun p x h => by
    rw [e2, zuI_ne h, zI_uF]
  have e63 : zF A1 343 63 = .int (zI A 342 0) := by
    rw [e2, zF_uI, zuF_ne (by decide)]
    exact g7
  have hpre : zF A1 343 63 = .int (zI A 342 0) ∧ ((0 ≤ k.toInt ∧ k.toInt < 6) → ¬ (zI A1 379 k.toInt.toNat).toInt < 0 → ¬ (zI A1 379 k.toInt.toNat).toInt = 0 → 0 ≤ (zI A1 357 (zI A1 380 k.toInt.toNat).toInt.toNat).toInt ∧ (zI A1 357 (zI A1 380 k.toInt.toNat).toInt.toNat).toInt ≤ 2) := by
    refine ⟨e63, fun hk => ?_⟩
    rw [eI 379 _ (by decide), eI 380 _ (by decide), eI 357 _ (by decide)]
    exact j_kd g2 g6 (show k.toInt.toNat < 6 by omega)
  obtain ⟨A2, u2, hA2, hv2, hQ2⟩ := zrun za_X12_tell h2 hA1 (zargs hb1 (by decide) (s := [.int k]) ⟨rfl, trivial⟩) (K := fun rv A' => zmc (ztlV k (zI A1 379 k.toInt.toNat) (zI A1 348 (zI A1 380 k.toInt.toNat).toInt.toNat) (zI A1 357 (zI A1 380 k.toInt.toNat).toInt.toNat) (zI A1 359 (zI A1 380 k.toInt.toNat).toInt.toNat) (zI A1 360 (zI A1 380 k.toInt.toNat).toInt.toNat)) (ztlT (zI A 342 0) k (zI A1 379 k.toInt.toNat) (zI A1 357 (zI A1 380 k.toInt.toNat).toInt.toNat)) A1 rv A') ⟨(k, zI A 342 0), rfl, hpre, fun _ _ h => h⟩
  rw [eI 379 _ (by decide), eI 380 _ (by decide), eI 348 _ (by decide), eI 357 _ (by decide), eI 359 _ (by decide), eI 360 _ (by decide)] at hQ2
  obtain ⟨e3, e4⟩ := hQ2
  refine ⟨(zv_int hv1 e1).trans (zv_int hv2 e3).symm, h6, A2, hA2, ?_⟩
  rw [e4, e2]
  exact jx_tl hj
set_option maxRecDepth 20000 in
theorem pk7_show {B : Nat → Nat} : ∀ (w w1 w2 : lW) (rv1 rv2 : Option Value) (k : Int32), J7 B w → fLr r_X11_show [.ref (B 0), .int k] w rv1 w1 → fLr r_X12_show [.ref (B 343), .int k] w1 rv2 w2 → rv1 = rv2 ∧ J7 B w2 := by
  intro w w1 w2 rv1 rv2 k hJ h1 h2
  have hb := hJ.1.1.b
  have hb1 : bI B w1 := hb.keep h1 (by decide)
  have h6 : J6 B w2 := fr6 h2 (fr6 h1 hJ.1 (by decide) (by decide) (by decide) (by decide) (by decide)) (by decide) (by decide) (by decide) (by decide) (by decide)
  obtain ⟨J6w, A, hA, hj⟩ := hJ
  obtain ⟨n, m, q, g1, g2, g3, g4, g5, g6, g7⟩ := id hj
  let i := (zI A 380 k.toInt.toNat).toInt.toNat
  obtain ⟨A1, u1, hA1, hv1, hQ1⟩ := zrun za_X11_show h1 hA (zargs hb (by decide) (s := [.int k]) ⟨rfl, trivial⟩) (K := fun rv A' => ztc (zswV k (zI A 379 k.toInt.toNat) (zI A 380 k.toInt.toNat) (zI A 357 i)) (zswT (zI A 342 0) k (zI A 379 k.toInt.toNat) (zI A 357 i)) A rv A') ⟨(k, zI A 379 k.toInt.toNat, zI A 380 k.toInt.toNat, zI A 348 i, zI A 357 i, zI A 359 i, zI A 360 i), rfl, fun hk => j_hl g1 g2 g6 (show k.toInt.toNat < 6 by omega), fun _ _ h => h⟩
  obtain ⟨e1, e2⟩ := hQ1
  have eI : ∀ p x, p ≠ 342 → zI A1 p x = zI A p x := fun p x h => by
    rw [e2, zuI_ne h, zI_uF]
  have e63 : zF A1 343 63 = .int (zI A 342 0) := by
    rw [e2, zF_uI, zuF_ne (by decide)]
    exact g7
  have hpre : zF A1 343 63 = .int (zI A 342 0) ∧ ((0 ≤ k.toInt ∧ k.toInt < 6) → ¬ (zI A1 379 k.toInt.toNat).toInt < 0 → ¬ (zI A1 379 k.toInt.toNat).toInt = 0 → 0 ≤ (zI A1 357 (zI A1 380 k.toInt.toNat).toInt.toNat).toInt ∧ (zI A1 357 (zI A1 380 k.toInt.toNat).toInt.toNat).toInt ≤ 2) := by
    refine ⟨e63, fun hk => ?_⟩
    rw [eI 379 _ (by decide), eI 380 _ (by decide), eI 357 _ (by decide)]
    exact j_kd g2 g6 (show k.toInt.toNat < 6 by omega)
  obtain ⟨A2, u2, hA2, hv2, hQ2⟩ := zrun za_X12_show h2 hA1 (zargs hb1 (by decide) (s := [.int k]) ⟨rfl, trivial⟩) (K := fun rv A' => zmc (zswV k (zI A1 379 k.toInt.toNat) (zI A1 380 k.toInt.toNat) (zI A1 357 (zI A1 380 k.toInt.toNat).toInt.toNat)) (zswT (zI A 342 0) k (zI A1 379 k.toInt.toNat) (zI A1 357 (zI A1 380 k.toInt.toNat).toInt.toNat)) A1 rv A') ⟨(k, zI A 342 0), rfl, hpre, fun _ _ h => h⟩
  rw [eI 379 _ (by decide), eI 380 _ (by decide), eI 357 _ (by decide)] at hQ2
  obtain ⟨e3, e4⟩ := hQ2
  refine ⟨(zv_int hv1 e1).trans (zv_int hv2 e3).symm, h6, A2, hA2, ?_⟩
  rw [e4, e2]
  exact jx_tl hj
set_option maxRecDepth 20000 in
theorem pk7_as {B : Nat → Nat} : ∀ (w w1 w2 : lW) (rv1 rv2 : Option Value) (k kind : Int32), J7 B w → fLr r_X11_as [.ref (B 0), .int k, .int kind] w rv1 w1 → fLr r_X12_as [.ref (B 343), .int k, .int kind] w1 rv2 w2 → rv1 = rv2 ∧ J7 B w2 := by
  intro w w1 w2 rv1 rv2 k kind hJ h1 h2
  have hb := hJ.1.1.b
  have hb1 : bI B w1 := hb.keep h1 (by decide)
  have h6 : J6 B w2 := fr6 h2 (fr6 h1 hJ.1 (by decide) (by decide) (by decide) (by decide) (by decide)) (by decide) (by decide) (by decide) (by decide) (by decide)
  obtain ⟨J6w, A, hA, hj⟩ := hJ
  obtain ⟨n, m, q, g1, g2, g3, g4, g5, g6, g7⟩ := id hj
  let i := (zI A 380 k.toInt.toNat).toInt.toNat
  obtain ⟨A1, u1, hA1, hv1, hQ1⟩ := zrun za_X11_as h1 hA (zargs hb (by decide) (s := [.int k, .int kind]) ⟨rfl, rfl, trivial⟩) (K := fun rv A' => zfQ 0 14 (zasV k kind (zI A 379 k.toInt.toNat) (zI A 380 k.toInt.toNat) (zI A 357 i)) A rv A') ⟨((k, kind), zI A 379 k.toInt.toNat, zI A 380 k.toInt.toNat, zI A 348 i, zI A 357 i, zI A 359 i, zI A 360 i), rfl, fun hk => j_hl g1 g2 g6 (show k.toInt.toNat < 6 by omega), fun _ _ h => h⟩
  obtain ⟨e1, e2⟩ := hQ1
  have eI : ∀ p x, zI A1 p x = zI A p x := fun p x => by
    rw [e2, zI_uF]
  obtain ⟨A2, u2, hA2, hv2, hQ2⟩ := zrun za_X12_as h2 hA1 (zargs hb1 (by decide) (s := [.int k, .int kind]) ⟨rfl, rfl, trivial⟩) (K := fun rv A' => zfQ 343 0 (zasV k kind (zI A1 379 k.toInt.toNat) (zI A1 380 k.toInt.toNat) (zI A1 357 (zI A1 380 k.toInt.toNat).toInt.toNat)) A1 rv A') ⟨(k, kind), rfl, trivial, fun _ _ h => h⟩
  rw [eI, eI, eI] at hQ2
  obtain ⟨e3, e4⟩ := hQ2
  refine ⟨(zv_int hv1 e1).trans (zv_int hv2 e3).symm, h6, A2, hA2, ?_⟩
  rw [e4, e2]
  exact jx_agr hj (agl.x (agl.tr (agl.nF (by decide) (by decide +kernel)) (agl.nF (by decide) (by decide +kernel))))
/-! weight, trace -/
set_option maxRecDepth 20000 in
theorem pk7_weight {B : Nat → Nat} : ∀ (w w1 w2 : lW) (rv1 rv2 : Option Value) (x : Int32), J7 B w → fLr r_X11_weight [.ref (B 0), .int x] w rv1 w1 → fLr r_X12_weight [.ref (B 343), .int x] w1 rv2 w2 → rv1 = rv2 ∧ J7 B w2 := by
  intro w w1 w2 rv1 rv2 x hJ h1 h2
  have hb := hJ.1.1.b
  have hb1 : bI B w1 := hb.keep h1 (by decide)
  have h6 : J6 B w2 := fr6 h2 (fr6 h1 hJ.1 (by decide) (by decide) (by decide) (by decide) (by decide)) (by decide) (by decide) (by decide) (by decide) (by decide)
  obtain ⟨J6w, A, hA, hj⟩ := hJ
  obtain ⟨n, m, q, g1, g2, g3, g4, g5, g6, g7⟩ := id hj
  have hS : zeS A n := ⟨g1.1, fun e he => by
    obtain ⟨j, b0, ⟨b1, b2, b3⟩, c0, c1, c2, c3, c4, c5, c6⟩ := g1.2.2 e he
    exact ⟨j, zI A 349 e, b0, b1, by rw [b3], c2, c6⟩⟩
  obtain ⟨A1, u1, hA1, hv1, hQ1⟩ := zrun za_X11_weight h1 hA (zargs hb (by decide) (s := [.int x]) ⟨rfl, trivial⟩) (K := fun rv A' => rv = some (.int (zwtV x n (zcw A x n.toInt.toNat))) ∧ A' = A) ⟨(x, n), rfl, hS, rfl, rfl⟩
  obtain ⟨e1, e2⟩ := hQ1
  obtain ⟨A2, u2, hA2, hv2, hQ2⟩ := zrun za_X12_weight h2 hA1 (zargs hb1 (by decide) (s := [.int x]) ⟨rfl, trivial⟩) (K := fun rv A' => rv = some (.int (zwtV x n (zmw A1 x n.toInt.toNat))) ∧ A' = A1) ⟨(x, n), rfl, by rw [e2]; exact ⟨g1.2.1, g1.1.2⟩, rfl, rfl⟩
  obtain ⟨e3, e4⟩ := hQ2
  have e4 : A2 = A1 := e4
  have e2 : A1 = A := e2
  have e3 : u2 = some (.int (zwtV x n (zmw A1 x n.toInt.toNat))) := e3
  have e1 : u1 = some (.int (zwtV x n (zcw A x n.toInt.toNat))) := e1
  have ee : zcw A x n.toInt.toNat = zmw A x n.toInt.toNat := zcw_eq (fun e he => by
    obtain ⟨j, b0, ⟨b1, b2, b3⟩, c0, c1, c2, c3, c4, c5, c6⟩ := g1.2.2 e (by omega)
    have es : zsr A e = zI A 349 e := by
      unfold zsr
      rw [b0]
      show iv (zF A j 2) = _
      rw [c2]
      rfl
    rw [es]
    exact g4 _ (by omega))
  rw [ee] at e1
  rw [e2] at e3
  refine ⟨(zv_int hv1 e1).trans (zv_int hv2 e3).symm, h6, A2, hA2, ?_⟩
  rw [e4, e2]
  exact hj
def zq_trace : zQ := zpu (fun _ : Unit => [.ref 0]) (fun _ _ => True) (fun _ A => .int (zI A 342 0))
def zq_traceM : zQ := zpu (fun _ : Unit => [.ref 343]) (fun _ _ => True) (fun _ A => zF A 343 63)
set_option maxRecDepth 20000 in
theorem za_X11_trace : zdo r_X11_trace zq_trace := by
  refine zdo_pu [] (fun _ _ => []) 40 fo_X11 rfl zs_nil k_X11_trace (fun _ _ _ => no_zh) (fun _ A _ => ?_)
  exact ⟨rfl, rfl⟩
set_option maxRecDepth 20000 in
theorem za_X12_trace : zdo r_X12_trace zq_traceM := by
  refine zdo_pu [] (fun _ _ => []) 40 fo_X12 rfl zs_nil k_X12_trace (fun _ _ _ => no_zh) (fun _ A _ => ?_)
  exact ⟨rfl, rfl⟩
set_option maxRecDepth 20000 in
theorem pk7_trace {B : Nat → Nat} : ∀ (w w1 w2 : lW) (rv1 rv2 : Option Value), J7 B w → fLr r_X11_trace [.ref (B 0)] w rv1 w1 → fLr r_X12_trace [.ref (B 343)] w1 rv2 w2 → rv1 = rv2 ∧ J7 B w2 := by
  intro w w1 w2 rv1 rv2 hJ h1 h2
  have hb := hJ.1.1.b
  have hb1 : bI B w1 := hb.keep h1 (by decide)
  have h6 : J6 B w2 := fr6 h2 (fr6 h1 hJ.1 (by decide) (by decide) (by decide) (by decide) (by decide)) (by decide) (by decide) (by decide) (by decide) (by decide)
  obtain ⟨J6w, A, hA, hj⟩ := hJ
  obtain ⟨n, m, q, g1, g2, g3, g4, g5, g6, g7⟩ := id hj
  obtain ⟨A1, u1, hA1, hv1, hQ1⟩ := zrun za_X11_trace h1 hA (zargs hb (by decide) (s := []) trivial) (K := fun rv A' => rv = some (.int (zI A 342 0)) ∧ A' = A) ⟨(), rfl, trivial, rfl, rfl⟩
  obtain ⟨e1, e2⟩ := hQ1
  have e1 : u1 = some (.int (zI A 342 0)) := e1
  have e2 : A1 = A := e2
  obtain ⟨A2, u2, hA2, hv2, hQ2⟩ := zrun za_X12_trace h2 hA1 (zargs hb1 (by decide) (s := []) trivial) (K := fun rv A' => rv = some (zF A1 343 63) ∧ A' = A1) ⟨(), rfl, trivial, rfl, rfl⟩
  obtain ⟨e3, e4⟩ := hQ2
  have e3 : u2 = some (zF A1 343 63) := e3
  have e4 : A2 = A1 := e4
  have g7 : zF A 343 63 = .int (zI A 342 0) := g7
  rw [e2, g7] at e3
  refine ⟨(zv_int hv1 e1).trans (zv_int hv2 e3).symm, h6, A2, hA2, ?_⟩
  rw [e4, e2]
  exact hj
end
