/-! bits of numbers -/
def zbi (x : Int32) (e : Nat) : Bool := x.toBitVec.getLsbD e
theorem zbt_sh : ∀ e, e < 32 → ((Int32.ofNat e &&& 31).toBitVec.smod 32#32).toNat = e := by decide +kernel
theorem zbt_s1 {x : Int32} {e : Nat} (he : e < 32) : (x >>> (Int32.ofNat e &&& 31)).toBitVec.getLsbD 0 = zbi x e := by
  rw [Int32.toBitVec_shiftRight]
  show (x.toBitVec.sshiftRight ((Int32.ofNat e &&& 31).toBitVec.smod 32#32).toNat).getLsbD 0 = _
  rw [zbt_sh e he, BitVec.getLsbD_sshiftRight, if_pos (by omega)]
  show (!decide (32 ≤ 0) && x.toBitVec.getLsbD (e + 0)) = x.toBitVec.getLsbD e
  rw [Nat.add_zero]
  rfl
theorem zbt_1 {y : Int32} : (y &&& Int32.ofInt 1).toInt = if y.toBitVec.getLsbD 0 = true then 1 else 0 := by
  show (y &&& Int32.ofInt 1).toBitVec.toInt = _
  rw [Int32.toBitVec_and]
  show (y.toBitVec &&& 1#32).toInt = _
  rw [BitVec.and_one_eq_setWidth_ofBool_getLsbD]
  cases y.toBitVec.getLsbD 0 <;> decide
/-- a set has an element: the class's question -/
theorem zbt_c {x : Int32} {e : Nat} (he : e < 32) : (x >>> (Int32.ofNat e &&& 31) &&& Int32.ofInt 1).toInt = if zbi x e = true then 1 else 0 := by
  rw [zbt_1, zbt_s1 he]
theorem hbB_b {a : Int64} {j : Nat} (hj : j < 64) : hbB a (Int32.ofNat j) = a.toBitVec.getLsbD j := by
  have h1 : nL (us_ a (Int32.ofNat j) &&& Int64.ofNat 1) = nL a / 2 ^ j % 2 := by
    rw [nL_and, us_N (sh_63 j hj)]
    show nL a / 2 ^ j &&& 1 = _
    rw [Nat.and_one_is_mod]
  have h2 : a.toBitVec.getLsbD j = decide (nL a / 2 ^ j % 2 = 1) := by
    rw [← BitVec.testBit_toNat, Nat.testBit_eq_decide_div_mod_eq]
    rfl
  rw [h2]
  have h3 : nL a / 2 ^ j % 2 = 0 ∨ nL a / 2 ^ j % 2 = 1 := by omega
  unfold hbB
  show decide ((us_ a (Int32.ofNat j) &&& Int64.ofNat 1).toInt = (Int64.ofNat 1).toInt) = _
  rcases h3 with h3 | h3
  · have e : us_ a (Int32.ofNat j) &&& Int64.ofNat 1 = Int64.ofNat 0 := Int64.toBitVec_inj.mp (BitVec.eq_of_toNat_eq (h1.trans h3))
    rw [e, h3]
    decide
  · have e : us_ a (Int32.ofNat j) &&& Int64.ofNat 1 = Int64.ofNat 1 := Int64.toBitVec_inj.mp (BitVec.eq_of_toNat_eq (h1.trans h3))
    rw [e, h3]
    decide
/-- the reference's -/
theorem zbt_m {x : Int32} {e : Nat} (he : e < 32) : hbB x.toInt64 (Int32.ofNat e) = zbi x e := by
  rw [hbB_b (by omega), Int32.toBitVec_toInt64, BitVec.getLsbD_signExtend, if_pos he]
  rw [decide_eq_true (show e < 64 by omega), Bool.true_and]
  rfl
def zq_hasBit : zQ := zpu (fun a : Int64 × Int32 => [.long a.1, .int a.2]) (fun _ _ => True) (fun a _ => .int (zb (hbB a.1 a.2)))
set_option maxRecDepth 20000 in
theorem za_X12_hasBit : zdo r_X12_hasBit zq_hasBit := by
  refine zdo_pu [] (fun _ _ => []) 40 fo_X12 rfl zs_nil k_X12_hasBit (fun _ _ _ => no_zh) (fun a A _ => ?_)
  obtain ⟨x, k⟩ := a
  refine ⟨fun h => ?_, fun h => ?_⟩
  · have h : ck_cm .ne (lg_cmp (us_ x k &&& Int64.ofNat 1) (Int64.ofNat 1)).toInt 0 := h
    have h : ¬ hb x k := ck_cm_lg.mp h
    refine ⟨?_, rfl⟩
    show some (Value.int 0) = some (.int (zb (hbB x k)))
    rw [show hbB x k = false from Bool.eq_false_iff.mpr (fun z => h (hbB_t.mp z))]
    rfl
  · have h : ¬ ck_cm .ne (lg_cmp (us_ x k &&& Int64.ofNat 1) (Int64.ofNat 1)).toInt 0 := h
    have h : ¬ ¬ hb x k := fun z => h (ck_cm_lg.mpr z)
    refine ⟨?_, rfl⟩
    show some (Value.int 1) = some (.int (zb (hbB x k)))
    rw [hbB_t.mpr (Classical.not_not.mp h)]
    rfl
/-- sets of n elements: the class asks by bits, the reference by size -/
theorem zes_p : ∀ n, n < 13 → (Int32.ofInt 1 <<< (Int32.ofNat n &&& 31)).toInt = ((2 ^ n : Nat) : Int) ∧ (Int64.ofNat 1 <<< ((Int32.ofNat n).toInt64 &&& 63)).toInt = ((2 ^ n : Nat) : Int) := by decide +kernel
theorem zes_m : ∀ n, n < 13 → ((Int32.ofInt 1 <<< (Int32.ofNat n &&& 31)) - Int32.ofInt 1).toBitVec.toNat = 2 ^ n - 1 := by decide +kernel
/-- y has none but the low n bits -/
theorem zes_c {x : Int32} {n : Nat} (hn : n < 13) : (x &&& (((Int32.ofInt 1 <<< (Int32.ofNat n &&& 31)) - Int32.ofInt 1) ^^^ Int32.ofInt (-1))).toInt = 0 ↔ 0 ≤ x.toInt ∧ x.toInt < ((2 ^ n : Nat) : Int) := by
  have hm := zes_m n hn
  generalize (Int32.ofInt 1 <<< (Int32.ofNat n &&& 31)) - Int32.ofInt 1 = m at hm
  have hb : ∀ i, i < 32 → (x &&& (m ^^^ Int32.ofInt (-1))).toBitVec.getLsbD i = (x.toBitVec.getLsbD i && !decide (i < n)) := fun i hi => by
    rw [Int32.toBitVec_and, Int32.toBitVec_xor, BitVec.getLsbD_and, BitVec.getLsbD_xor]
    have h1 : m.toBitVec.getLsbD i = decide (i < n) := by
      rw [← BitVec.testBit_toNat, hm, Nat.testBit_two_pow_sub_one]
    have h2 : (Int32.ofInt (-1)).toBitVec.getLsbD i = true := by
      show (BitVec.ofInt 32 (-1)).getLsbD i = true
      have : ∀ i, i < 32 → (BitVec.ofInt 32 (-1)).getLsbD i = true := by decide
      exact this i hi
    rw [h1, h2, Bool.xor_true]
  have hp : 2 ^ n ≤ 4096 := by
    have : ∀ n, n < 13 → 2 ^ n ≤ 4096 := by decide
    exact this n hn
  constructor
  · intro h
    have hz : (x &&& (m ^^^ Int32.ofInt (-1))).toBitVec = 0#32 := by
      have : x &&& (m ^^^ Int32.ofInt (-1)) = 0 := Int32.toInt_inj.mp h
      rw [this]
      rfl
    have hx : ∀ i, n ≤ i → x.toBitVec.toNat.testBit i = false := fun i hi => by
      by_cases h32 : i < 32
      · have h3 := hb i h32
        rw [hz, BitVec.getLsbD_zero, decide_eq_false (by omega), Bool.not_false, Bool.and_true] at h3
        rw [BitVec.testBit_toNat]
        exact h3.symm
      · rw [BitVec.testBit_toNat]
        exact BitVec.getLsbD_of_ge _ _ (by omega)
    have hlt : x.toBitVec.toNat < 2 ^ n := Nat.lt_pow_two_of_testBit _ hx
    have e : x.toInt = (x.toBitVec.toNat : Int) := BitVec.toInt_eq_toNat_of_lt (by omega)
    rw [e]
    exact ⟨by omega, by omega⟩
  · intro ⟨h0, h1⟩
    have hz : (x &&& (m ^^^ Int32.ofInt (-1))).toBitVec = 0#32 := by
      apply BitVec.eq_of_getLsbD_eq
      intro i hi
      rw [hb i hi, BitVec.getLsbD_zero]
      have e : x.toInt = (x.toBitVec.toNat : Int) := by
        have h3 : x.toInt = x.toBitVec.toInt := rfl
        rw [h3, BitVec.toInt_eq_toNat_cond]
        rw [h3, BitVec.toInt_eq_toNat_cond] at h0
        split
        · rfl
        · rename_i hc
          rw [if_neg hc] at h0
          have := x.toBitVec.isLt
          omega
      have hlt : x.toBitVec.toNat < 2 ^ n := by omega
      by_cases hin : i < n
      · rw [decide_eq_true hin, Bool.not_true, Bool.and_false]
      · rw [decide_eq_false hin, Bool.not_false, Bool.and_true, ← BitVec.testBit_toNat]
        exact Nat.testBit_lt_two_pow (Nat.lt_of_lt_of_le hlt (Nat.pow_le_pow_right (by decide) (by omega)))
    have : x &&& (m ^^^ Int32.ofInt (-1)) = 0 := Int32.toBitVec_inj.mp hz
    rw [this]
    rfl
