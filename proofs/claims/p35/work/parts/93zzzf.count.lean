/-! numbers as sets; how many there are -/
theorem n32_bit {a i : Nat} (hi : i < 32) : (Int32.ofNat a).toBitVec.getLsbD i = a.testBit i := by
  show (BitVec.ofNat 32 a).getLsbD i = _
  rw [BitVec.getLsbD_ofNat, decide_eq_true hi, Bool.true_and]
theorem n32_ext {x y : Int32} (h : ∀ i, i < 32 → x.toBitVec.getLsbD i = y.toBitVec.getLsbD i) : x = y := Int32.toBitVec_inj.mp (BitVec.eq_of_getLsbD_eq h)
theorem n32_and (a b : Nat) : Int32.ofNat a &&& Int32.ofNat b = Int32.ofNat (a &&& b) := n32_ext (fun i hi => by
  rw [Int32.toBitVec_and, BitVec.getLsbD_and, n32_bit hi, n32_bit hi, n32_bit hi, Nat.testBit_and])
theorem n32_or (a b : Nat) : Int32.ofNat a ||| Int32.ofNat b = Int32.ofNat (a ||| b) := n32_ext (fun i hi => by
  rw [Int32.toBitVec_or, BitVec.getLsbD_or, n32_bit hi, n32_bit hi, n32_bit hi, Nat.testBit_or])
theorem n32_xor (a b : Nat) : Int32.ofNat a ^^^ Int32.ofNat b = Int32.ofNat (a ^^^ b) := n32_ext (fun i hi => by
  rw [Int32.toBitVec_xor, BitVec.getLsbD_xor, n32_bit hi, n32_bit hi, n32_bit hi, Nat.testBit_xor])
theorem n32_m1 : ∀ i, i < 32 → (Int32.ofInt (-1)).toBitVec.getLsbD i = true := by decide +kernel
/-- the one without the other -/
def dfN (a b : Nat) : Nat := a ^^^ (a &&& b)
theorem dfN_b {a b i : Nat} : (dfN a b).testBit i = (a.testBit i && !b.testBit i) := by
  unfold dfN
  rw [Nat.testBit_xor, Nat.testBit_and]
  cases a.testBit i <;> cases b.testBit i <;> rfl
theorem n32_dif (a b : Nat) : Int32.ofNat a &&& (Int32.ofNat b ^^^ Int32.ofInt (-1)) = Int32.ofNat (dfN a b) := n32_ext (fun i hi => by
  rw [Int32.toBitVec_and, BitVec.getLsbD_and, Int32.toBitVec_xor, BitVec.getLsbD_xor, n32_bit hi, n32_bit hi, n32_bit hi, n32_m1 i hi, dfN_b]
  cases a.testBit i <;> cases b.testBit i <;> rfl)
theorem n32_1 : ∀ e, e < 13 → Int32.ofInt 1 <<< (Int32.ofNat e &&& 31) = Int32.ofNat (2 ^ e) := by decide +kernel
theorem n32_1t : ∀ e, e < 13 → (Int32.ofInt 1 <<< (Int32.ofNat e &&& 31)).toInt = ((2 ^ e : Nat) : Int) := by decide +kernel
theorem n32_t {a : Nat} (h : a < 4096) : (Int32.ofNat a).toInt = (a : Int) := Int32.toInt_ofNat_of_lt (by omega)
theorem n32_i {a b : Nat} (ha : a < 4096) (hb : b < 4096) (h : Int32.ofNat a = Int32.ofNat b) : a = b := by
  have h1 := congrArg Int32.toInt h
  rw [n32_t ha, n32_t hb] at h1
  omega
theorem n32_zbi {a e : Nat} (he : e < 32) : zbi (Int32.ofNat a) e = a.testBit e := n32_bit he
/-- sets by what is in them -/
def vwN (P : Nat → Bool) : Nat → Nat
  | 0 => 0
  | n + 1 => vwN P n + (if P n = true then 2 ^ n else 0)
theorem vwN_lt {P : Nat → Bool} : ∀ {n : Nat}, vwN P n < 2 ^ n
  | 0 => (by decide : 0 < 1)
  | n + 1 => by
    have h := vwN_lt (P := P) (n := n)
    have h2 : 2 ^ (n + 1) = 2 ^ n + 2 ^ n := by rw [Nat.pow_succ]; omega
    show vwN P n + (if P n = true then 2 ^ n else 0) < 2 ^ (n + 1)
    split <;> omega
theorem add_b {x n i : Nat} (h : x < 2 ^ n) : (x + 2 ^ n).testBit i = (x.testBit i || decide (i = n)) := by
  have e : x + 2 ^ n = 2 ^ n * 1 + x := by omega
  rw [e, Nat.testBit_two_pow_mul_add 1 h]
  by_cases c : i < n
  · rw [if_pos c, decide_eq_false (show ¬ i = n by omega), Bool.or_false]
  · rw [if_neg c]
    have hx : x.testBit i = false := Nat.testBit_lt_two_pow (Nat.lt_of_lt_of_le h (Nat.pow_le_pow_right (by decide) (by omega)))
    rw [hx, Bool.false_or]
    by_cases d : i = n
    · subst d
      rw [Nat.sub_self, decide_eq_true rfl]
      rfl
    · rw [decide_eq_false d]
      exact Nat.testBit_lt_two_pow (show 1 < 2 ^ (i - n) from Nat.lt_of_lt_of_le (by decide : 1 < 2 ^ 1) (Nat.pow_le_pow_right (by decide) (by omega)))
theorem vwN_b {P : Nat → Bool} : ∀ {n i : Nat}, (vwN P n).testBit i = (decide (i < n) && P i)
  | 0, i => by
    show (0 : Nat).testBit i = _
    rw [Nat.zero_testBit, decide_eq_false (Nat.not_lt_zero i), Bool.false_and]
  | n + 1, i => by
    show (vwN P n + (if P n = true then 2 ^ n else 0)).testBit i = _
    by_cases hp : P n = true
    · rw [if_pos hp, add_b vwN_lt, vwN_b]
      by_cases d : i = n
      · subst d
        rw [decide_eq_true rfl, Bool.or_true, decide_eq_true (Nat.lt_succ_self i), hp]
        rfl
      · rw [decide_eq_false d, Bool.or_false]
        by_cases c : i < n
        · rw [decide_eq_true c, decide_eq_true (show i < n + 1 by omega)]
        · rw [decide_eq_false c, decide_eq_false (show ¬ i < n + 1 by omega)]
    · rw [if_neg hp, Nat.add_zero, vwN_b]
      by_cases d : i = n
      · subst d
        rw [Bool.eq_false_iff.mpr hp, Bool.and_false, Bool.and_false]
      · by_cases c : i < n
        · rw [decide_eq_true c, decide_eq_true (show i < n + 1 by omega)]
        · rw [decide_eq_false c, decide_eq_false (show ¬ i < n + 1 by omega)]
theorem or_p2 {x n : Nat} (h : x < 2 ^ n) : x ||| 2 ^ n = x + 2 ^ n := Nat.eq_of_testBit_eq (fun i => by
  rw [Nat.testBit_or, add_b h, Nat.testBit_two_pow]
  by_cases d : i = n
  · rw [decide_eq_true d, decide_eq_true d.symm]
  · rw [decide_eq_false d, decide_eq_false (fun z => d z.symm)])
theorem n32_vw {P : Nat → Bool} {n : Nat} (hn : n < 13) (hp : P n = true) : Int32.ofNat (vwN P n) ||| (Int32.ofInt 1 <<< (Int32.ofNat n &&& 31)) = Int32.ofNat (vwN P (n + 1)) := by
  rw [n32_1 n hn, n32_or, or_p2 vwN_lt]
  show _ = Int32.ofNat (vwN P n + (if P n = true then 2 ^ n else 0))
  rw [if_pos hp]
theorem vwN_s {P : Nat → Bool} {n : Nat} (hp : ¬ P n = true) : vwN P (n + 1) = vwN P n := by
  show vwN P n + (if P n = true then 2 ^ n else 0) = _
  rw [if_neg hp, Nat.add_zero]
theorem vwN_eq {P Q : Nat → Bool} : ∀ {n : Nat}, (∀ i, i < n → P i = Q i) → vwN P n = vwN Q n
  | 0, _ => rfl
  | n + 1, h => by
    show vwN P n + (if P n = true then 2 ^ n else 0) = vwN Q n + (if Q n = true then 2 ^ n else 0)
    rw [vwN_eq (fun i hi => h i (by omega)), h n (by omega)]
theorem p2_le : ∀ n, n < 13 → 2 ^ n ≤ 4096 := by decide
/-- how many -/
def cN (p : Nat → Bool) : Nat → Nat
  | 0 => 0
  | n + 1 => cN p n + (if p n = true then 1 else 0)
theorem cN_eq {p q : Nat → Bool} : ∀ {n : Nat}, (∀ i, i < n → p i = q i) → cN p n = cN q n
  | 0, _ => rfl
  | n + 1, h => by
    show cN p n + (if p n = true then 1 else 0) = cN q n + (if q n = true then 1 else 0)
    rw [cN_eq (fun i hi => h i (by omega)), h n (by omega)]
theorem cN_le {p : Nat → Bool} : ∀ {n : Nat}, cN p n ≤ n
  | 0 => Nat.le_refl _
  | n + 1 => by
    have h := cN_le (p := p) (n := n)
    show cN p n + (if p n = true then 1 else 0) ≤ n + 1
    split <;> omega
theorem cN_add {p : Nat → Bool} {m : Nat} : ∀ {k : Nat}, cN p (m + k) = cN p m + cN (fun i => p (m + i)) k
  | 0 => rfl
  | k + 1 => by
    show cN p (m + k) + (if p (m + k) = true then 1 else 0) = cN p m + (cN (fun i => p (m + i)) k + (if p (m + k) = true then 1 else 0))
    rw [cN_add (k := k)]
    omega
theorem cN_mono {p : Nat → Bool} {m n : Nat} (h : m ≤ n) : cN p m ≤ cN p n := by
  obtain ⟨k, rfl⟩ : ∃ k, n = m + k := ⟨n - m, by omega⟩
  rw [cN_add]
  omega
theorem cN_none {p : Nat → Bool} {m : Nat} : ∀ {k : Nat}, (∀ i, m ≤ i → i < m + k → ¬ p i = true) → cN p (m + k) = cN p m
  | 0, _ => rfl
  | k + 1, h => by
    show cN p (m + k) + (if p (m + k) = true then 1 else 0) = cN p m
    rw [if_neg (h (m + k) (by omega) (by omega)), cN_none (fun i a b => h i a (by omega)), Nat.add_zero]
/-- if there are more, there is a next one -/
theorem cN_next {p : Nat → Bool} {m : Nat} : ∀ {k : Nat}, cN p m < cN p (m + k) → ∃ S, m ≤ S ∧ S < m + k ∧ p S = true ∧ ∀ i, m ≤ i → i < S → ¬ p i = true
  | 0, h => absurd h (Nat.lt_irrefl _)
  | k + 1, h => by
    by_cases hk : cN p m < cN p (m + k)
    · obtain ⟨S, h1, h2, h3, h4⟩ := cN_next hk
      exact ⟨S, h1, by omega, h3, h4⟩
    · have h : cN p m < cN p (m + k) + (if p (m + k) = true then 1 else 0) := h
      have hp : p (m + k) = true := by
        by_cases c : p (m + k) = true
        · exact c
        · rw [if_neg c] at h
          omega
      refine ⟨m + k, by omega, by omega, hp, fun i a b c => ?_⟩
      obtain ⟨j, rfl⟩ : ∃ j, i = m + j := ⟨i - m, by omega⟩
      have e1 : cN p (m + j + 1) = cN p (m + j) + 1 := by
        show cN p (m + j) + (if p (m + j) = true then 1 else 0) = _
        rw [if_pos c]
      have e2 := cN_mono (p := p) (show m + j + 1 ≤ m + k by omega)
      have e3 := cN_mono (p := p) (show m ≤ m + j by omega)
      omega
theorem pcN_cN {n : Nat} : ∀ {k : Nat}, pcN k n = cN (fun i => n.testBit i) k
  | 0 => rfl
  | k + 1 => by
    show pcN k n + n / 2 ^ k % 2 = cN (fun i => n.testBit i) k + (if n.testBit k = true then 1 else 0)
    rw [pcN_cN, Nat.testBit_eq_decide_div_mod_eq]
    have h : n / 2 ^ k % 2 = 0 ∨ n / 2 ^ k % 2 = 1 := by omega
    rcases h with h | h <;> rw [h] <;> rfl
theorem nL_b {x : Int64} {i : Nat} : (nL x).testBit i = x.toBitVec.getLsbD i := BitVec.testBit_toNat _
theorem bF_at {f : Nat → Int64} {k i : Nat} (hi : i < 64) : bF f (64 * k + i) = (f k).toBitVec.getLsbD i := by
  unfold bF
  rw [show (64 * k + i) / 64 = k by omega, show (64 * k + i) % 64 = i by omega]
theorem bc_cN {x : Int64} : (bcV x).toInt = (cN (fun i => x.toBitVec.getLsbD i) 64 : Nat) := by
  rw [bcV_eq, pcN_cN]
  have e : cN (fun i => (nL x).testBit i) 64 = cN (fun i => x.toBitVec.getLsbD i) 64 := cN_eq (fun i _ => nL_b)
  rw [e]
theorem szA_cN {f : Nat → Int64} : ∀ {k : Nat}, k ≤ 64 → (szA bcV f k).toInt = (cN (bF f) (64 * k) : Nat)
  | 0, _ => rfl
  | k + 1, h => by
    have ih := szA_cN (f := f) (k := k) (by omega)
    have h2 := bc_cN (x := f k)
    have e : cN (fun i => (f k).toBitVec.getLsbD i) 64 = cN (fun i => bF f (64 * k + i)) 64 := cN_eq (fun i hi => (bF_at hi).symm)
    have l1 := cN_le (p := bF f) (n := 64 * k)
    have l2 := cN_le (p := fun i => bF f (64 * k + i)) (n := 64)
    have ea : cN (bF f) (64 * k + 64) = cN (bF f) (64 * k) + cN (fun i => bF f (64 * k + i)) 64 := cN_add
    rw [e] at h2
    show (szA bcV f k + bcV (f k)).toInt = (cN (bF f) (64 * (k + 1)) : Nat)
    rw [show 64 * (k + 1) = 64 * k + 64 by omega, ea, i_add (by omega) (by omega), ih, h2]
    omega
/-- the lowest bit of a word -/
theorem cN_low {j : Nat} : ∀ {n : Nat}, cN (fun i => decide (i < j)) n = if n ≤ j then n else j
  | 0 => by rw [if_pos (Nat.zero_le _)]; rfl
  | n + 1 => by
    show cN (fun i => decide (i < j)) n + (if decide (n < j) = true then 1 else 0) = _
    rw [cN_low]
    by_cases h : n < j
    · rw [if_pos (by omega), if_pos (decide_eq_true h), if_pos (by omega)]
    · rw [if_neg (show ¬ decide (n < j) = true by rw [decide_eq_false h]; exact Bool.false_ne_true), if_neg (show ¬ n + 1 ≤ j by omega)]
      by_cases e : n ≤ j
      · rw [if_pos e]
        omega
      · rw [if_neg e]
        rfl
theorem pr_b {n j i : Nat} (h1 : n.testBit j = true) (h2 : ∀ i, i < j → n.testBit i = false) : (n - 1).testBit i = if i < j then true else if i = j then false else n.testBit i := by
  obtain ⟨a, b, hb, e⟩ : ∃ a b, b < 2 ^ j ∧ n = 2 ^ j * a + b := ⟨n / 2 ^ j, n % 2 ^ j, Nat.mod_lt _ (Nat.two_pow_pos j), (Nat.div_add_mod n (2 ^ j)).symm⟩
  have b0 : b = 0 := Nat.eq_of_testBit_eq (fun i => by
    rw [Nat.zero_testBit]
    by_cases hi : i < j
    · have h := h2 i hi
      rw [e, Nat.testBit_two_pow_mul_add a hb, if_pos hi] at h
      exact h
    · exact Nat.testBit_lt_two_pow (Nat.lt_of_lt_of_le hb (Nat.pow_le_pow_right (by decide) (by omega))))
  subst b0
  have ha : a.testBit 0 = true := by
    have h := h1
    rw [e, Nat.testBit_two_pow_mul_add a (Nat.two_pow_pos j), if_neg (Nat.lt_irrefl j), Nat.sub_self] at h
    exact h
  have a1 : a % 2 = 1 := by
    rw [Nat.testBit_zero] at ha
    exact of_decide_eq_true ha
  obtain ⟨c, hc⟩ : ∃ c, a = 2 * c + 1 := ⟨a / 2, by omega⟩
  have hp := Nat.two_pow_pos j
  have e1 : n - 1 = 2 ^ j * (2 * c) + (2 ^ j - 1) := by
    rw [e, hc, Nat.mul_add, Nat.mul_one]
    generalize 2 ^ j * (2 * c) = y
    omega
  rw [e1, Nat.testBit_two_pow_mul_add (2 * c) (by omega)]
  by_cases hi : i < j
  · rw [if_pos hi, if_pos hi, Nat.testBit_two_pow_sub_one, decide_eq_true hi]
  · rw [if_neg hi, if_neg hi]
    by_cases ej : i = j
    · rw [if_pos ej, ej, Nat.sub_self, Nat.testBit_zero]
      exact decide_eq_false (by omega)
    · rw [if_neg ej, e, Nat.testBit_two_pow_mul_add a hp, if_neg hi, hc]
      obtain ⟨k, hk⟩ : ∃ k, i - j = k + 1 := ⟨i - j - 1, by omega⟩
      rw [hk, Nat.testBit_succ, Nat.testBit_succ, show 2 * c / 2 = c by omega, show (2 * c + 1) / 2 = c by omega]
theorem m1_64 : ∀ i, i < 64 → (Int64.ofInt (-1)).toBitVec.getLsbD i = true := by decide +kernel
theorem one_64 : nL (Int64.ofNat 1) = 1 := by decide +kernel
/-- its place, as the class finds it -/
def lwV (x : Int64) : Int32 := bcV ((x ^^^ Int64.ofInt (-1)) &&& (x - Int64.ofNat 1))
theorem lwV_ok {x : Int64} {j : Nat} (hj : j < 64) (h1 : x.toBitVec.getLsbD j = true) (h2 : ∀ i, i < j → x.toBitVec.getLsbD i = false) : (lwV x).toInt = (j : Int) := by
  unfold lwV
  rw [bc_cN]
  have hn1 : (nL x).testBit j = true := by rw [nL_b]; exact h1
  have hge := Nat.ge_two_pow_of_testBit hn1
  have hp := Nat.two_pow_pos j
  have es : nL (x - Int64.ofNat 1) = nL x - 1 := by
    rw [nL_sub (by rw [one_64]; omega), one_64]
  have e : cN (fun i => ((x ^^^ Int64.ofInt (-1)) &&& (x - Int64.ofNat 1)).toBitVec.getLsbD i) 64 = cN (fun i => decide (i < j)) 64 := cN_eq (fun i hi => by
    show ((x ^^^ Int64.ofInt (-1)) &&& (x - Int64.ofNat 1)).toBitVec.getLsbD i = decide (i < j)
    rw [Int64.toBitVec_and, BitVec.getLsbD_and, Int64.toBitVec_xor, BitVec.getLsbD_xor, m1_64 i hi, ← nL_b (x := x - Int64.ofNat 1), es, pr_b hn1 (fun i hi => by rw [nL_b]; exact h2 i hi), nL_b]
    by_cases c : i < j
    · rw [if_pos c, decide_eq_true c, h2 i c]
      rfl
    · rw [if_neg c, decide_eq_false c]
      by_cases d : i = j
      · rw [if_pos d, Bool.and_false]
      · rw [if_neg d]
        cases x.toBitVec.getLsbD i <;> rfl)
  rw [e, cN_low, if_neg (by omega)]
theorem ms_sh : ∀ j, j < 64 → ∀ i, i < 64 → (Int64.ofInt (-1) <<< ((Int32.ofNat j).toInt64 &&& 63)).toBitVec.getLsbD i = decide (j ≤ i) := by decide +kernel
theorem l_zero {x : Int64} : x = Int64.ofNat 0 ↔ ∀ i, i < 64 → x.toBitVec.getLsbD i = false := by
  constructor
  · rintro rfl i hi
    show (BitVec.ofNat 64 0).getLsbD i = false
    rw [BitVec.getLsbD_ofNat, Nat.zero_testBit, Bool.and_false]
  · intro h
    refine Int64.toBitVec_inj.mp (BitVec.eq_of_getLsbD_eq (fun i hi => ?_))
    rw [h i hi]
    show false = (BitVec.ofNat 64 0).getLsbD i
    rw [BitVec.getLsbD_ofNat, Nat.zero_testBit, Bool.and_false]
/-- the int's count of bits, below 4096 -/
def icV (a : Int32) : Int32 :=
  let x1 := a - ((a.toUInt32 >>> ((Int32.ofInt 1).toUInt32 &&& Int32.toUInt32 31)).toInt32 &&& Int32.ofInt 1431655765)
  let x2 := (x1 &&& Int32.ofInt 858993459) + ((x1.toUInt32 >>> ((Int32.ofInt 2).toUInt32 &&& Int32.toUInt32 31)).toInt32 &&& Int32.ofInt 858993459)
  let x3 := (x2 + (x2.toUInt32 >>> ((Int32.ofInt 4).toUInt32 &&& Int32.toUInt32 31)).toInt32) &&& Int32.ofInt 252645135
  let x4 := x3 + (x3.toUInt32 >>> ((Int32.ofInt 8).toUInt32 &&& Int32.toUInt32 31)).toInt32
  let x5 := x4 + (x4.toUInt32 >>> ((Int32.ofInt 16).toUInt32 &&& Int32.toUInt32 31)).toInt32
  x5 &&& Int32.ofInt 63
theorem icV_q : ∀ q, q < 64 → ∀ r, r < 64 → icV (Int32.ofNat (64 * q + r)) = Int32.ofNat (pcN 12 (64 * q + r)) := by decide +kernel
theorem icV_ok {a : Nat} (h : a < 4096) : (icV (Int32.ofNat a)).toInt = (pcN 12 a : Nat) := by
  have h1 := icV_q (a / 64) (by omega) (a % 64) (by omega)
  rw [Nat.div_add_mod] at h1
  have h2 := pcN_le (k := 12) (n := a)
  rw [h1, Int32.toInt_ofNat_of_lt (by omega)]
theorem pc_64 {a : Nat} (h : a < 4096) : pcN 64 a = pcN 12 a := by
  rw [pcN_cN, pcN_cN]
  refine cN_none (m := 12) (k := 52) (fun i hi _ hb => ?_)
  have h2 : a < 2 ^ i := Nat.lt_of_lt_of_le (show a < 2 ^ 12 from h) (Nat.pow_le_pow_right (by decide) (by omega))
  rw [Nat.testBit_lt_two_pow h2] at hb
  cases hb
theorem nL_i {a : Nat} (h : a < 4096) : nL (Int32.ofNat a).toInt64 = a := by
  have h1 : (Int32.ofNat a).toInt64.toInt = (a : Int) := by rw [Int32.toInt_toInt64, n32_t h]
  have h2 : (Int32.ofNat a).toInt64 = Int64.ofNat a := Int64.toInt_inj.mp (by rw [h1, Int64.toInt_ofNat_of_lt (by omega)])
  rw [h2]
  show (BitVec.ofNat 64 a).toNat = a
  rw [BitVec.toNat_ofNat]
  exact Nat.mod_eq_of_lt (by omega)
/-- the two count alike -/
theorem ic_cb {a : Nat} (h : a < 4096) : icV (Int32.ofNat a) = cbA (Int32.ofNat a).toInt64 64 := by
  refine Int32.toInt_inj.mp ?_
  rw [icV_ok h, cbA_eq (Nat.le_refl _), nL_i h, pc_64 h]
