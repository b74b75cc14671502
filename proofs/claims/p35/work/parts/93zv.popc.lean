/-! counting bits -/
/-- how many of the lowest k bits are there -/
def pcN : Nat → Nat → Nat
  | 0, _ => 0
  | k + 1, n => pcN k n + n / 2 ^ k % 2
theorem pcN_s : ∀ {k n : Nat}, pcN (k + 1) n = n % 2 + pcN k (n / 2)
  | 0, n => by
    show 0 + n / 2 ^ 0 % 2 = n % 2 + 0
    rw [Nat.pow_zero, Nat.div_one]
    omega
  | k + 1, n => by
    show pcN (k + 1) n + n / 2 ^ (k + 1) % 2 = n % 2 + (pcN k (n / 2) + n / 2 / 2 ^ k % 2)
    rw [pcN_s (k := k), Nat.div_div_eq_div_mul, show 2 * 2 ^ k = 2 ^ (k + 1) from Nat.pow_succ'.symm]
    omega
theorem pcN_le : ∀ {k n : Nat}, pcN k n ≤ k
  | 0, _ => Nat.le_refl _
  | k + 1, n => by
    have h := pcN_le (k := k) (n := n)
    show pcN k n + n / 2 ^ k % 2 ≤ k + 1
    omega
theorem pcN_0 {n : Nat} : pcN 0 n = 0 := rfl
theorem pcN_8s {k n : Nat} : pcN (k + 8) n = n % 2 + (n / 2 % 2 + (n / 4 % 2 + (n / 8 % 2 + (n / 16 % 2 + (n / 32 % 2 + (n / 64 % 2 + (n / 128 % 2 + pcN k (n / 256)))))))) := by
  rw [show k + 8 = k + 7 + 1 from rfl, pcN_s, show k + 7 = k + 6 + 1 from rfl, pcN_s, show k + 6 = k + 5 + 1 from rfl, pcN_s, show k + 5 = k + 4 + 1 from rfl, pcN_s, show k + 4 = k + 3 + 1 from rfl, pcN_s, show k + 3 = k + 2 + 1 from rfl, pcN_s, show k + 2 = k + 1 + 1 from rfl, pcN_s, pcN_s]
  simp only [Nat.div_div_eq_div_mul, Nat.reduceMul]
theorem pcN_8 {k n : Nat} : pcN (k + 8) n = pcN 8 n + pcN k (n / 256) := by
  have a := pcN_8s (k := 0) (n := n)
  rw [Nat.zero_add, pcN_0] at a
  rw [pcN_8s, a]
  simp only [Nat.add_assoc, Nat.add_zero]
/-- fields cut by a mask -/
theorem and_f (j : Nat) {a b q m : Nat} (ha : a < 2 ^ j) (hb : b < 2 ^ j) : (2 ^ j * q + a) &&& (2 ^ j * m + b) = 2 ^ j * (q &&& m) + (a &&& b) := by
  refine Nat.eq_of_testBit_eq (fun i => ?_)
  rw [Nat.testBit_and, Nat.testBit_two_pow_mul_add _ ha, Nat.testBit_two_pow_mul_add _ hb, Nat.testBit_two_pow_mul_add _ (Nat.lt_of_le_of_lt Nat.and_le_left ha)]
  split
  · rw [Nat.testBit_and]
  · rw [Nat.testBit_and]
def mkF (B v : Nat) : Nat → Nat
  | 0 => 0
  | k + 1 => B * mkF B v k + v
def h1F : Nat → Nat → Nat
  | 0, _ => 0
  | k + 1, n => 4 * h1F k (n / 4) + n / 2 % 2
def e1F : Nat → Nat → Nat
  | 0, _ => 0
  | k + 1, n => 4 * e1F k (n / 4) + pcN 2 n
def e2F : Nat → Nat → Nat
  | 0, _ => 0
  | k + 1, n => 16 * e2F k (n / 16) + pcN 4 n
def e3F : Nat → Nat → Nat
  | 0, _ => 0
  | k + 1, n => 256 * e3F k (n / 256) + pcN 8 n
theorem pcN_2 {n : Nat} : pcN 2 n = n % 2 + n / 2 % 2 := by
  rw [pcN_s, pcN_s]
  rfl
theorem pcN_4 {n : Nat} : pcN 4 n = pcN 2 n + pcN 2 (n / 4) := by
  rw [pcN_2, pcN_2, pcN_s, pcN_s, pcN_s, pcN_s, pcN_0]
  simp only [Nat.div_div_eq_div_mul, Nat.reduceMul, Nat.add_assoc, Nat.add_zero]
theorem pcN_84 {n : Nat} : pcN 8 n = pcN 4 n + pcN 4 (n / 16) := by
  have a := pcN_8s (k := 0) (n := n)
  rw [Nat.zero_add, pcN_0] at a
  rw [a, pcN_4, pcN_4, pcN_2, pcN_2, pcN_2, pcN_2]
  simp only [Nat.div_div_eq_div_mul, Nat.reduceMul, Nat.add_assoc, Nat.add_zero]
theorem st_1a : ∀ {k n : Nat}, n / 2 &&& mkF 4 1 k = h1F k n
  | 0, n => Nat.and_zero _
  | k + 1, n => by
    show n / 2 &&& (4 * mkF 4 1 k + 1) = 4 * h1F k (n / 4) + n / 2 % 2
    have e : n / 2 = 4 * (n / 4 / 2) + n / 2 % 4 := by omega
    have h := and_f 2 (a := n / 2 % 4) (b := 1) (q := n / 4 / 2) (m := mkF 4 1 k) (by omega) (by decide)
    have h : (4 * (n / 4 / 2) + n / 2 % 4) &&& (4 * mkF 4 1 k + 1) = 4 * (n / 4 / 2 &&& mkF 4 1 k) + (n / 2 % 4 &&& 1) := h
    rw [← e, st_1a (k := k) (n := n / 4), Nat.and_one_is_mod] at h
    rw [h]
    omega
theorem st_1b : ∀ {k n : Nat}, n < 4 ^ k → n = e1F k n + h1F k n
  | 0, n, h => by
    have h : n < 1 := h
    show n = 0 + 0
    omega
  | k + 1, n, h => by
    rw [Nat.pow_succ] at h
    have h2 := st_1b (k := k) (n := n / 4) (by omega)
    show n = 4 * e1F k (n / 4) + pcN 2 n + (4 * h1F k (n / 4) + n / 2 % 2)
    rw [pcN_2]
    omega
theorem st_1 {k n : Nat} (h : n < 4 ^ k) : n - (n / 2 &&& mkF 4 1 k) = e1F k n := by
  have h2 := st_1b h
  rw [st_1a]
  omega
theorem e1F_2 {k n : Nat} : e1F (k + 2) n = 16 * e1F k (n / 16) + 4 * pcN 2 (n / 4) + pcN 2 n := by
  show 4 * (4 * e1F k (n / 4 / 4) + pcN 2 (n / 4)) + pcN 2 n = _
  rw [Nat.div_div_eq_div_mul, show 4 * 4 = 16 from rfl]
  omega
theorem st_2 : ∀ {k n : Nat}, (e1F (2 * k) n &&& mkF 16 3 k) + (e1F (2 * k) n / 4 &&& mkF 16 3 k) = e2F k n
  | 0, n => by
    show (0 &&& 0) + (0 / 4 &&& 0) = 0
    decide
  | k + 1, n => by
    have l0 : pcN 2 n ≤ 2 := pcN_le
    have l1 : pcN 2 (n / 4) ≤ 2 := pcN_le
    have l2 := st_2 (k := k) (n := n / 16)
    show (e1F (2 * k + 2) n &&& (16 * mkF 16 3 k + 3)) + (e1F (2 * k + 2) n / 4 &&& (16 * mkF 16 3 k + 3)) = 16 * e2F k (n / 16) + pcN 4 n
    rw [e1F_2, pcN_4]
    generalize pcN 2 n = a at *
    generalize pcN 2 (n / 4) = b at *
    generalize e1F (2 * k) (n / 16) = r at *
    have h1 := and_f 4 (a := 4 * b + a) (b := 3) (q := r) (m := mkF 16 3 k) (by omega) (by decide)
    have h1 : (16 * r + (4 * b + a)) &&& (16 * mkF 16 3 k + 3) = 16 * (r &&& mkF 16 3 k) + ((4 * b + a) &&& 3) := h1
    have h2 := and_f 4 (a := 4 * (r % 4) + b) (b := 3) (q := r / 4) (m := mkF 16 3 k) (by omega) (by decide)
    have h2 : (16 * (r / 4) + (4 * (r % 4) + b)) &&& (16 * mkF 16 3 k + 3) = 16 * (r / 4 &&& mkF 16 3 k) + ((4 * (r % 4) + b) &&& 3) := h2
    have m1 : (4 * b + a) &&& 3 = a := (Nat.and_two_pow_sub_one_eq_mod (4 * b + a) 2).trans (by omega)
    have m2 : (4 * (r % 4) + b) &&& 3 = b := (Nat.and_two_pow_sub_one_eq_mod (4 * (r % 4) + b) 2).trans (by omega)
    rw [show 16 * r + 4 * b + a = 16 * r + (4 * b + a) by omega, h1, show (16 * r + (4 * b + a)) / 4 = 16 * (r / 4) + (4 * (r % 4) + b) by omega, h2, m1, m2]
    omega
theorem e2F_2 {k n : Nat} : e2F (k + 2) n = 256 * e2F k (n / 256) + 16 * pcN 4 (n / 16) + pcN 4 n := by
  show 16 * (16 * e2F k (n / 16 / 16) + pcN 4 (n / 16)) + pcN 4 n = _
  rw [Nat.div_div_eq_div_mul, show 16 * 16 = 256 from rfl]
  omega
theorem e2F_m : ∀ {k n : Nat}, e2F k n % 16 ≤ 4
  | 0, _ => Nat.zero_le _
  | k + 1, n => by
    have l0 : pcN 4 n ≤ 4 := pcN_le
    show (16 * e2F k (n / 16) + pcN 4 n) % 16 ≤ 4
    omega
theorem st_3 : ∀ {k n : Nat}, (e2F (2 * k) n + e2F (2 * k) n / 16) &&& mkF 256 15 k = e3F k n
  | 0, n => by
    show (0 + 0 / 16) &&& 0 = 0
    decide
  | k + 1, n => by
    have l0 : pcN 4 n ≤ 4 := pcN_le
    have l1 : pcN 4 (n / 16) ≤ 4 := pcN_le
    have l2 := st_3 (k := k) (n := n / 256)
    have l3 := e2F_m (k := 2 * k) (n := n / 256)
    show (e2F (2 * k + 2) n + e2F (2 * k + 2) n / 16) &&& (256 * mkF 256 15 k + 15) = 256 * e3F k (n / 256) + pcN 8 n
    rw [e2F_2, pcN_84]
    generalize pcN 4 n = a at *
    generalize pcN 4 (n / 16) = b at *
    generalize e2F (2 * k) (n / 256) = r at *
    have h1 := and_f 8 (a := 16 * (b + r % 16) + (a + b)) (b := 15) (q := r + r / 16) (m := mkF 256 15 k) (by omega) (by decide)
    have h1 : (256 * (r + r / 16) + (16 * (b + r % 16) + (a + b))) &&& (256 * mkF 256 15 k + 15) = 256 * ((r + r / 16) &&& mkF 256 15 k) + ((16 * (b + r % 16) + (a + b)) &&& 15) := h1
    have m1 : (16 * (b + r % 16) + (a + b)) &&& 15 = a + b := (Nat.and_two_pow_sub_one_eq_mod (16 * (b + r % 16) + (a + b)) 4).trans (by omega)
    rw [show 256 * r + 16 * b + a + (256 * r + 16 * b + a) / 16 = 256 * (r + r / 16) + (16 * (b + r % 16) + (a + b)) by omega, h1, m1, l2]
theorem dvN_ {m x q r : Nat} (h : x = m * q + r) (hr : r < m) : x / m = q := by
  rw [h, Nat.mul_add_div (by omega), Nat.div_eq_of_lt hr, Nat.add_zero]
theorem mdN_ {m x q r : Nat} (h : x = m * q + r) (hr : r < m) : x % m = r := by
  rw [h, Nat.mul_add_mod, Nat.mod_eq_of_lt hr]
theorem st_4a {v w a b w2 v4 : Nat} (h1 : v = 256 * w + a) (hw : w = 256 * w2 + b) (h2 : v4 = v + w) : v4 = 256 * (w + w2) + (a + b) := by omega
theorem st_4b {w w2 w3 a b c v4 : Nat} (hw : w = 256 * w2 + b) (hw2 : w2 = 256 * w3 + c) (h : v4 = 256 * (w + w2) + (a + b)) : v4 = 65536 * (w2 + w3) + (256 * (b + c) + (a + b)) := by omega
theorem st_4c {w2 w3 w4 w5 a b c d e v4 v5 : Nat} (hw2 : w2 = 256 * w3 + c) (hw3 : w3 = 256 * w4 + d) (hw4 : w4 = 256 * w5 + e) (h : v4 = 65536 * (w2 + w3) + (256 * (b + c) + (a + b))) (h5 : v5 = v4 + (w2 + w3)) : v5 = 65536 * ((w2 + w3) + (w4 + w5)) + (256 * (b + c + d + e) + (a + b + c + d)) := by omega
theorem st_4d {w2 w3 w4 w5 w6 w7 a b c d e f g v5 : Nat} (hw2 : w2 = 256 * w3 + c) (hw3 : w3 = 256 * w4 + d) (hw4 : w4 = 256 * w5 + e) (hw5 : w5 = 256 * w6 + f) (hw6 : w6 = 256 * w7 + g) (h : v5 = 65536 * ((w2 + w3) + (w4 + w5)) + (256 * (b + c + d + e) + (a + b + c + d))) : v5 = 4294967296 * ((w4 + w5) + (w6 + w7)) + (65536 * (256 * (d + e + f + g) + (c + d + e + f)) + (256 * (b + c + d + e) + (a + b + c + d))) := by omega
theorem st_4e {w4 w5 w6 w7 a b c d e f g h v5 v6 : Nat} (hw4 : w4 = 256 * w5 + e) (hw5 : w5 = 256 * w6 + f) (hw6 : w6 = 256 * w7 + g) (hw7 : w7 = h) (h5 : v5 = 4294967296 * ((w4 + w5) + (w6 + w7)) + (65536 * (256 * (d + e + f + g) + (c + d + e + f)) + (256 * (b + c + d + e) + (a + b + c + d)))) (h6 : v6 = v5 + ((w4 + w5) + (w6 + w7))) : v6 = 128 * (33554432 * ((w4 + w5) + (w6 + w7)) + (512 * (256 * (d + e + f + g) + (c + d + e + f)) + 2 * (b + c + d + e)) + 2 * (w5 + w6 + w7)) + (a + b + c + d + e + f + g + h) := by omega
theorem st_4 {a b c d e f g h w w2 w3 w4 w5 w6 v v4 v5 v6 : Nat} (ha : a ≤ 8) (hb : b ≤ 8) (hc : c ≤ 8) (hd : d ≤ 8) (he : e ≤ 8) (hf : f ≤ 8) (hg : g ≤ 8) (hh : h ≤ 8) (hv : v = 256 * w + a) (hw : w = 256 * w2 + b) (hw2 : w2 = 256 * w3 + c) (hw3 : w3 = 256 * w4 + d) (hw4 : w4 = 256 * w5 + e) (hw5 : w5 = 256 * w6 + f) (hw6 : w6 = 256 * h + g) (h4 : v4 = v + v / 256) (h5 : v5 = v4 + v4 / 65536) (h6 : v6 = v5 + v5 / 4294967296) : v6 % 128 = a + b + c + d + e + f + g + h := by
  rw [dvN_ hv (Nat.lt_of_le_of_lt ha (by decide))] at h4
  have k4 := st_4b hw hw2 (st_4a hv hw h4)
  rw [dvN_ k4 (by clear hv hw hw2 hw3 hw4 hw5 hw6 h4 h5 h6 k4; omega)] at h5
  have k5 := st_4d hw2 hw3 hw4 hw5 hw6 (st_4c hw2 hw3 hw4 k4 h5)
  rw [dvN_ k5 (by clear hv hw hw2 hw3 hw4 hw5 hw6 h4 h5 h6 k4 k5; omega)] at h6
  exact mdN_ (st_4e hw4 hw5 hw6 rfl k5 h6) (by clear hv hw hw2 hw3 hw4 hw5 hw6 h4 h5 h6 k4 k5; omega)
theorem st_4l {a b c d e f g h w w2 w3 w4 w5 w6 v : Nat} (ha : a ≤ 8) (hb : b ≤ 8) (hc : c ≤ 8) (hd : d ≤ 8) (he : e ≤ 8) (hf : f ≤ 8) (hg : g ≤ 8) (hh : h ≤ 8) (hv : v = 256 * w + a) (hw : w = 256 * w2 + b) (hw2 : w2 = 256 * w3 + c) (hw3 : w3 = 256 * w4 + d) (hw4 : w4 = 256 * w5 + e) (hw5 : w5 = 256 * w6 + f) (hw6 : w6 = 256 * h + g) : v < 1152921504606846976 := by omega
theorem e3F_8 {n : Nat} : e3F 8 n = 256 * (256 * (256 * (256 * (256 * (256 * (256 * pcN 8 (n / 72057594037927936) + pcN 8 (n / 281474976710656)) + pcN 8 (n / 1099511627776)) + pcN 8 (n / 4294967296)) + pcN 8 (n / 16777216)) + pcN 8 (n / 65536)) + pcN 8 (n / 256)) + pcN 8 n := by
  show 256 * (256 * (256 * (256 * (256 * (256 * (256 * (256 * 0 + pcN 8 (n / 256 / 256 / 256 / 256 / 256 / 256 / 256)) + pcN 8 (n / 256 / 256 / 256 / 256 / 256 / 256)) + pcN 8 (n / 256 / 256 / 256 / 256 / 256)) + pcN 8 (n / 256 / 256 / 256 / 256)) + pcN 8 (n / 256 / 256 / 256)) + pcN 8 (n / 256 / 256)) + pcN 8 (n / 256)) + pcN 8 n = _
  simp only [Nat.div_div_eq_div_mul, Nat.reduceMul, Nat.mul_zero, Nat.zero_add]
theorem pcN_64 {n : Nat} : pcN 64 n = pcN 8 n + pcN 8 (n / 256) + pcN 8 (n / 65536) + pcN 8 (n / 16777216) + pcN 8 (n / 4294967296) + pcN 8 (n / 1099511627776) + pcN 8 (n / 281474976710656) + pcN 8 (n / 72057594037927936) := by
  rw [show 64 = 56 + 8 from rfl, pcN_8 (k := 56), show 56 = 48 + 8 from rfl, pcN_8 (k := 48), show 48 = 40 + 8 from rfl, pcN_8 (k := 40), show 40 = 32 + 8 from rfl, pcN_8 (k := 32), show 32 = 24 + 8 from rfl, pcN_8 (k := 24), show 24 = 16 + 8 from rfl, pcN_8 (k := 16), show 16 = 8 + 8 from rfl, pcN_8 (k := 8)]
  simp only [Nat.div_div_eq_div_mul, Nat.reduceMul, Nat.add_assoc]
theorem pc_nat {n v1 v2 v3 v4 v5 v6 : Nat} (h : n < 18446744073709551616) (h1 : v1 = n - (n / 2 &&& 6148914691236517205)) (h2 : v2 = (v1 &&& 3689348814741910323) + (v1 / 4 &&& 3689348814741910323)) (h3 : v3 = (v2 + v2 / 16) &&& 1085102592571150095) (h4 : v4 = v3 + v3 / 256) (h5 : v5 = v4 + v4 / 65536) (h6 : v6 = v5 + v5 / 4294967296) : v2 < 9223372036854775808 ∧ v3 < 1152921504606846976 ∧ v6 % 128 = pcN 64 n := by
  have b2 : v2 < 9223372036854775808 := by
    have a1 : v1 &&& 3689348814741910323 ≤ 3689348814741910323 := Nat.and_le_right
    have a2 : v1 / 4 &&& 3689348814741910323 ≤ 3689348814741910323 := Nat.and_le_right
    rw [h2]
    exact Nat.lt_of_le_of_lt (Nat.add_le_add a1 a2) (by decide)
  have b3 : v3 < 1152921504606846976 := by
    rw [h3]
    exact Nat.lt_of_le_of_lt Nat.and_le_right (by decide)
  rw [show 6148914691236517205 = mkF 4 1 32 by decide +kernel, st_1 (show n < 4 ^ 32 from h)] at h1
  rw [show 3689348814741910323 = mkF 16 3 16 by decide +kernel, h1, show 32 = 2 * 16 from rfl, st_2] at h2
  rw [show 1085102592571150095 = mkF 256 15 8 by decide +kernel, h2, show 16 = 2 * 8 from rfl] at h3
  have h3 : v3 = e3F 8 n := h3.trans st_3
  rw [e3F_8] at h3
  exact ⟨b2, b3, (st_4 pcN_le pcN_le pcN_le pcN_le pcN_le pcN_le pcN_le pcN_le h3 rfl rfl rfl rfl rfl rfl h4 h5 h6).trans pcN_64.symm⟩
def us_ (a : Int64) (k : Int32) : Int64 := (a.toUInt64 >>> (k.toInt64.toUInt64 &&& Int64.toUInt64 63)).toInt64
def nL (a : Int64) : Nat := a.toBitVec.toNat
theorem nL_lt {a : Int64} : nL a < 18446744073709551616 := a.toBitVec.isLt
theorem us_N {a : Int64} {k : Int32} {j : Nat} (hk : (k.toInt64.toUInt64 &&& Int64.toUInt64 63).toNat % 64 = j) : nL (us_ a k) = nL a / 2 ^ j := by
  show (a.toUInt64 >>> (k.toInt64.toUInt64 &&& Int64.toUInt64 63)).toNat = _
  rw [UInt64.toNat_shiftRight, hk, Nat.shiftRight_eq_div_pow]
  rfl
theorem nL_and {a b : Int64} : nL (a &&& b) = nL a &&& nL b := BitVec.toNat_and _ _
theorem nL_sub {a b : Int64} (h : nL b ≤ nL a) : nL (a - b) = nL a - nL b := by
  show (a.toBitVec - b.toBitVec).toNat = _
  exact BitVec.toNat_sub_of_le h
theorem nL_add {a b : Int64} (h : nL a + nL b < 18446744073709551616) : nL (a + b) = nL a + nL b := by
  show (a.toBitVec + b.toBitVec).toNat = _
  rw [BitVec.toNat_add]
  exact Nat.mod_eq_of_lt h
/-- Long.bitCount -/
def bcV (a : Int64) : Int32 :=
  let v1 := a - (us_ a (Int32.ofInt 1) &&& Int64.ofInt 6148914691236517205)
  let v2 := (v1 &&& Int64.ofInt 3689348814741910323) + (us_ v1 (Int32.ofInt 2) &&& Int64.ofInt 3689348814741910323)
  let v3 := (v2 + us_ v2 (Int32.ofInt 4)) &&& Int64.ofInt 1085102592571150095
  let v4 := v3 + us_ v3 (Int32.ofInt 8)
  let v5 := v4 + us_ v4 (Int32.ofInt 16)
  let v6 := v5 + us_ v5 (Int32.ofInt 32)
  v6.toInt32 &&& Int32.ofInt 127
theorem i127 {x : Int64} : (x.toInt32 &&& Int32.ofInt 127).toInt = ((nL x % 128 : Nat) : Int) := by
  have e : (x.toInt32 &&& Int32.ofInt 127).toBitVec.toNat = nL x % 128 := by
    show (x.toInt32.toBitVec &&& (127 : BitVec 32)).toNat = _
    rw [BitVec.toNat_and]
    show (x.toInt32.toBitVec).toNat &&& 127 = _
    have h : x.toInt32.toBitVec.toNat = nL x % 4294967296 := by
      show (x.toBitVec.signExtend 32).toNat = _
      rw [BitVec.signExtend_eq_setWidth_of_le _ (by decide), BitVec.toNat_setWidth]
      rfl
    rw [h]
    exact (Nat.and_two_pow_sub_one_eq_mod _ 7).trans (Nat.mod_mod_of_dvd _ (by decide))
  show (x.toInt32 &&& Int32.ofInt 127).toBitVec.toInt = _
  rw [BitVec.toInt_eq_toNat_of_lt (by rw [e]; omega), e]
theorem bcV_eq {a : Int64} : (bcV a).toInt = (pcN 64 (nL a) : Nat) := by
  unfold bcV
  dsimp only
  rw [i127]
  have s1 : ∀ {x : Int64}, nL (us_ x (Int32.ofInt 1)) = nL x / 2 := us_N (j := 1) (by decide +kernel)
  have s2 : ∀ {x : Int64}, nL (us_ x (Int32.ofInt 2)) = nL x / 4 := us_N (j := 2) (by decide +kernel)
  have s4 : ∀ {x : Int64}, nL (us_ x (Int32.ofInt 4)) = nL x / 16 := us_N (j := 4) (by decide +kernel)
  have s8 : ∀ {x : Int64}, nL (us_ x (Int32.ofInt 8)) = nL x / 256 := us_N (j := 8) (by decide +kernel)
  have s16 : ∀ {x : Int64}, nL (us_ x (Int32.ofInt 16)) = nL x / 65536 := us_N (j := 16) (by decide +kernel)
  have s32 : ∀ {x : Int64}, nL (us_ x (Int32.ofInt 32)) = nL x / 4294967296 := us_N (j := 32) (by decide +kernel)
  generalize e1 : a - (us_ a (Int32.ofInt 1) &&& Int64.ofInt 6148914691236517205) = v1
  generalize e2 : (v1 &&& Int64.ofInt 3689348814741910323) + (us_ v1 (Int32.ofInt 2) &&& Int64.ofInt 3689348814741910323) = v2
  generalize e3 : (v2 + us_ v2 (Int32.ofInt 4)) &&& Int64.ofInt 1085102592571150095 = v3
  generalize e4 : v3 + us_ v3 (Int32.ofInt 8) = v4
  generalize e5 : v4 + us_ v4 (Int32.ofInt 16) = v5
  generalize e6 : v5 + us_ v5 (Int32.ofInt 32) = v6
  have m1 : nL (Int64.ofInt 6148914691236517205) = 6148914691236517205 := by decide +kernel
  have m2 : nL (Int64.ofInt 3689348814741910323) = 3689348814741910323 := by decide +kernel
  have m3 : nL (Int64.ofInt 1085102592571150095) = 1085102592571150095 := by decide +kernel
  have n1 : nL v1 = nL a - (nL a / 2 &&& 6148914691236517205) := by
    have le : nL (us_ a (Int32.ofInt 1) &&& Int64.ofInt 6148914691236517205) ≤ nL a := by
      rw [nL_and, s1]
      exact Nat.le_trans Nat.and_le_left (Nat.div_le_self _ _)
    rw [← e1, nL_sub le, nL_and, s1, m1]
  have n2 : nL v2 = (nL v1 &&& 3689348814741910323) + (nL v1 / 4 &&& 3689348814741910323) := by
    rw [← e2, nL_add, nL_and, nL_and, s2, m2]
    rw [nL_and, nL_and, s2, m2]
    exact Nat.lt_of_le_of_lt (Nat.add_le_add Nat.and_le_right Nat.and_le_right) (by decide)
  have b2 := (pc_nat nL_lt n1 n2 rfl rfl rfl rfl).1
  have n3 : nL v3 = (nL v2 + nL v2 / 16) &&& 1085102592571150095 := by
    rw [← e3, nL_and, nL_add, s4, m3]
    rw [s4]
    omega
  have b3 := (pc_nat nL_lt n1 n2 n3 rfl rfl rfl).2.1
  have n4 : nL v4 = nL v3 + nL v3 / 256 := by
    rw [← e4, nL_add, s8]
    rw [s8]
    omega
  have n5 : nL v5 = nL v4 + nL v4 / 65536 := by
    rw [← e5, nL_add, s16]
    rw [s16, n4]
    clear n1 n2 n3 e1 e2 e3 e4 e5 e6
    omega
  have n6 : nL v6 = nL v5 + nL v5 / 4294967296 := by
    have l4 : nL v4 < 2305843009213693952 := by
      rw [n4]
      clear n1 n2 n3 e1 e2 e3 e4 e5 e6 n5
      omega
    have l5 : nL v5 < 4611686018427387904 := by
      rw [n5]
      clear n1 n2 n3 e1 e2 e3 e4 e5 e6 n4
      omega
    rw [← e6, nL_add, s32]
    rw [s32]
    clear n1 n2 n3 e1 e2 e3 e4 e5 e6 n4 n5
    omega
  rw [(pc_nat nL_lt n1 n2 n3 n4 n5 n6).2.2]
theorem i1_ {x : Int64} : ((x &&& Int64.ofNat 1).toInt32).toInt = ((nL x % 2 : Nat) : Int) := by
  have e : (x &&& Int64.ofNat 1).toInt32.toBitVec.toNat = nL x % 2 := by
    show ((x &&& Int64.ofNat 1).toBitVec.signExtend 32).toNat = _
    rw [BitVec.signExtend_eq_setWidth_of_le _ (by decide), BitVec.toNat_setWidth]
    have h : (x &&& Int64.ofNat 1).toBitVec.toNat = nL x % 2 := by
      rw [show (x &&& Int64.ofNat 1).toBitVec.toNat = nL x &&& nL (Int64.ofNat 1) from nL_and, show nL (Int64.ofNat 1) = 1 by decide +kernel]
      exact Nat.and_one_is_mod _
    rw [h]
    exact Nat.mod_eq_of_lt (by omega)
  show (x &&& Int64.ofNat 1).toInt32.toBitVec.toInt = _
  rw [BitVec.toInt_eq_toNat_of_lt (by rw [e]; omega), e]
theorem sh_63 : ∀ j, j < 64 → ((Int32.ofNat j).toInt64.toUInt64 &&& Int64.toUInt64 63).toNat % 64 = j := by decide +kernel
/-- bit by bit -/
def cbA (a : Int64) : Nat → Int32
  | 0 => 0
  | k + 1 => cbA a k + (us_ a (Int32.ofNat k) &&& Int64.ofNat 1).toInt32
theorem cbA_eq {a : Int64} : ∀ {k : Nat}, k ≤ 64 → (cbA a k).toInt = (pcN k (nL a) : Nat)
  | 0, _ => rfl
  | k + 1, h => by
    have h1 := cbA_eq (a := a) (k := k) (by omega)
    have h2 := pcN_le (k := k) (n := nL a)
    have h3 : ((us_ a (Int32.ofNat k) &&& Int64.ofNat 1).toInt32).toInt = ((nL a / 2 ^ k % 2 : Nat) : Int) := by
      rw [i1_, us_N (sh_63 k (by omega))]
    show (cbA a k + (us_ a (Int32.ofNat k) &&& Int64.ofNat 1).toInt32).toInt = ((pcN k (nL a) + nL a / 2 ^ k % 2 : Nat) : Int)
    generalize (us_ a (Int32.ofNat k) &&& Int64.ofNat 1).toInt32 = y at *
    have hz : nL a / 2 ^ k % 2 < 2 := Nat.mod_lt _ (by decide)
    generalize nL a / 2 ^ k % 2 = z at *
    rw [i_add (by omega) (by omega), h1, h3]
    omega
theorem bc_cb {a : Int64} : bcV a = cbA a 64 := Int32.toInt_inj.mp (bcV_eq.trans (cbA_eq (Nat.le_refl _)).symm)
/-- four words -/
def szA (b : Int64 → Int32) (f : Nat → Int64) : Nat → Int32
  | 0 => 0
  | k + 1 => szA b f k + b (f k)
theorem szA_eq {b b2 : Int64 → Int32} {f f2 : Nat → Int64} (hb : ∀ v, b v = b2 v) : ∀ {k : Nat}, (∀ x, x < k → f x = f2 x) → szA b f k = szA b2 f2 k
  | 0, _ => rfl
  | k + 1, h => by
    show szA b f k + b (f k) = szA b2 f2 k + b2 (f2 k)
    rw [szA_eq hb (fun x hx => h x (by omega)), h k (by omega), hb]
/-- a world's word and bit -/
theorem wd_n : ∀ n, n < 256 → (Int32.ofNat n >>> (Int32.ofInt 6 &&& 31)).toInt = ((n / 64 : Nat) : Int) ∧ (Int32.ofNat n / Int32.ofInt 64).toInt = ((n / 64 : Nat) : Int) ∧ (Int32.ofNat n &&& Int32.ofInt 63) = Int32.ofNat (n % 64) ∧ Int32.ofNat n % Int32.ofInt 64 = Int32.ofNat (n % 64) := by decide +kernel
