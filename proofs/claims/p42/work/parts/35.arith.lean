noncomputable section
/-! the intervals are right -/
def ck_in (x : Int × Int) (z : Int) : Prop := x.1 ≤ z ∧ z ≤ x.2
theorem ck_B_pos {w : Nat} : 0 < ck_B w := Int.pow_pos (by decide)
theorem ck_B_two {w : Nat} (hw : 0 < w) : (2 : Int) * ck_B w = 2 ^ w := by
  obtain ⟨k, rfl⟩ : ∃ k, w = k + 1 := ⟨w - 1, by omega⟩
  show (2 : Int) * 2 ^ k = 2 ^ (k + 1)
  rw [Int.pow_succ, Int.mul_comm]
theorem ck_rng {w : Nat} (hw : 0 < w) (x : BitVec w) : ck_in (ck_top w) x.toInt := by
  have h1 : 2 * x.toInt < 2 ^ w := BitVec.two_mul_toInt_lt
  have h2 : -2 ^ w ≤ 2 * x.toInt := BitVec.le_two_mul_toInt
  have h3 := ck_B_two hw
  have h4 : ((2 : Int) ^ w) = 2 * ck_B w := h3.symm
  rw [h4] at h1 h2
  exact ⟨by show -(ck_B w) ≤ _; omega, by show _ ≤ ck_B w - 1; omega⟩
theorem ck_bm {w : Nat} (hw : 0 < w) {z : Int} (h1 : -(ck_B w) ≤ z) (h2 : z ≤ ck_B w - 1) : z.bmod (2 ^ w) = z := by
  have h3 := ck_B_two hw
  have h5 : ((2 ^ w : Nat) : Int) = 2 ^ w := by simp
  refine Int.bmod_eq_of_le ?_ ?_
  · rw [h5]; omega
  · rw [h5]; omega
theorem ck_cl_ok {w : Nat} (hw : 0 < w) {r : BitVec w} {z : Int} {x : Int × Int} (hr : r.toInt = z.bmod (2 ^ w)) (h : ck_in x z) : ck_in (ck_cl w x) r.toInt := by
  unfold ck_cl
  split
  · rename_i hx
    rw [hr, ck_bm hw (by have := h.1; omega) (by have := h.2; omega)]
    exact h
  · exact ck_rng hw r
theorem ck_cl_eq {w : Nat} (hw : 0 < w) {r : BitVec w} {z : Int} {x : Int × Int} (hr : r.toInt = z.bmod (2 ^ w)) (h : ck_in x z) (he : -(ck_B w) ≤ x.1 ∧ x.2 ≤ ck_B w - 1) : r.toInt = z := by
  rw [hr]
  exact ck_bm hw (by have := h.1; omega) (by have := h.2; omega)
theorem ck_cl_in {w : Nat} {x : Int × Int} (h : (ck_cl w x).1 = x.1 ∧ (ck_cl w x).2 = x.2) : -(ck_B w) ≤ x.1 ∧ x.2 ≤ ck_B w - 1 := by
  unfold ck_cl at h
  split at h
  · assumption
  · have a := h.1
    have b := h.2
    simp only [ck_top] at a b
    omega
theorem ck_mul1 {a l h c : Int} (h1 : l ≤ a) (h2 : a ≤ h) : ck_min (l * c) (h * c) ≤ a * c ∧ a * c ≤ ck_max (l * c) (h * c) := by
  have key : (l * c ≤ a * c ∧ a * c ≤ h * c) ∨ (h * c ≤ a * c ∧ a * c ≤ l * c) := by
    rcases Int.le_total 0 c with hc | hc
    · exact Or.inl ⟨Int.mul_le_mul_of_nonneg_right h1 hc, Int.mul_le_mul_of_nonneg_right h2 hc⟩
    · exact Or.inr ⟨Int.mul_le_mul_of_nonpos_right h2 hc, Int.mul_le_mul_of_nonpos_right h1 hc⟩
  unfold ck_min ck_max
  split <;> omega
theorem ck_mul2 {a b : Int} {x y : Int × Int} (hx : ck_in x a) (hy : ck_in y b) : ck_in (ck_min (ck_min (x.1 * y.1) (x.1 * y.2)) (ck_min (x.2 * y.1) (x.2 * y.2)), ck_max (ck_max (x.1 * y.1) (x.1 * y.2)) (ck_max (x.2 * y.1) (x.2 * y.2))) (a * b) := by
  have h1 := ck_mul1 (c := b) hx.1 hx.2
  have h2 := ck_mul1 (c := x.1) hy.1 hy.2
  have h3 := ck_mul1 (c := x.2) hy.1 hy.2
  rw [Int.mul_comm y.1, Int.mul_comm y.2, Int.mul_comm b] at h2 h3
  refine ⟨?_, ?_⟩
  · show ck_min (ck_min _ _) (ck_min _ _) ≤ _
    have e1 : ck_min (ck_min (x.1 * y.1) (x.1 * y.2)) (ck_min (x.2 * y.1) (x.2 * y.2)) ≤ ck_min (x.1 * b) (x.2 * b) := by
      have p1 := ck_le_min.mp (Int.le_refl (ck_min (ck_min (x.1 * y.1) (x.1 * y.2)) (ck_min (x.2 * y.1) (x.2 * y.2))))
      exact ck_le_min.mpr ⟨Int.le_trans p1.1 h2.1, Int.le_trans p1.2 h3.1⟩
    exact Int.le_trans e1 h1.1
  · show _ ≤ ck_max (ck_max _ _) (ck_max _ _)
    have p1 := ck_max_le.mp (Int.le_refl (ck_max (ck_max (x.1 * y.1) (x.1 * y.2)) (ck_max (x.2 * y.1) (x.2 * y.2))))
    have e1 : ck_max (x.1 * b) (x.2 * b) ≤ ck_max (ck_max (x.1 * y.1) (x.1 * y.2)) (ck_max (x.2 * y.1) (x.2 * y.2)) := ck_max_le.mpr ⟨Int.le_trans h2.2 p1.1, Int.le_trans h3.2 p1.2⟩
    exact Int.le_trans h1.2 e1
theorem ck_nn {w : Nat} {x : BitVec w} (h : 0 ≤ x.toInt) : x.toInt = (x.toNat : Int) ∧ x.msb = false := by
  have hm : x.msb = false := by
    rw [BitVec.msb_eq_toInt]
    exact decide_eq_false (by omega)
  exact ⟨BitVec.toInt_eq_toNat_of_msb hm, hm⟩
theorem ck_and_r {w : Nat} {a b : BitVec w} (h : 0 ≤ b.toInt) : 0 ≤ (a &&& b).toInt ∧ (a &&& b).toInt ≤ b.toInt := by
  obtain ⟨h1, h2⟩ := ck_nn h
  have hm : (a &&& b).msb = false := by rw [BitVec.msb_and, h2, Bool.and_false]
  rw [BitVec.toInt_eq_toNat_of_msb hm, BitVec.toNat_and, h1]
  exact ⟨Int.natCast_nonneg _, Int.ofNat_le.mpr Nat.and_le_right⟩
theorem ck_and_l {w : Nat} {a b : BitVec w} (h : 0 ≤ a.toInt) : 0 ≤ (a &&& b).toInt ∧ (a &&& b).toInt ≤ a.toInt := by
  rw [BitVec.and_comm]
  exact ck_and_r h
theorem ck_msk_lt {h : Int} {n : Nat} (hn : (n : Int) ≤ h) : n < 2 ^ (h.toNat.log2 + 1) := Nat.lt_of_le_of_lt (show n ≤ h.toNat by omega) Nat.lt_log2_self
theorem ck_msk_eq {h : Int} {n : Nat} (hn : n < 2 ^ (h.toNat.log2 + 1)) : (n : Int) ≤ ck_msk h := by
  unfold ck_msk
  have h1 : ((2 ^ (h.toNat.log2 + 1) : Nat) : Int) = 2 ^ (h.toNat.log2 + 1) := by simp
  have h2 : (n : Int) < ((2 ^ (h.toNat.log2 + 1) : Nat) : Int) := Int.ofNat_lt.mpr hn
  omega
theorem ck_or_ok {w : Nat} {a b : BitVec w} {x y : Int × Int} (hx : ck_in x a.toInt) (hy : ck_in y b.toInt) (h0 : 0 ≤ x.1) (h1 : 0 ≤ y.1) : ck_in (ck_max x.1 y.1, ck_msk (ck_max x.2 y.2)) (a ||| b).toInt ∧ a.toInt ≤ (a ||| b).toInt := by
  obtain ⟨a1, a2⟩ := ck_nn (x := a) (Int.le_trans h0 hx.1)
  obtain ⟨b1, b2⟩ := ck_nn (x := b) (Int.le_trans h1 hy.1)
  have hm : (a ||| b).msb = false := by rw [BitVec.msb_or, a2, b2]; rfl
  have p1 := ck_max_le.mp (Int.le_refl (ck_max x.2 y.2))
  rw [ck_in, BitVec.toInt_eq_toNat_of_msb hm, BitVec.toNat_or, a1]
  refine ⟨⟨ck_max_le.mpr ⟨?_, ?_⟩, ck_msk_eq (Nat.or_lt_two_pow (ck_msk_lt ?_) (ck_msk_lt ?_))⟩, Int.ofNat_le.mpr Nat.left_le_or⟩
  · exact Int.le_trans (by rw [← a1]; exact hx.1) (Int.ofNat_le.mpr Nat.left_le_or)
  · exact Int.le_trans (by rw [← b1]; exact hy.1) (Int.ofNat_le.mpr Nat.right_le_or)
  · rw [← a1]; exact Int.le_trans hx.2 p1.1
  · rw [← b1]; exact Int.le_trans hy.2 p1.2
theorem ck_xor_ok {w : Nat} {a b : BitVec w} {x y : Int × Int} (hx : ck_in x a.toInt) (hy : ck_in y b.toInt) (h0 : 0 ≤ x.1) (h1 : 0 ≤ y.1) : ck_in (0, ck_msk (ck_max x.2 y.2)) (a ^^^ b).toInt := by
  obtain ⟨a1, a2⟩ := ck_nn (x := a) (Int.le_trans h0 hx.1)
  obtain ⟨b1, b2⟩ := ck_nn (x := b) (Int.le_trans h1 hy.1)
  have hm : (a ^^^ b).msb = false := by rw [BitVec.msb_xor, a2, b2]; rfl
  have p1 := ck_max_le.mp (Int.le_refl (ck_max x.2 y.2))
  rw [ck_in, BitVec.toInt_eq_toNat_of_msb hm, BitVec.toNat_xor]
  refine ⟨Int.natCast_nonneg _, ck_msk_eq (Nat.xor_lt_two_pow (ck_msk_lt ?_) (ck_msk_lt ?_))⟩
  · rw [← a1]; exact Int.le_trans hx.2 p1.1
  · rw [← b1]; exact Int.le_trans hy.2 p1.2
theorem ck_two_le {a b : Nat} (h : a ≤ b) : (2 : Int) ^ a ≤ 2 ^ b := by
  have h1 : (2 : Nat) ^ a ≤ 2 ^ b := Nat.pow_le_pow_right (by decide) h
  have e : ∀ k : Nat, (2 : Int) ^ k = ((2 ^ k : Nat) : Int) := fun k => by simp
  rw [e, e]
  exact Int.ofNat_le.mpr h1
theorem ck_two_pos {a : Nat} : (0 : Int) < 2 ^ a := Int.pow_pos (by decide)
theorem ck_shl_ok {w : Nat} (hw : 0 < w) {a : BitVec w} {n : Nat} {x y : Int × Int} (hx : ck_in x a.toInt) (hy : ck_in y n) (h0 : 0 ≤ x.1) (h1 : 0 ≤ y.1) : ck_in (ck_cl w (x.1 * 2 ^ y.1.toNat, x.2 * 2 ^ y.2.toNat)) (a <<< n).toInt := by
  obtain ⟨a1, -⟩ := ck_nn (x := a) (Int.le_trans h0 hx.1)
  have e : ((a.toNat <<< n : Nat) : Int) = a.toInt * 2 ^ n := by rw [Nat.shiftLeft_eq, a1]; simp
  refine ck_cl_ok hw (z := a.toInt * 2 ^ n) (by rw [BitVec.toInt_shiftLeft, e]) ⟨?_, ?_⟩
  · exact Int.mul_le_mul hx.1 (ck_two_le (by have := hy.1; omega)) (Int.le_of_lt ck_two_pos) (Int.le_trans h0 hx.1)
  · exact Int.mul_le_mul hx.2 (ck_two_le (by have := hy.2; omega)) (Int.le_of_lt ck_two_pos) (Int.le_trans (Int.le_trans h0 hx.1) hx.2)
theorem ck_shr_ok {w : Nat} {a : BitVec w} {n : Nat} {x : Int × Int} (hx : ck_in x a.toInt) : ck_in (x.1 / 2 ^ n, x.2 / 2 ^ n) (a.sshiftRight n).toInt := by
  rw [BitVec.toInt_sshiftRight, Int.shiftRight_eq_div_pow]
  have e : ((2 ^ n : Nat) : Int) = 2 ^ n := by simp
  rw [e]
  exact ⟨Int.ediv_le_ediv ck_two_pos hx.1, Int.ediv_le_ediv ck_two_pos hx.2⟩
theorem ck_shr_nn {w : Nat} {a : BitVec w} {n : Nat} {x : Int × Int} (hx : ck_in x a.toInt) (h0 : 0 ≤ x.1) : ck_in (0, x.2) (a.sshiftRight n).toInt := by
  rw [BitVec.toInt_sshiftRight, Int.shiftRight_eq_div_pow]
  have e : ((2 ^ n : Nat) : Int) = 2 ^ n := by simp
  rw [e]
  have h2 : 0 ≤ a.toInt := Int.le_trans h0 hx.1
  exact ⟨Int.ediv_nonneg h2 (Int.le_of_lt ck_two_pos), Int.le_trans (Int.ediv_le_self _ h2) hx.2⟩
end
