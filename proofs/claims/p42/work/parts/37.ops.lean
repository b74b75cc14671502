noncomputable section
def ck_f32 (op : Nat) (a b : Int32) : Int32 := match op with
  | 0 => a + b
  | 1 => a - b
  | 2 => a * b
  | 3 => a &&& b
  | 4 => a ||| b
  | 5 => a ^^^ b
  | 6 => a <<< (b &&& 31)
  | 7 => a >>> (b &&& 31)
  | 9 => a / b
  | 10 => a % b
  | _ => a
def ck_f64 (op : Nat) (a b : Int64) : Int64 := match op with
  | 0 => a + b
  | 1 => a - b
  | 2 => a * b
  | 3 => a &&& b
  | 4 => a ||| b
  | 5 => a ^^^ b
  | _ => a
theorem ck_sh32 : ∀ k, k < 32 → ((Int32.ofNat k &&& 31 : Int32).toBitVec.smod 32).toNat = k := by decide +kernel
theorem ck_sh64 : ∀ k, k < 64 → (((Int32.ofNat k).toInt64 &&& 63 : Int64).toBitVec.smod 64).toNat = k := by decide +kernel
theorem ck_i32 {b : Int32} (h0 : 0 ≤ b.toInt) : b = Int32.ofNat b.toInt.toNat := by
  apply Int32.toInt_inj.mp
  have h1 := Int32.toInt_lt b
  rw [Int32.toInt_ofNat_of_lt (by omega)]
  omega
theorem ck_shl32 {a b : Int32} {k : Nat} (hb : b.toInt = k) (hk : k < 32) : (a <<< (b &&& 31)).toInt = (a.toBitVec <<< k).toInt := by
  have e : b = Int32.ofNat k := by rw [ck_i32 (b := b) (by omega), hb]; rfl
  show (a <<< (b &&& 31)).toBitVec.toInt = _
  rw [Int32.toBitVec_shiftLeft, e, BitVec.shiftLeft_eq', ck_sh32 k hk]
theorem ck_shr32 {a b : Int32} {k : Nat} (hb : b.toInt = k) (hk : k < 32) : (a >>> (b &&& 31)).toInt = (a.toBitVec.sshiftRight k).toInt := by
  have e : b = Int32.ofNat k := by rw [ck_i32 (b := b) (by omega), hb]; rfl
  show (a >>> (b &&& 31)).toBitVec.toInt = _
  rw [Int32.toBitVec_shiftRight, e]
  show (a.toBitVec.sshiftRight _).toInt = _
  rw [ck_sh32 k hk]
theorem ck_shrx {a b : Int32} : ∃ k : Nat, (a >>> (b &&& 31)).toInt = (a.toBitVec.sshiftRight k).toInt := by
  refine ⟨((b &&& 31 : Int32).toBitVec.smod 32).toNat, ?_⟩
  show (a >>> (b &&& 31)).toBitVec.toInt = _
  rw [Int32.toBitVec_shiftRight]
  rfl
theorem ck_shl64 {a : Int64} {b : Int32} {k : Nat} (hb : b.toInt = k) (hk : k < 64) : (a <<< (b.toInt64 &&& 63)).toInt = (a.toBitVec <<< k).toInt := by
  have e : b = Int32.ofNat k := by rw [ck_i32 (b := b) (by omega), hb]; rfl
  show (a <<< (b.toInt64 &&& 63)).toBitVec.toInt = _
  rw [Int64.toBitVec_shiftLeft, e, BitVec.shiftLeft_eq', ck_sh64 k hk]
theorem ck_r32 (a : Int32) : ck_in (ck_top 32) a.toInt := ck_rng (w := 32) (by decide) a.toBitVec
theorem ck_r64 (a : Int64) : ck_in (ck_top 64) a.toInt := ck_rng (w := 64) (by decide) a.toBitVec
theorem ck_bin32 (op : Nat) {a b : Int32} {x y : Int × Int} (hx : ck_in x a.toInt) (hy : ck_in y b.toInt) : ck_in (ck_bin 32 op x y) (ck_f32 op a b).toInt := by
  unfold ck_bin
  split
  · exact ck_cl_ok (w := 32) (by decide) (r := (a + b).toBitVec) (z := a.toInt + b.toInt) (Int32.toInt_add a b) ⟨Int.add_le_add hx.1 hy.1, Int.add_le_add hx.2 hy.2⟩
  · exact ck_cl_ok (w := 32) (by decide) (r := (a - b).toBitVec) (z := a.toInt - b.toInt) (Int32.toInt_sub a b) ⟨Int.sub_le_sub hx.1 hy.2, Int.sub_le_sub hx.2 hy.1⟩
  · exact ck_cl_ok (w := 32) (by decide) (r := (a * b).toBitVec) (z := a.toInt * b.toInt) (Int32.toInt_mul a b) (ck_mul2 hx hy)
  · split
    · rename_i h1
      have p := ck_and_r (a := a.toBitVec) (b := b.toBitVec) (Int.le_trans h1 hy.1)
      split
      · rename_i h2
        have p2 := ck_and_l (a := a.toBitVec) (b := b.toBitVec) (Int.le_trans h2 hx.1)
        exact ⟨p.1, ck_le_min.mpr ⟨Int.le_trans p2.2 hx.2, Int.le_trans p.2 hy.2⟩⟩
      · exact ⟨p.1, Int.le_trans p.2 hy.2⟩
    · split
      · rename_i h2
        have p2 := ck_and_l (a := a.toBitVec) (b := b.toBitVec) (Int.le_trans h2 hx.1)
        exact ⟨p2.1, Int.le_trans p2.2 hx.2⟩
      · exact ck_r32 _
  · split
    · rename_i h
      have p := (ck_or_ok (a := a.toBitVec) (b := b.toBitVec) hx hy h.1 h.2).1
      have hl := ck_rng (w := 32) (by decide) (a.toBitVec ||| b.toBitVec)
      exact ck_cl_ok (w := 32) (by decide) (r := a.toBitVec ||| b.toBitVec) (z := (a.toBitVec ||| b.toBitVec).toInt) (ck_bm (by decide) hl.1 hl.2).symm p
    · exact ck_r32 _
  · split
    · rename_i h
      have p := ck_xor_ok (a := a.toBitVec) (b := b.toBitVec) hx hy h.1 h.2
      have hl := ck_rng (w := 32) (by decide) (a.toBitVec ^^^ b.toBitVec)
      exact ck_cl_ok (w := 32) (by decide) (r := a.toBitVec ^^^ b.toBitVec) (z := (a.toBitVec ^^^ b.toBitVec).toInt) (ck_bm (by decide) hl.1 hl.2).symm p
    · exact ck_r32 _
  · split
    · rename_i h
      have h3 : y.2 < 32 := h.2.2
      have e : b.toInt = ((b.toInt.toNat : Nat) : Int) := by have := hy.1; omega
      show ck_in _ (a <<< (b &&& 31)).toInt
      rw [ck_shl32 e (by have := hy.2; omega)]
      exact ck_shl_ok (by decide) hx (by rw [← e]; exact hy) h.1 h.2.1
    · exact ck_r32 _
  · split
    · rename_i h
      have h3 : y.2 < 32 := h.2.2
      have e : b.toInt = ((y.1.toNat : Nat) : Int) := by have := hy.1; have := hy.2; omega
      show ck_in _ (a >>> (b &&& 31)).toInt
      rw [ck_shr32 e (by omega)]
      exact ck_shr_ok hx
    · split
      · rename_i h
        obtain ⟨k, e⟩ := ck_shrx (a := a) (b := b)
        show ck_in _ (a >>> (b &&& 31)).toInt
        rw [e]
        exact ck_shr_nn hx h
      · exact ck_r32 _
  · split
    · rename_i h
      have e : b.toInt = y.1 := by have := hy.1; have := hy.2; omega
      have h0 : 0 ≤ a.toInt := Int.le_trans h.2.2 hx.1
      have hne : b ≠ -1 := fun q => by rw [q] at e; have : (-1 : Int32).toInt = -1 := by decide
                                       omega
      show ck_in _ (a / b).toInt
      rw [Int32.toInt_div_of_ne_right a b hne, e, Int.tdiv_eq_ediv_of_nonneg h0]
      exact ⟨Int.ediv_le_ediv h.2.1 hx.1, Int.ediv_le_ediv h.2.1 hx.2⟩
    · exact ck_r32 _
  · split
    · rename_i h
      have e : b.toInt = y.1 := by have := hy.1; have := hy.2; omega
      show ck_in _ (a % b).toInt
      rw [Int32.toInt_mod, e]
      split
      · rename_i h0
        have h0 : 0 ≤ a.toInt := Int.le_trans h0 hx.1
        rw [Int.tmod_eq_emod_of_nonneg h0]
        have p1 := Int.emod_nonneg a.toInt (b := y.1) (by omega)
        have p2 := Int.emod_lt_of_pos a.toInt h.2
        exact ⟨p1, by show _ ≤ y.1 - 1; omega⟩
      · have p1 := Int.lt_tmod_of_pos a.toInt h.2
        have p2 := Int.tmod_lt_of_pos a.toInt h.2
        exact ⟨by show 1 - y.1 ≤ _; omega, by show _ ≤ y.1 - 1; omega⟩
    · exact ck_r32 _
  · exact ck_r32 _
theorem ck_bin64 (op : Nat) (hop : op < 6) {a b : Int64} {x y : Int × Int} (hx : ck_in x a.toInt) (hy : ck_in y b.toInt) : ck_in (ck_bin 64 op x y) (ck_f64 op a b).toInt := by
  unfold ck_bin
  split
  · exact ck_cl_ok (w := 64) (by decide) (r := (a + b).toBitVec) (z := a.toInt + b.toInt) (Int64.toInt_add a b) ⟨Int.add_le_add hx.1 hy.1, Int.add_le_add hx.2 hy.2⟩
  · exact ck_cl_ok (w := 64) (by decide) (r := (a - b).toBitVec) (z := a.toInt - b.toInt) (Int64.toInt_sub a b) ⟨Int.sub_le_sub hx.1 hy.2, Int.sub_le_sub hx.2 hy.1⟩
  · exact ck_cl_ok (w := 64) (by decide) (r := (a * b).toBitVec) (z := a.toInt * b.toInt) (Int64.toInt_mul a b) (ck_mul2 hx hy)
  · split
    · rename_i h1
      have p := ck_and_r (a := a.toBitVec) (b := b.toBitVec) (Int.le_trans h1 hy.1)
      split
      · rename_i h2
        have p2 := ck_and_l (a := a.toBitVec) (b := b.toBitVec) (Int.le_trans h2 hx.1)
        exact ⟨p.1, ck_le_min.mpr ⟨Int.le_trans p2.2 hx.2, Int.le_trans p.2 hy.2⟩⟩
      · exact ⟨p.1, Int.le_trans p.2 hy.2⟩
    · split
      · rename_i h2
        have p2 := ck_and_l (a := a.toBitVec) (b := b.toBitVec) (Int.le_trans h2 hx.1)
        exact ⟨p2.1, Int.le_trans p2.2 hx.2⟩
      · exact ck_r64 _
  · split
    · rename_i h
      have p := (ck_or_ok (a := a.toBitVec) (b := b.toBitVec) hx hy h.1 h.2).1
      have hl := ck_rng (w := 64) (by decide) (a.toBitVec ||| b.toBitVec)
      exact ck_cl_ok (w := 64) (by decide) (r := a.toBitVec ||| b.toBitVec) (z := (a.toBitVec ||| b.toBitVec).toInt) (ck_bm (by decide) hl.1 hl.2).symm p
    · exact ck_r64 _
  · split
    · rename_i h
      have p := ck_xor_ok (a := a.toBitVec) (b := b.toBitVec) hx hy h.1 h.2
      have hl := ck_rng (w := 64) (by decide) (a.toBitVec ^^^ b.toBitVec)
      exact ck_cl_ok (w := 64) (by decide) (r := a.toBitVec ^^^ b.toBitVec) (z := (a.toBitVec ^^^ b.toBitVec).toInt) (ck_bm (by decide) hl.1 hl.2).symm p
    · exact ck_r64 _
  all_goals first | omega | exact ck_r64 _
theorem ck_lshl {a : Int64} {b : Int32} {x y : Int × Int} (hx : ck_in x a.toInt) (hy : ck_in y b.toInt) : ck_in (ck_bin 64 6 x y) (a <<< (b.toInt64 &&& 63)).toInt := by
  show ck_in (if 0 ≤ x.1 ∧ 0 ≤ y.1 ∧ y.2 < (64 : Nat) then ck_cl 64 (x.1 * 2 ^ y.1.toNat, x.2 * 2 ^ y.2.toNat) else ck_top 64) _
  split
  · rename_i h
    have h3 : y.2 < 64 := h.2.2
    have e : b.toInt = ((b.toInt.toNat : Nat) : Int) := by have := hy.1; omega
    rw [ck_shl64 e (by have := hy.2; omega)]
    exact ck_shl_ok (by decide) hx (by rw [← e]; exact hy) h.1 h.2.1
  · exact ck_r64 _
/-- what ck_rel says is so: A, B, Z the three numbers -/
theorem ck_rel_ok {op a b N : Nat} {x y r : Int × Int} {A B Z : Int} (hx : ck_in x A) (hy : ck_in y B)
    (h0 : op = 0 → (r.1 = x.1 + y.1 ∧ r.2 = x.2 + y.2) → Z = A + B) (h1 : op = 1 → (r.1 = x.1 - y.2 ∧ r.2 = x.2 - y.1) → Z = A - B) (h3 : op = 3 → 0 ≤ B → Z ≤ B) (h4 : op = 4 → 0 ≤ A → 0 ≤ B → A ≤ Z) (h6 : op = 6 → (1 ≤ x.1 ∧ y.1 = y.2 ∧ 1 ≤ y.1 ∧ r.1 = x.1 * 2 ^ y.1.toNat ∧ r.2 = x.2 * 2 ^ y.2.toNat) → A + 1 ≤ Z)
    {v : Nat → Int} (va : v a = A) (vb : v b = B) (vN : v N = Z) : ∀ q ∈ ck_rel op a b N x y r, (q.1 = a ∨ q.1 = b ∨ q.1 = N) ∧ (q.2.1 = a ∨ q.2.1 = b ∨ q.2.1 = N) ∧ v q.1 ≤ v q.2.1 + q.2.2 := by
  intro q hq
  unfold ck_rel at hq
  split at hq
  · split at hq
    · rename_i h
      have hz := h0 rfl h
      split at hq
      · simp only [List.mem_cons, List.not_mem_nil, or_false] at hq
        rcases hq with rfl | rfl
        · exact ⟨Or.inr (Or.inr rfl), Or.inl rfl, by rw [vN, va, hz]; have := hy.1; have := hy.2; dsimp only; omega⟩
        · exact ⟨Or.inl rfl, Or.inr (Or.inr rfl), by rw [vN, va, hz]; have := hy.1; have := hy.2; dsimp only; omega⟩
      · split at hq
        · simp only [List.mem_cons, List.not_mem_nil, or_false] at hq
          rcases hq with rfl | rfl
          · exact ⟨Or.inr (Or.inr rfl), Or.inr (Or.inl rfl), by rw [vN, vb, hz]; have := hx.1; have := hx.2; dsimp only; omega⟩
          · exact ⟨Or.inr (Or.inl rfl), Or.inr (Or.inr rfl), by rw [vN, vb, hz]; have := hx.1; have := hx.2; dsimp only; omega⟩
        · cases hq
    · cases hq
  · split at hq
    · rename_i h
      have hz := h1 rfl ⟨h.1, h.2.1⟩
      simp only [List.mem_cons, List.not_mem_nil, or_false] at hq
      rcases hq with rfl | rfl
      · exact ⟨Or.inr (Or.inr rfl), Or.inl rfl, by rw [vN, va, hz]; have := hy.1; have := hy.2; dsimp only; omega⟩
      · exact ⟨Or.inl rfl, Or.inr (Or.inr rfl), by rw [vN, va, hz]; have := hy.1; have := hy.2; dsimp only; omega⟩
    · cases hq
  · split at hq
    · rename_i h
      split at hq
      · cases hq
      · simp only [List.mem_cons, List.not_mem_nil, or_false] at hq
        subst hq
        exact ⟨Or.inr (Or.inr rfl), Or.inr (Or.inl rfl), by rw [vN, vb]; have := h3 rfl (Int.le_trans h hy.1); dsimp only; omega⟩
    · cases hq
  · split at hq
    · rename_i h
      simp only [List.mem_cons, List.not_mem_nil, or_false] at hq
      subst hq
      exact ⟨Or.inl rfl, Or.inr (Or.inr rfl), by rw [vN, va]; have := h4 rfl (Int.le_trans h.1 hx.1) (Int.le_trans h.2 hy.1); dsimp only; omega⟩
    · cases hq
  · split at hq
    · rename_i h
      simp only [List.mem_cons, List.not_mem_nil, or_false] at hq
      subst hq
      exact ⟨Or.inl rfl, Or.inr (Or.inr rfl), by rw [vN, va]; have := h6 rfl h; dsimp only; omega⟩
    · cases hq
  · cases hq
/-- a shift that stays is a product -/
theorem ck_shl_eq {a b : Int32} {x y : Int × Int} (hx : ck_in x a.toInt) (hy : ck_in y b.toInt) (h : 1 ≤ x.1 ∧ y.1 = y.2 ∧ 1 ≤ y.1 ∧ (ck_bin 32 6 x y).1 = x.1 * 2 ^ y.1.toNat ∧ (ck_bin 32 6 x y).2 = x.2 * 2 ^ y.2.toNat) : a.toInt + 1 ≤ (ck_f32 6 a b).toInt := by
  obtain ⟨h1, h2, h3, h4, h5⟩ := h
  have hp : (2 : Int) ≤ 2 ^ y.1.toNat := by
    have := ck_two_le (a := 1) (b := y.1.toNat) (by omega)
    omega
  have ha : 1 ≤ a.toInt := Int.le_trans h1 hx.1
  have hmul : a.toInt + 1 ≤ a.toInt * 2 ^ y.1.toNat := by
    have := Int.mul_le_mul_of_nonneg_left hp (show 0 ≤ a.toInt by omega)
    omega
  have hb32 : ck_B 32 = 2147483648 := by decide
  by_cases c : 0 ≤ x.1 ∧ 0 ≤ y.1 ∧ y.2 < (32 : Nat)
  · have e0 : ck_bin 32 6 x y = ck_cl 32 (x.1 * 2 ^ y.1.toNat, x.2 * 2 ^ y.2.toNat) := if_pos c
    rw [e0] at h4 h5
    have hin := ck_cl_in ⟨h4, h5⟩
    have c3 : y.2 < 32 := c.2.2
    have e : b.toInt = ((y.1.toNat : Nat) : Int) := by have := hy.1; have := hy.2; omega
    show _ ≤ (a <<< (b &&& 31)).toInt
    rw [ck_shl32 e (by omega)]
    obtain ⟨a1, -⟩ := ck_nn (x := a.toBitVec) (show 0 ≤ a.toBitVec.toInt by have : a.toBitVec.toInt = a.toInt := rfl; omega)
    have e2 : ((a.toBitVec.toNat <<< y.1.toNat : Nat) : Int) = a.toInt * 2 ^ y.1.toNat := by
      rw [Nat.shiftLeft_eq]
      have : a.toInt = (a.toBitVec.toNat : Int) := a1
      rw [this]
      simp
    have e3 := ck_cl_eq (w := 32) (by decide) (r := a.toBitVec <<< y.1.toNat) (z := a.toInt * 2 ^ y.1.toNat) (x := (x.1 * 2 ^ y.1.toNat, x.2 * 2 ^ y.2.toNat)) (by rw [BitVec.toInt_shiftLeft, e2])
      ⟨Int.mul_le_mul_of_nonneg_right hx.1 (Int.le_of_lt ck_two_pos), by rw [← h2]; exact Int.mul_le_mul_of_nonneg_right hx.2 (Int.le_of_lt ck_two_pos)⟩ hin
    rw [e3]
    exact hmul
  · have e0 : ck_bin 32 6 x y = ck_top 32 := if_neg c
    rw [e0] at h4
    simp only [ck_top, hb32] at h4
    have : 0 ≤ x.1 * 2 ^ y.1.toNat := Int.mul_nonneg (by omega) (Int.le_of_lt ck_two_pos)
    omega
end
