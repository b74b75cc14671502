/-! counts of words: none there -/
theorem pcN_z : ∀ {k n : Nat}, n < 2 ^ k → (pcN k n = 0 ↔ n = 0)
  | 0, n, h => by
    have h : n < 1 := h
    exact ⟨fun _ => by omega, fun _ => rfl⟩
  | k + 1, n, h => by
    rw [Nat.pow_succ] at h
    rw [pcN_s]
    have h2 := pcN_z (k := k) (n := n / 2) (by omega)
    constructor
    · intro e
      have := h2.mp (by omega)
      omega
    · intro e
      have := h2.mpr (by omega)
      omega
theorem cb_b {v : Int64} : 0 ≤ (cbA v 64).toInt ∧ (cbA v 64).toInt ≤ 64 := by
  have h1 := cbA_eq (a := v) (Nat.le_refl 64)
  have h2 := pcN_le (k := 64) (n := nL v)
  rw [h1]
  omega
theorem cb_z {v : Int64} : (cbA v 64).toInt = 0 ↔ v.toInt = (Int64.ofNat 0).toInt := by
  rw [cbA_eq (Nat.le_refl 64)]
  have h2 := pcN_z (k := 64) (n := nL v) nL_lt
  constructor
  · intro h
    have e : nL v = 0 := h2.mp (by omega)
    have e2 : v.toBitVec = 0#64 := BitVec.eq_of_toNat_eq e
    have e3 : v = Int64.ofNat 0 := Int64.toBitVec_inj.mp e2
    rw [e3]
  · intro h
    have e3 : v = Int64.ofNat 0 := Int64.toInt_inj.mp h
    rw [e3]
    decide +kernel
theorem szA_z {f : Nat → Int64} : ∀ {k : Nat}, k ≤ 4 → (0 ≤ (szA (fun v => cbA v 64) f k).toInt ∧ (szA (fun v => cbA v 64) f k).toInt ≤ 64 * (k : Int)) ∧ ((szA (fun v => cbA v 64) f k).toInt = 0 ↔ ∀ x, x < k → (f x).toInt = (Int64.ofNat 0).toInt)
  | 0, _ => ⟨⟨Int.le_refl 0, Int.le_refl 0⟩, ⟨fun _ x hx => absurd hx (Nat.not_lt_zero x), fun _ => rfl⟩⟩
  | k + 1, h => by
    obtain ⟨⟨a1, a2⟩, a3⟩ := szA_z (f := f) (k := k) (by omega)
    obtain ⟨b1, b2⟩ := cb_b (v := f k)
    have b3 := cb_z (v := f k)
    have e : (szA (fun v => cbA v 64) f (k + 1)).toInt = (szA (fun v => cbA v 64) f k).toInt + (cbA (f k) 64).toInt := i_add (b := cbA (f k) 64) (by omega) (by omega)
    rw [e]
    refine ⟨⟨by omega, by omega⟩, fun hz x hx => ?_, fun hz => ?_⟩
    · have z1 := a3.mp (by omega)
      by_cases ex : x = k
      · rw [ex]
        exact b3.mp (by omega)
      · exact z1 x (by omega)
    · have z1 := a3.mpr (fun x hx => hz x (by omega))
      have z2 := b3.mpr (hz k (by omega))
      omega
