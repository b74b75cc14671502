/-! a claim more: what is where afterwards, a lemma a kind of cell -/
theorem zF_be_ {A : zW} {q p n j k : Nat} : zF (zbe A q p n) j k = zF A j k := rfl
theorem zF_uI_ {A : zW} {q i j k : Nat} {v : Int32} : zF (zuI A q i v) j k = zF A j k := rfl
theorem zI_uF' {A : zW} {q i j k : Nat} {v : Value} : zI (zuF A q i v) j k = zI A j k := rfl
theorem zI_be_ {A : zW} {q p n j k : Nat} : zI (zbe A q p n) j k = zI A j k := rfl
theorem zJ_uF' {A : zW} {q i j k : Nat} {v : Value} : zJ (zuF A q i v) j k = zJ A j k := rfl
theorem zJ_uI' {A : zW} {q i j k : Nat} {v : Int32} : zJ (zuI A q i v) j k = zJ A j k := rfl
theorem zJ_be {A : zW} {q p n j x : Nat} : zJ (zbe A q p n) j x = if j = q + 1 then (if x < n then zJ A (p + 1) x else zJ A (q + 1) x) else zJ A j x := by
  unfold zbe
  by_cases h : j = q + 1
  · subst h
    rw [zsJ_at, if_pos rfl]
  · rw [zsJ_ne h, if_neg h]
theorem kCl_F {A : zW} {s u m : Int32} {b p i : Nat} (a : zF A 282 0 = .int m) : zF (zkCl A s u b) p i = if p = 282 ∧ i = 0 then .int (m + Int32.ofInt 1) else zF A p i := by
  unfold zkCl
  rw [zuF_x, zF_be_, zF_uI_, zF_uI_, a]
  rfl
theorem kCl_I {A : zW} {s u m : Int32} {b p i : Nat} (a : zF A 282 0 = .int m) : zI (zkCl A s u b) p i = if p = 284 ∧ i = m.toInt.toNat then u else if p = 283 ∧ i = m.toInt.toNat then s else zI A p i := by
  unfold zkCl
  rw [zI_uF', zI_be_, zuI_x, zuI_x, a]
  rfl
theorem kCl_J {A : zW} {s u m : Int32} {b p x : Nat} (a : zF A 282 0 = .int m) : zJ (zkCl A s u b) p x = if p = 295 + 2 * m.toInt.toNat + 1 then (if x < 4 then zJ A (b + 1) x else zJ A (295 + 2 * m.toInt.toNat + 1) x) else zJ A p x := by
  unfold zkCl
  rw [zJ_uF', zJ_be]
  simp only [zJ_uI']
  rw [a]
  rfl
theorem cm_F {A : zW} {s u m : Int32} {p i : Nat} (a : zF A 343 40 = .int m) : zF (zcm A s u) p i = if p = 343 ∧ i = 43 then .int (Int32.ofInt 0) else if p = 343 ∧ i = 40 then .int (m + Int32.ofInt 1) else zF A p i := by
  unfold zcm
  rw [zuF_x, zuF_x, zF_uI_, zF_uI_, a]
  rfl
theorem cm_I {A : zW} {s u m : Int32} {p i : Nat} (a : zF A 343 40 = .int m) : zI (zcm A s u) p i = if p = 367 ∧ i = m.toInt.toNat then u else if p = 366 ∧ i = m.toInt.toNat then s else zI A p i := by
  unfold zcm
  rw [zI_uF', zI_uF', zuI_x, zuI_x, a]
  rfl
theorem cm_J {A : zW} {s u : Int32} {p x : Nat} : zJ (zcm A s u) p x = zJ A p x := rfl
section
variable {A : zW} {s u m : Int32} {b p i x : Nat}
theorem cc_40 (a : zF A 282 0 = .int m) (a3 : zF A 343 40 = .int m) : zF (zkCl A s u b) 343 40 = .int m := by
  rw [kCl_F a, if_neg (fun z => absurd z.1 (by decide))]
  exact a3
theorem cc_F (a : zF A 282 0 = .int m) (a3 : zF A 343 40 = .int m) : zF (zcm (zkCl A s u b) s u) p i = if p = 343 ∧ i = 43 then .int (Int32.ofInt 0) else if p = 343 ∧ i = 40 then .int (m + Int32.ofInt 1) else if p = 282 ∧ i = 0 then .int (m + Int32.ofInt 1) else zF A p i := by
  rw [cm_F (cc_40 a a3), kCl_F a]
theorem cc_I (a : zF A 282 0 = .int m) (a3 : zF A 343 40 = .int m) : zI (zcm (zkCl A s u b) s u) p i = if p = 367 ∧ i = m.toInt.toNat then u else if p = 366 ∧ i = m.toInt.toNat then s else if p = 284 ∧ i = m.toInt.toNat then u else if p = 283 ∧ i = m.toInt.toNat then s else zI A p i := by
  rw [cm_I (cc_40 a a3), kCl_I a]
theorem cc_J (a : zF A 282 0 = .int m) : zJ (zcm (zkCl A s u b) s u) p x = if p = 295 + 2 * m.toInt.toNat + 1 then (if x < 4 then zJ A (b + 1) x else zJ A (295 + 2 * m.toInt.toNat + 1) x) else zJ A p x := by
  rw [cm_J, kCl_J a]
theorem cc_i6 (a : zF A 282 0 = .int m) (a3 : zF A 343 40 = .int m) (h1 : p ≠ 367) (h2 : p ≠ 366) (h3 : p ≠ 284) (h4 : p ≠ 283) : zI (zcm (zkCl A s u b) s u) p i = zI A p i := by
  rw [cc_I a a3, if_neg (fun z => h1 z.1), if_neg (fun z => h2 z.1), if_neg (fun z => h3 z.1), if_neg (fun z => h4 z.1)]
theorem cc_ik (a : zF A 282 0 = .int m) (a3 : zF A 343 40 = .int m) (h1 : i ≠ m.toInt.toNat) : zI (zcm (zkCl A s u b) s u) p i = zI A p i := by
  rw [cc_I a a3, if_neg (fun z => h1 z.2), if_neg (fun z => h1 z.2), if_neg (fun z => h1 z.2), if_neg (fun z => h1 z.2)]
theorem cc_j (a : zF A 282 0 = .int m) (h : p ≠ 295 + 2 * m.toInt.toNat + 1) : zJ (zcm (zkCl A s u b) s u) p x = zJ A p x := by
  rw [cc_J a, if_neg h]
theorem cc_0 (a : zF A 282 0 = .int m) (a3 : zF A 343 40 = .int m) : zF (zcm (zkCl A s u b) s u) 282 0 = .int (m + Int32.ofInt 1) := by
  rw [cc_F a a3, if_neg (fun z => absurd z.1 (by decide)), if_neg (fun z => absurd z.1 (by decide)), if_pos ⟨rfl, rfl⟩]
theorem cc_3 (a : zF A 282 0 = .int m) (a3 : zF A 343 40 = .int m) : zF (zcm (zkCl A s u b) s u) 343 40 = .int (m + Int32.ofInt 1) := by
  rw [cc_F a a3, if_neg (fun z => absurd z.2 (by decide)), if_pos ⟨rfl, rfl⟩]
theorem cc_43 (a : zF A 282 0 = .int m) (a3 : zF A 343 40 = .int m) : zF (zcm (zkCl A s u b) s u) 343 43 = .int (Int32.ofInt 0) := by
  rw [cc_F a a3, if_pos ⟨rfl, rfl⟩]
theorem cc_f (a : zF A 282 0 = .int m) (a3 : zF A 343 40 = .int m) (h1 : ¬ (p = 343 ∧ i = 43)) (h2 : ¬ (p = 343 ∧ i = 40)) (h3 : ¬ (p = 282 ∧ i = 0)) : zF (zcm (zkCl A s u b) s u) p i = zF A p i := by
  rw [cc_F a a3, if_neg h1, if_neg h2, if_neg h3]
theorem cc_s (a : zF A 282 0 = .int m) (a3 : zF A 343 40 = .int m) : zI (zcm (zkCl A s u b) s u) 366 m.toInt.toNat = s ∧ zI (zcm (zkCl A s u b) s u) 283 m.toInt.toNat = s := by
  constructor
  · rw [cc_I a a3, if_neg (fun z => absurd z.1 (by decide)), if_pos ⟨rfl, rfl⟩]
  · rw [cc_I a a3, if_neg (fun z => absurd z.1 (by decide)), if_neg (fun z => absurd z.1 (by decide)), if_neg (fun z => absurd z.1 (by decide)), if_pos ⟨rfl, rfl⟩]
theorem cc_u (a : zF A 282 0 = .int m) (a3 : zF A 343 40 = .int m) : zI (zcm (zkCl A s u b) s u) 367 m.toInt.toNat = u ∧ zI (zcm (zkCl A s u b) s u) 284 m.toInt.toNat = u := by
  constructor
  · rw [cc_I a a3, if_pos ⟨rfl, rfl⟩]
  · rw [cc_I a a3, if_neg (fun z => absurd z.1 (by decide)), if_neg (fun z => absurd z.1 (by decide)), if_pos ⟨rfl, rfl⟩]
theorem cc_w (a : zF A 282 0 = .int m) (hx : x < 4) : zJ (zcm (zkCl A s u b) s u) (295 + 2 * m.toInt.toNat + 1) x = zJ A (b + 1) x := by
  rw [cc_J a, if_pos rfl, if_pos hx]
end
theorem m_p1 {m : Int32} (h0 : 0 ≤ m.toInt) (h1 : m.toInt < 12) : (m + Int32.ofInt 1).toInt = m.toInt + 1 := by
  rw [show (Int32.ofInt 1) = (1 : Int32) from by decide]
  exact i_inc h0 (by omega)
