/-! a loop that stops at the first that isn't well -/
/-- a loop over the worlds that stops at the first that isn't well -/
def alN (p : Nat → Bool) : Nat → Bool
  | 0 => true
  | w + 1 => alN p w && p w
theorem alN_iff {p : Nat → Bool} : ∀ {n : Nat}, alN p n = true ↔ ∀ w, w < n → p w = true
  | 0 => ⟨fun _ w hw => absurd hw (Nat.not_lt_zero w), fun _ => rfl⟩
  | n + 1 => by
    show (alN p n && p n) = true ↔ _
    rw [Bool.and_eq_true, alN_iff]
    constructor
    · rintro ⟨a, b⟩ w hw
      by_cases e : w = n
      · rw [e]
        exact b
      · exact a w (by omega)
    · intro a
      exact ⟨fun w hw => a w (by omega), a n (Nat.lt_succ_self n)⟩
theorem alN_no {p : Nat → Bool} {n w : Nat} (hw : w < n) (h : p w = false) : alN p n = false := Bool.eq_false_iff.mpr (fun z => by
  have := alN_iff.mp z w hw
  rw [h] at this
  cases this)
