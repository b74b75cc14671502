/-! sets of sets: 64 words, a bit for each set of at most 12 elements -/
def bF (f : Nat → Int64) (S : Nat) : Bool := (f (S / 64)).toBitVec.getLsbD (S % 64)
theorem i32_63q : ∀ q, q < 64 → ∀ r, r < 64 → Int32.ofNat (64 * q + r) &&& Int32.ofInt 63 = Int32.ofNat r := by decide +kernel
theorem i32_63 : ∀ n, n < 4096 → Int32.ofNat n &&& Int32.ofInt 63 = Int32.ofNat (n % 64) := fun n hn => by
  have h := i32_63q (n / 64) (by omega) (n % 64) (by omega)
  rw [Nat.div_add_mod] at h
  exact h
theorem i32_s6q : ∀ q, q < 64 → ∀ r, r < 64 → Int32.ofNat (64 * q + r) >>> (Int32.ofInt 6 &&& 31) = Int32.ofNat q := by decide +kernel
theorem i32_s6 : ∀ n, n < 4096 → Int32.ofNat n >>> (Int32.ofInt 6 &&& 31) = Int32.ofNat (n / 64) := fun n hn => by
  have h := i32_s6q (n / 64) (by omega) (n % 64) (by omega)
  rw [Nat.div_add_mod] at h
  exact h
theorem one_sh : ∀ j, j < 64 → ∀ i, i < 64 → (Int64.ofNat 1 <<< ((Int32.ofNat j).toInt64 &&& 63)).toBitVec.getLsbD i = decide (i = j) := by decide +kernel
/-- a set comes -/
theorem bF_add {f g : Nat → Int64} {S : Nat} (h1 : g (S / 64) = f (S / 64) ||| (Int64.ofNat 1 <<< ((Int32.ofNat (S % 64)).toInt64 &&& 63))) (h2 : ∀ r, r ≠ S / 64 → g r = f r) (T : Nat) : bF g T = (decide (T = S) || bF f T) := by
  unfold bF
  by_cases h : T / 64 = S / 64
  · rw [h, h1, Int64.toBitVec_or, BitVec.getLsbD_or, one_sh _ (by omega) _ (by omega)]
    by_cases e : T % 64 = S % 64
    · rw [decide_eq_true e, decide_eq_true (show T = S by omega), Bool.or_true, Bool.true_or]
    · rw [decide_eq_false e, decide_eq_false (show ¬ T = S by omega), Bool.or_false, Bool.false_or]
  · rw [h2 _ h, decide_eq_false (show ¬ T = S by omega), Bool.false_or]
theorem rz_c : ∀ k, k < 6 → ∀ i, i < 64 → (fw_v k ^^^ Int64.ofInt (-1)).toBitVec.getLsbD i = !(i.testBit k) := by decide +kernel
theorem rz_s : ∀ k, k < 6 → ((((Int32.ofInt 1 <<< (Int32.ofNat k &&& 31)).toInt64) &&& 63).toBitVec.smod 64#64).toNat = 2 ^ k := by decide +kernel
theorem rz_t : ∀ k, k < 6 → ∀ j, j < 64 → j.testBit k = (!decide (j < 2 ^ k) && !((j - 2 ^ k).testBit k)) := by decide +kernel
/-- within a word: those that come to a set by its element k, below 6 -/
theorem rz_lo {x : Int64} {k j : Nat} (hk : k < 6) (hj : j < 64) : ((x &&& (fw_v k ^^^ Int64.ofInt (-1))) <<< (((Int32.ofInt 1 <<< (Int32.ofNat k &&& 31)).toInt64) &&& 63)).toBitVec.getLsbD j = (j.testBit k && x.toBitVec.getLsbD (j - 2 ^ k)) := by
  rw [Int64.toBitVec_shiftLeft]
  show ((x &&& (fw_v k ^^^ Int64.ofInt (-1))).toBitVec <<< ((((Int32.ofInt 1 <<< (Int32.ofNat k &&& 31)).toInt64) &&& 63).toBitVec.smod 64#64).toNat).getLsbD j = _
  rw [rz_s k hk, BitVec.getLsbD_shiftLeft, Int64.toBitVec_and, BitVec.getLsbD_and, rz_c k hk (j - 2 ^ k) (Nat.lt_of_le_of_lt (Nat.sub_le _ _) hj), rz_t k hk j hj, decide_eq_true hj, Bool.true_and]
  cases decide (j < 2 ^ k) <;> cases (j - 2 ^ k).testBit k <;> cases x.toBitVec.getLsbD (j - 2 ^ k) <;> rfl
/-- what comes to a row of sets by element k -/
def rz (f : Nat → Int64) (k r : Nat) : Int64 := if k < 6 then (f r &&& (fw_v k ^^^ Int64.ofInt (-1))) <<< (((Int32.ofInt 1 <<< (Int32.ofNat k &&& 31)).toInt64) &&& 63) else if r.testBit (k - 6) then f (r - 2 ^ (k - 6)) else 0
theorem p2_6 {k : Nat} (h : 6 ≤ k) : 2 ^ k = 64 * 2 ^ (k - 6) := by
  have e : k = 6 + (k - 6) := by omega
  have h1 : 2 ^ (6 + (k - 6)) = 64 * 2 ^ (k - 6) := by rw [Nat.pow_add]
  rw [← e] at h1
  exact h1
theorem rz_hi (k : Nat) (h6 : 6 ≤ k) (_ : k < 12) (S : Nat) (_ : S < 4096) : S.testBit k = (S / 64).testBit (k - 6) := by
  have h := Nat.testBit_div_two_pow (n := 6) S (k - 6)
  rw [show k - 6 + 6 = k by omega] at h
  exact h.symm
theorem rz_h2 (k : Nat) (h6 : 6 ≤ k) (_ : k < 12) (S : Nat) (_ : S < 4096) (hb : S.testBit k = true) : (S - 2 ^ k) / 64 = S / 64 - 2 ^ (k - 6) ∧ (S - 2 ^ k) % 64 = S % 64 := by
  have hge := Nat.ge_two_pow_of_testBit hb
  rw [p2_6 h6] at hge ⊢
  generalize 2 ^ (k - 6) = p at hge ⊢
  omega
theorem rz_l1 (k : Nat) (h6 : k < 6) (S : Nat) (_ : S < 4096) : S.testBit k = (S % 64).testBit k := by
  have h := Nat.testBit_mod_two_pow S 6 k
  rw [decide_eq_true h6, Bool.true_and] at h
  exact h.symm
theorem rz_l2 (k : Nat) (h6 : k < 6) (S : Nat) (hS : S < 4096) (hb : S.testBit k = true) : (S - 2 ^ k) / 64 = S / 64 ∧ (S - 2 ^ k) % 64 = S % 64 - 2 ^ k := by
  rw [rz_l1 k h6 S hS] at hb
  have hge := Nat.ge_two_pow_of_testBit hb
  generalize 2 ^ k = p at hge ⊢
  omega
theorem rz_bit {f : Nat → Int64} {k S : Nat} (hk : k < 12) (hS : S < 4096) : (rz f k (S / 64)).toBitVec.getLsbD (S % 64) = (S.testBit k && bF f (S - 2 ^ k)) := by
  unfold rz
  by_cases h6 : k < 6
  · rw [if_pos h6, rz_lo h6 (by omega), rz_l1 k h6 S hS]
    cases hb : (S % 64).testBit k with
    | false => rfl
    | true =>
      obtain ⟨a, b⟩ := rz_l2 k h6 S hS (by rw [rz_l1 k h6 S hS]; exact hb)
      unfold bF
      rw [a, b]
  · rw [if_neg h6, rz_hi k (by omega) hk S hS]
    cases hb : (S / 64).testBit (k - 6) with
    | false =>
      rw [if_neg Bool.false_ne_true]
      rw [Bool.false_and]
      show (0#64).getLsbD _ = false
      rw [BitVec.getLsbD_zero]
    | true =>
      obtain ⟨a, b⟩ := rz_h2 k (by omega) hk S hS (by rw [rz_hi k (by omega) hk S hS]; exact hb)
      rw [if_pos rfl, Bool.true_and]
      unfold bF
      rw [a, b]
/-- all sets that have one of these as a part, by the first k elements -/
def cuF (b : Nat → Bool) : Nat → Nat → Bool
  | 0, S => b S
  | k + 1, S => cuF b k S || (S.testBit k && cuF b k (S - 2 ^ k))
/-- T is a part of S -/
def subS (T S : Nat) : Prop := ∀ i, T.testBit i = true → S.testBit i = true
theorem tb_sub {S k : Nat} (h : S.testBit k = true) (i : Nat) : (S - 2 ^ k).testBit i = (S.testBit i && !decide (i = k)) := by
  have hr : (S % 2 ^ (k + 1)).testBit k = true := by
    rw [Nat.testBit_mod_two_pow, h, decide_eq_true (Nat.lt_succ_self k)]
    rfl
  have h1 := Nat.ge_two_pow_of_testBit hr
  have h2 := Nat.mod_lt S (Nat.two_pow_pos (k + 1))
  have h3 := Nat.div_add_mod S (2 ^ (k + 1))
  have h4 : 2 ^ (k + 1) = 2 ^ k + 2 ^ k := by
    rw [Nat.pow_succ]
    omega
  obtain ⟨b, hb⟩ : ∃ b, S % 2 ^ (k + 1) = 2 ^ k + b := ⟨S % 2 ^ (k + 1) - 2 ^ k, by omega⟩
  rw [hb] at h3 h2
  have e1 : S = 2 ^ (k + 1) * (S / 2 ^ (k + 1)) + (2 ^ k + b) := h3.symm
  clear hb hr h1 h3
  generalize S / 2 ^ (k + 1) = a at e1
  have hbl : b < 2 ^ k := by omega
  have e2 : S - 2 ^ k = 2 ^ (k + 1) * a + b := by
    rw [e1]
    generalize 2 ^ (k + 1) * a = y
    omega
  have e3 : S.testBit i = (2 ^ (k + 1) * a + (2 ^ k + b)).testBit i := congrArg (fun x => Nat.testBit x i) e1
  rw [e2, e3, Nat.testBit_two_pow_mul_add a (show b < 2 ^ (k + 1) by omega), Nat.testBit_two_pow_mul_add a (show 2 ^ k + b < 2 ^ (k + 1) by omega)]
  by_cases c : i < k + 1
  · rw [if_pos c, if_pos c]
    by_cases d : i = k
    · subst d
      rw [decide_eq_true rfl, Bool.not_true, Bool.and_false]
      exact Nat.testBit_lt_two_pow hbl
    · rw [decide_eq_false d, Bool.not_false, Bool.and_true, Nat.testBit_two_pow_add_gt (show i < k by omega)]
  · rw [if_neg c, if_neg c, decide_eq_false (show ¬ i = k by omega), Bool.not_false, Bool.and_true]
theorem tb_s {S k i : Nat} (h : S.testBit k = true) : (S - 2 ^ k).testBit i = true ↔ S.testBit i = true ∧ i ≠ k := by
  rw [tb_sub h, Bool.and_eq_true, Bool.not_eq_true', decide_eq_false_iff_not]
theorem cuF_iff {b : Nat → Bool} : ∀ {k S : Nat}, cuF b k S = true ↔ ∃ T, b T = true ∧ subS T S ∧ ∀ i, S.testBit i = true → ¬ T.testBit i = true → i < k
  | 0, S => by
    constructor
    · intro h
      exact ⟨S, h, fun _ z => z, fun i z1 z2 => absurd z1 z2⟩
    · rintro ⟨T, h1, h2, h3⟩
      have e : T = S := Nat.eq_of_testBit_eq (fun i => by
        cases hs : S.testBit i with
        | true =>
          cases ht : T.testBit i with
          | true => rfl
          | false => exact absurd (h3 i hs (by rw [ht]; exact Bool.false_ne_true)) (Nat.not_lt_zero _)
        | false =>
          cases ht : T.testBit i with
          | true =>
            rw [h2 i ht] at hs
            cases hs
          | false => rfl)
      subst e
      exact h1
  | k + 1, S => by
    show (cuF b k S || (S.testBit k && cuF b k (S - 2 ^ k))) = true ↔ _
    rw [Bool.or_eq_true, Bool.and_eq_true, cuF_iff, cuF_iff]
    constructor
    · rintro (⟨T, h1, h2, h3⟩ | ⟨hk, T, h1, h2, h3⟩)
      · exact ⟨T, h1, h2, fun i a c => Nat.lt_succ_of_lt (h3 i a c)⟩
      · refine ⟨T, h1, fun i a => ((tb_s hk).mp (h2 i a)).1, fun i a c => ?_⟩
        by_cases e : i = k
        · omega
        · exact Nat.lt_succ_of_lt (h3 i ((tb_s hk).mpr ⟨a, e⟩) c)
    · rintro ⟨T, h1, h2, h3⟩
      by_cases hk : S.testBit k = true ∧ ¬ T.testBit k = true
      · refine Or.inr ⟨hk.1, T, h1, fun i a => (tb_s hk.1).mpr ⟨h2 i a, fun z => hk.2 (z ▸ a)⟩, fun i a c => ?_⟩
        obtain ⟨a1, a2⟩ := (tb_s hk.1).mp a
        have := h3 i a1 c
        omega
      · refine Or.inl ⟨T, h1, h2, fun i a c => ?_⟩
        have h5 := h3 i a c
        by_cases e : i = k
        · subst e
          exact absurd ⟨a, c⟩ hk
        · omega
/-- what is least of sets that have with each all greater ones -/
def lwF (g : Nat → Bool) (S : Nat) : Prop := g S = true ∧ ∀ k, k < 12 → S.testBit k = true → ¬ g (S - 2 ^ k) = true
/-- the sets that leave a world (of 256) open: those that have all in view that isn't true there -/
def opS (out : Nat → Prop) (tr : Nat → Nat) (view S : Nat) : Prop := ∃ w, w < 256 ∧ out w ∧ ∀ i, view.testBit i = true → ¬ (tr w).testBit i = true → S.testBit i = true
theorem opS_mono {out : Nat → Prop} {tr : Nat → Nat} {view S T : Nat} (h : opS out tr view T) (hs : subS T S) : opS out tr view S := by
  obtain ⟨w, h1, h2, h3⟩ := h
  exact ⟨w, h1, h2, fun i a b => hs i (h3 i a b)⟩
/-- the family that a class's cuts are found in -/
theorem opS_cu {out : Nat → Prop} {tr : Nat → Nat} {view S : Nat} {b : Nat → Bool} (hb : ∀ T, b T = true ↔ ∃ w, w < 256 ∧ out w ∧ ∀ i, T.testBit i = true ↔ view.testBit i = true ∧ ¬ (tr w).testBit i = true) (hS : S < 4096) (hT : ∀ T, b T = true → T < 4096) : cuF b 12 S = true ↔ opS out tr view S := by
  rw [cuF_iff]
  constructor
  · rintro ⟨T, h1, h2, -⟩
    obtain ⟨w, w1, w2, w3⟩ := (hb T).mp h1
    exact ⟨w, w1, w2, fun i a c => h2 i ((w3 i).mpr ⟨a, c⟩)⟩
  · rintro ⟨w, w1, w2, w3⟩
    have ht : ∀ i, ((tr w &&& view) ^^^ view).testBit i = true ↔ view.testBit i = true ∧ ¬ (tr w).testBit i = true := fun i => by
      rw [Nat.testBit_xor, Nat.testBit_and]
      cases (tr w).testBit i <;> cases view.testBit i <;> decide
    refine ⟨_, (hb _).mpr ⟨w, w1, w2, ht⟩, fun i a => w3 i ((ht i).mp a).1 ((ht i).mp a).2, fun i a _ => ?_⟩
    by_cases h12 : i < 12
    · exact h12
    · have h2 : S < 2 ^ i := Nat.lt_of_lt_of_le (show S < 2 ^ 12 from hS) (Nat.pow_le_pow_right (by decide) (by omega))
      rw [Nat.testBit_lt_two_pow h2] at a
      cases a
/-- of some entries a sentence follows: there is no world without it where all of them are true -/
def flS (out : Nat → Prop) (tr : Nat → Nat) (P : Nat → Prop) : Prop := ∀ w, w < 256 → out w → ¬ ∀ i, P i → (tr w).testBit i = true
/-- what the reference asks of a cut -/
def isC (out : Nat → Prop) (tr : Nat → Nat) (view S : Nat) : Prop := subS S view ∧ ¬ flS out tr (fun i => view.testBit i = true ∧ ¬ S.testBit i = true) ∧ ∀ e, S.testBit e = true → flS out tr (fun i => (view.testBit i = true ∧ ¬ S.testBit i = true) ∨ i = e)
theorem flS_n {out : Nat → Prop} {tr : Nat → Nat} {view S : Nat} : ¬ flS out tr (fun i => view.testBit i = true ∧ ¬ S.testBit i = true) ↔ opS out tr view S := by
  constructor
  · intro h
    refine Classical.byContradiction (fun z => h (fun w w1 w2 a => z ⟨w, w1, w2, fun i b c => ?_⟩))
    refine Classical.byContradiction (fun d => c (a i ⟨b, d⟩))
  · rintro ⟨w, w1, w2, w3⟩ z
    refine z w w1 w2 (fun i a => Classical.byContradiction (fun c => a.2 (w3 i a.1 c)))
theorem cut_iff {out : Nat → Prop} {tr : Nat → Nat} {view S : Nat} : isC out tr view S ↔ opS out tr view S ∧ ∀ k, S.testBit k = true → ¬ opS out tr view (S - 2 ^ k) := by
  constructor
  · rintro ⟨h1, h2, h3⟩
    refine ⟨flS_n.mp h2, fun k hk => ?_⟩
    rintro ⟨w, w1, w2, w3⟩
    refine h3 k hk w w1 w2 (fun i a => ?_)
    rcases a with a | rfl
    · exact Classical.byContradiction (fun c => a.2 ((tb_s hk).mp (w3 i a.1 c)).1)
    · exact Classical.byContradiction (fun c => ((tb_s hk).mp (w3 i (h1 i hk) c)).2 rfl)
  · rintro ⟨h1, h2⟩
    have hv : subS S view := fun k hk => Classical.byContradiction (fun z => by
      obtain ⟨w, w1, w2, w3⟩ := h1
      exact h2 k hk ⟨w, w1, w2, fun i a c => (tb_s hk).mpr ⟨w3 i a c, fun e => z (e ▸ a)⟩⟩)
    refine ⟨hv, flS_n.mpr h1, fun e he w w1 w2 a => h2 e he ⟨w, w1, w2, fun i b c => ?_⟩⟩
    refine (tb_s he).mpr ⟨Classical.byContradiction (fun d => c (a i (Or.inl ⟨b, d⟩))), fun d => ?_⟩
    subst d
    exact c (a i (Or.inr rfl))
/-- the least of some sets, by weight and then by size: the first of them -/
def lstF (p : Nat → Bool) (cost : Nat → Int) : Nat → Option Nat
  | 0 => none
  | n + 1 => if p n = true then (match lstF p cost n with
    | none => some n
    | some b => if cost n < cost b then some n else some b) else lstF p cost n
theorem lstF_eq {p p' : Nat → Bool} {c c' : Nat → Int} : ∀ {n : Nat}, (∀ S, S < n → p S = p' S) → (∀ S T, S < n → T < n → p S = true → p T = true → (c S < c T ↔ c' S < c' T)) → lstF p c n = lstF p' c' n ∧ ∀ b, lstF p c n = some b → b < n ∧ p b = true
  | 0, _, _ => ⟨rfl, fun _ h => by cases h⟩
  | n + 1, h1, h2 => by
    obtain ⟨e, hb⟩ := lstF_eq (n := n) (fun S hS => h1 S (by omega)) (fun S T hS hT => h2 S T (by omega) (by omega))
    have hp := h1 n (by omega)
    unfold lstF
    rw [← hp, ← e]
    by_cases hn : p n = true
    · rw [if_pos hn, if_pos hn]
      cases hl : lstF p c n with
      | none => exact ⟨rfl, fun b hb => by cases hb; exact ⟨by omega, hn⟩⟩
      | some b =>
        obtain ⟨b1, b2⟩ := hb b hl
        have hc := h2 n b (by omega) (by omega) hn b2
        show (if c n < c b then some n else some b) = (if c' n < c' b then some n else some b) ∧ ∀ x, (if c n < c b then some n else some b) = some x → x < n + 1 ∧ p x = true
        by_cases hx : c n < c b
        · rw [if_pos hx, if_pos (hc.mp hx)]
          exact ⟨rfl, fun x hx => by cases hx; exact ⟨by omega, hn⟩⟩
        · rw [if_neg hx, if_neg (fun z => hx (hc.mpr z))]
          exact ⟨rfl, fun x hx => by cases hx; exact ⟨by omega, b2⟩⟩
    · rw [if_neg hn, if_neg hn]
      exact ⟨rfl, fun b h => ⟨by have := (hb b h).1; omega, (hb b h).2⟩⟩
