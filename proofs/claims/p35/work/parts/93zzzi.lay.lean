/-! the reference: the worlds of sets of entries -/
/-- an entry's sentence, and a word of it -/
def ses (A : zW) (e : Nat) : Nat := (zI A 348 e).toInt.toNat
def sew (A : zW) (e q : Nat) : Int64 := zJ A 344 (4 * ses A e + q)
def sei (A : zW) (n : Nat) : Prop := ∀ e, e < n → 0 ≤ (zI A 348 e).toInt ∧ (zI A 348 e).toInt < 60
/-- the rows of the sets below m -/
def lwOK (A : zW) (f : Nat → Int64) (m : Nat) : Prop := ∀ S, S < m → ∀ q, q < 4 → ∀ i, i < 64 → ((f (4 * S + q)).toBitVec.getLsbD i = true ↔ ∀ e, S.testBit e = true → (sew A e q).toBitVec.getLsbD i = true)
def zlw (A : zW) (l : Int32) (f : Nat → Int64) : zW := zsJ (zuF A 343 17 (.int l)) 354 f
theorem n32_m {S q : Nat} (hS : S < 4096) (hq : q < 4) : (Int32.ofInt 4 * Int32.ofNat S + Int32.ofNat q).toNatClampNeg = 4 * S + q := by
  have e4 : (Int32.ofInt 4).toInt = 4 := by decide
  have tS := n32_t hS
  have tq := n32_t (show q < 4096 by omega)
  have m1 : (Int32.ofInt 4 * Int32.ofNat S).toInt = 4 * (S : Int) := by
    rw [i_mul (by rw [e4, tS]; omega) (by rw [e4, tS]; omega), e4, tS]
  show (Int32.ofInt 4 * Int32.ofNat S + Int32.ofNat q).toInt.toNat = _
  rw [i_add (by rw [m1, tq]; omega) (by rw [m1, tq]; omega), m1, tq]
  omega
theorem n32_ms {s : Int32} {q : Nat} (h0 : 0 ≤ s.toInt) (h1 : s.toInt < 60) (hq : q < 4) : (Int32.ofInt 4 * s + Int32.ofNat q).toNatClampNeg = 4 * s.toInt.toNat + q := by
  have es : s = Int32.ofNat s.toInt.toNat := n32_of (by omega)
  have h := n32_m (S := s.toInt.toNat) (q := q) (by omega) hq
  rw [← es] at h
  exact h
theorem n32_p {S : Nat} (h1 : 1 ≤ S) (h2 : S < 4096) : Int32.ofNat S - Int32.ofInt 1 = Int32.ofNat (S - 1) := by
  have e1 : (Int32.ofInt 1).toInt = 1 := by decide
  have tS := n32_t h2
  refine Int32.toInt_inj.mp ?_
  rw [n32_t (by omega), Int32.toInt_sub, tS, e1]
  rw [Int.bmod_eq_of_le (by omega) (by omega)]
  omega
/-- a set without its lowest element -/
theorem low_b {S e i : Nat} (h1 : S.testBit e = true) (h2 : ∀ i, i < e → S.testBit i = false) : (S &&& (S - 1)).testBit i = true ↔ S.testBit i = true ∧ i ≠ e := by
  rw [Nat.testBit_and, pr_b h1 h2, Bool.and_eq_true]
  by_cases c : i < e
  · rw [if_pos c, h2 i c]
    exact ⟨fun z => absurd z.1 Bool.false_ne_true, fun z => absurd z.1 Bool.false_ne_true⟩
  · rw [if_neg c]
    by_cases d : i = e
    · rw [if_pos d]
      exact ⟨fun z => absurd z.2 Bool.false_ne_true, fun z => absurd d z.2⟩
    · rw [if_neg d]
      exact ⟨fun z => ⟨z.1, d⟩, fun z => ⟨z.1, z.1⟩⟩
theorem low_12 {S e : Nat} (h0 : 1 ≤ S) (hS : S < 4096) (h : ∀ i, i < e → S.testBit i = false) : e < 12 := by
  refine Nat.lt_of_not_le (fun he => ?_)
  have e0 : S = 0 := Nat.eq_of_testBit_eq (fun i => by
    rw [Nat.zero_testBit]
    by_cases c : i < e
    · exact h i c
    · exact Nat.testBit_lt_two_pow (Nat.lt_of_lt_of_le (show S < 2 ^ 12 from hS) (Nat.pow_le_pow_right (by decide) (by omega))))
  omega
abbrev lyA : Type := Int32 × Int32
def lyP (a : lyA) (A : zW) : Prop := (zF A 343 8 = .int a.1 ∧ 0 ≤ a.1.toInt ∧ a.1.toInt ≤ 12) ∧ sei A a.1.toInt.toNat ∧ zF A 343 17 = .int a.2 ∧ (¬ a.2.toInt = 0 → lwOK A (zJ A 354) (2 ^ a.1.toInt.toNat))
def lyQ (a : lyA) (A : zW) (rv : Option Value) (A' : zW) : Prop := rv = none ∧ ∃ (l : Int32) (f : Nat → Int64), A' = zlw A l f ∧ ¬ l.toInt = 0 ∧ lwOK A f (2 ^ a.1.toInt.toNat)
def zq_layW : zQ := zs (fun _ : lyA => [.ref 343]) lyP lyQ
def in_lw15 (A : zW) : fL_ → List Value → zW → Prop := fun lg vs A' => ∃ (i : Nat) (f : Nat → Int64), f_sub [(1, false, .int (Int32.ofNat i)), (0, false, .ref 343)] lg ∧ vs = [] ∧ A' = zlw A (Int32.ofInt 1) f ∧ i ≤ 4 ∧ ∀ x, x < i → f x = Int64.ofInt (-1)
def in_lw37 (A : zW) (m : Nat) : fL_ → List Value → zW → Prop := fun lg vs A' => ∃ (S : Nat) (f : Nat → Int64), f_sub [(1, false, .int (Int32.ofNat S)), (0, false, .ref 343)] lg ∧ vs = [] ∧ A' = zlw A (Int32.ofInt 1) f ∧ 1 ≤ S ∧ S ≤ m ∧ lwOK A f S
def in_lw49 (A : zW) (m : Nat) : fL_ → List Value → zW → Prop := fun lg vs A' => ∃ (S e : Nat) (f : Nat → Int64), f_sub [(2, false, .int (Int32.ofNat e)), (1, false, .int (Int32.ofNat S)), (0, false, .ref 343)] lg ∧ vs = [] ∧ A' = zlw A (Int32.ofInt 1) f ∧ 1 ≤ S ∧ S < m ∧ lwOK A f S ∧ ∀ i, i < e → S.testBit i = false
def lwQ (A : zW) (f : Nat → Int64) (S q : Nat) : Prop := ∀ y, y < q → ∀ i, i < 64 → ((f (4 * S + y)).toBitVec.getLsbD i = true ↔ ∀ e, S.testBit e = true → (sew A e y).toBitVec.getLsbD i = true)
def in_lw66 (A : zW) (m : Nat) : fL_ → List Value → zW → Prop := fun lg vs A' => ∃ (S e q : Nat) (f : Nat → Int64), f_sub [(3, false, .int (Int32.ofNat q)), (2, false, .int (Int32.ofNat e)), (1, false, .int (Int32.ofNat S)), (0, false, .ref 343)] lg ∧ vs = [] ∧ A' = zlw A (Int32.ofInt 1) f ∧ 1 ≤ S ∧ S < m ∧ lwOK A f S ∧ (S.testBit e = true ∧ ∀ i, i < e → S.testBit i = false) ∧ q ≤ 4 ∧ lwQ A f S q
theorem e4i : (Int32.ofInt 4).toInt = 4 := by decide
theorem n32_n {n : Int32} (h0 : 0 ≤ n.toInt) (h1 : n.toInt ≤ 12) : (Int32.ofInt 1 <<< (n &&& 31)).toInt = ((2 ^ n.toInt.toNat : Nat) : Int) := by
  have en : n = Int32.ofNat n.toInt.toNat := n32_of (by omega)
  have h := n32_1t n.toInt.toNat (by omega)
  rw [← en] at h
  exact h
set_option maxRecDepth 20000 in
set_option maxHeartbeats 8000000 in
theorem zc_X12_layWorlds : zdo r_X12_layWorlds zq_layW := by
  refine zdo_of _ _ _ [(475, 2, zq_hasBit)] (fun a A => [(15, in_lw15 A), (37, in_lw37 A (2 ^ a.1.toInt.toNat)), (49, in_lw49 A (2 ^ a.1.toInt.toNat)), (66, in_lw66 A (2 ^ a.1.toInt.toNat))]) 100 fo_X12 rfl (zs_cons rfl za_X12_hasBit zs_nil) k_X12_layWorlds (fun a A hp => ?_) (fun a A hp => ?_)
  · obtain ⟨n, l⟩ := a
    obtain ⟨⟨hn, n0, n1⟩, hs0, hl, hlw⟩ := hp
    have hn : zF A 343 8 = .int n := hn
    have n0 : 0 ≤ n.toInt := n0
    have n1 : n.toInt ≤ 12 := n1
    have hs0 : sei A n.toInt.toNat := hs0
    have hm := p2_le n.toInt.toNat (by omega)
    have h2n := n32_n n0 n1
    show ∀ x ∈ [(15, in_lw15 A), (37, in_lw37 A (2 ^ n.toInt.toNat)), (49, in_lw49 A (2 ^ n.toInt.toNat)), (66, in_lw66 A (2 ^ n.toInt.toNat))], _
    obtain ⟨m, em⟩ : ∃ m : Nat, m = 2 ^ n.toInt.toNat := ⟨_, rfl⟩
    have out : ∀ (f : Nat → Int64) (A' : zW), A' = zlw A (Int32.ofInt 1) f → lwOK A f m → lyQ (n, l) A none A' := fun f A' e1 e2 => ⟨rfl, Int32.ofInt 1, f, e1, by decide, by rw [em] at e2; exact e2⟩
    have bnd : ∀ e S : Nat, S < m → S.testBit e = true → e < n.toInt.toNat := fun e S hS hb => by
      refine Nat.lt_of_not_le (fun c => ?_)
      rw [em] at hS
      rw [Nat.testBit_lt_two_pow (Nat.lt_of_lt_of_le hS (Nat.pow_le_pow_right (by decide) c))] at hb
      cases hb
    rw [← em] at hm h2n ⊢
    refine List.forall_mem_cons.mpr ⟨?_, List.forall_mem_cons.mpr ⟨?_, List.forall_mem_cons.mpr ⟨?_, List.forall_mem_cons.mpr ⟨?_, fun _ h => absurd h List.not_mem_nil⟩⟩⟩⟩
    · rintro lg vs A' ⟨i, f, hs, rfl, eA, hi, hf⟩
      have hi : i ≤ 4 := hi
      have ti := n32_t (show i < 4096 by omega)
      refine ⟨_, 60, hs, fun h => ?_, fun h => ?_⟩
      · have h : (Int32.ofInt 4).toInt ≤ (Int32.ofNat i).toInt := h
        rw [e4i, ti] at h
        refine ⟨1, f, ⟨rfl, rfl, trivial⟩, rfl, eA, (by decide : 1 ≤ 1), (by rw [em]; exact Nat.two_pow_pos _), fun S hS q hq x hx => ?_⟩
        have e0 : S = 0 := by omega
        subst e0
        rw [hf _ (by omega), m1_64 x hx]
        refine ⟨fun _ e he => ?_, fun _ => rfl⟩
        rw [Nat.zero_testBit] at he
        cases he
      · have h : ¬ (Int32.ofInt 4).toInt ≤ (Int32.ofNat i).toInt := h
        rw [e4i, ti] at h
        refine ⟨i + 1, fun x => if x = i then Int64.ofInt (-1) else f x, ⟨?_, rfl, trivial⟩, rfl, ?_, (show i + 1 ≤ 4 by omega), fun x hx => ?_⟩
        · show some (false, Value.int (Int32.ofNat i + Int32.ofInt 1)) = some (false, .int (Int32.ofNat (i + 1)))
          rw [n32_s (by omega)]
        · show zuJ A' 354 (Int32.ofNat i).toNatClampNeg (Int64.ofInt (-1)) = _
          rw [n32_c (by omega), eA]
          exact zuJ_zsJ (fun x => rfl)
        · show (if x = i then _ else f x) = _
          by_cases c : x = i
          · rw [if_pos c]
          · rw [if_neg c]
            exact hf x (by omega)
    · rintro lg vs A' ⟨S, f, hs, rfl, eA, hS1, hSm, hf⟩
      have hSm : S ≤ m := hSm
      have tS : (Int32.ofNat S).toInt = (S : Int) := Int32.toInt_ofNat_of_lt (by omega)
      have en : zF A' 343 8 = .int n := by
        rw [eA]
        show zF (zuF A 343 17 (.int (Int32.ofInt 1))) 343 8 = _
        rw [zuF_x, if_neg (by decide)]
        exact hn
      refine ⟨_, 60, hs, fun h => ?_, fun h => ?_⟩
      · have h : (Int32.ofInt 1 <<< (iv (zF A' 343 8) &&& 31)).toInt ≤ (Int32.ofNat S).toInt := h
        rw [en] at h
        have h : (Int32.ofInt 1 <<< (n &&& 31)).toInt ≤ (Int32.ofNat S).toInt := h
        rw [h2n, tS] at h
        exact out f A' eA (by rw [show m = S by omega]; exact hf)
      · have h : ¬ (Int32.ofInt 1 <<< (iv (zF A' 343 8) &&& 31)).toInt ≤ (Int32.ofNat S).toInt := h
        rw [en] at h
        have h : ¬ (Int32.ofInt 1 <<< (n &&& 31)).toInt ≤ (Int32.ofNat S).toInt := h
        rw [h2n, tS] at h
        exact ⟨S, 0, f, ⟨rfl, rfl, rfl, trivial⟩, rfl, eA, hS1, (show S < m by omega), hf, fun i hi => absurd hi (Nat.not_lt_zero i)⟩
    · rintro lg vs A' ⟨S, e, f, hs, rfl, eA, hS1, hSm, hf, he⟩
      have hSm : S < m := hSm
      have hS4 : S < 4096 := by omega
      have he12 := low_12 hS1 hS4 he
      refine ⟨_, 60, hs, ((Int32.ofNat S).toInt64, Int32.ofNat e), rfl, trivial, fun h => ?_, fun h => ?_⟩
      · have h : ¬ (zb (hbB (Int32.ofNat S).toInt64 (Int32.ofNat e))).toInt = 0 := h
        have h := zb_t h
        rw [zbt_m (by omega), n32_zbi (by omega)] at h
        exact ⟨S, e, 0, f, ⟨rfl, rfl, rfl, rfl, trivial⟩, rfl, eA, hS1, hSm, hf, ⟨h, he⟩, (by decide : 0 ≤ 4), fun y hy => absurd hy (Nat.not_lt_zero y)⟩
      · have h : ¬ ¬ (zb (hbB (Int32.ofNat S).toInt64 (Int32.ofNat e))).toInt = 0 := h
        have h := zb_f (Classical.not_not.mp h)
        rw [zbt_m (by omega), n32_zbi (by omega)] at h
        refine ⟨S, e + 1, f, ⟨?_, rfl, rfl, trivial⟩, rfl, eA, hS1, hSm, hf, fun i hi => ?_⟩
        · show some (false, Value.int (Int32.ofNat e + Int32.ofInt 1)) = some (false, .int (Int32.ofNat (e + 1)))
          rw [n32_s (by omega)]
        · by_cases c : i = e
          · rw [c]
            exact h
          · exact he i (by omega)
    · rintro lg vs A' ⟨S, e, q, f, hs, rfl, eA, hS1, hSm, hf, ⟨hb, he⟩, hq, hqf⟩
      have hSm : S < m := hSm
      have hq : q ≤ 4 := hq
      have hS4 : S < 4096 := by omega
      have he12 := low_12 hS1 hS4 he
      have tq := n32_t (show q < 4096 by omega)
      refine ⟨_, 60, hs, fun h => ?_, fun h => ?_⟩
      · have h : (Int32.ofInt 4).toInt ≤ (Int32.ofNat q).toInt := h
        rw [e4i, tq] at h
        refine ⟨S + 1, f, ⟨?_, rfl, trivial⟩, rfl, eA, (show 1 ≤ S + 1 by omega), (show S + 1 ≤ m by omega), fun T hT y hy i hi => ?_⟩
        · show some (false, Value.int (Int32.ofNat S + Int32.ofInt 1)) = some (false, .int (Int32.ofNat (S + 1)))
          refine congrArg (fun z => some (false, Value.int z)) (Int32.toInt_inj.mp ?_)
          have e1 : (Int32.ofInt 1).toInt = 1 := by decide
          have tS := n32_t hS4
          rw [i_add (by omega) (by omega), tS, e1, Int32.toInt_ofNat_of_lt (by omega)]
          omega
        · by_cases c : T = S
          · rw [c]
            exact hqf y (by omega) i hi
          · exact hf T (by omega) y hy i hi
      · have h : ¬ (Int32.ofInt 4).toInt ≤ (Int32.ofNat q).toInt := h
        rw [e4i, tq] at h
        have hq4 : q < 4 := by omega
        have hen := bnd e S hSm hb
        obtain ⟨s0, s1⟩ := hs0 e hen
        have eJ : zJ A' 354 = f := by rw [eA]; exact zJ_s
        have eT : zJ A' 344 = zJ A 344 := by rw [eA]; exact zJ_n (by decide)
        have eI : ∀ x, zI A' 348 x = zI A 348 x := fun x => by rw [eA]; rfl
        have eand : Int32.ofNat S &&& (Int32.ofNat S - Int32.ofInt 1) = Int32.ofNat (S &&& (S - 1)) := by rw [n32_p hS1 hS4, n32_and]
        have hlt : S &&& (S - 1) < S := Nat.lt_of_le_of_lt Nat.and_le_right (by omega)
        have i1 := n32_m hS4 hq4
        have i2 : (Int32.ofInt 4 * (Int32.ofNat S &&& (Int32.ofNat S - Int32.ofInt 1)) + Int32.ofNat q).toNatClampNeg = 4 * (S &&& (S - 1)) + q := by
          rw [eand]
          exact n32_m (by omega) hq4
        have i3 : (Int32.ofInt 4 * zI A' 348 (Int32.ofNat e).toNatClampNeg + Int32.ofNat q).toNatClampNeg = 4 * ses A e + q := by
          rw [n32_c (by omega), eI]
          exact n32_ms s0 s1 hq4
        refine ⟨S, e, q + 1, fun x => if x = 4 * S + q then f (4 * (S &&& (S - 1)) + q) &&& sew A e q else f x, ⟨?_, rfl, rfl, rfl, trivial⟩, rfl, ?_, hS1, hSm, fun T hT y hy i hi => ?_, ⟨hb, he⟩, (show q + 1 ≤ 4 by omega), fun y hy i hi => ?_⟩
        · show some (false, Value.int (Int32.ofNat q + Int32.ofInt 1)) = some (false, .int (Int32.ofNat (q + 1)))
          rw [n32_s (by omega)]
        · show zuJ A' 354 (Int32.ofInt 4 * Int32.ofNat S + Int32.ofNat q).toNatClampNeg (zJ A' 354 (Int32.ofInt 4 * (Int32.ofNat S &&& (Int32.ofNat S - Int32.ofInt 1)) + Int32.ofNat q).toNatClampNeg &&& zJ A' 344 (Int32.ofInt 4 * zI A' 348 (Int32.ofNat e).toNatClampNeg + Int32.ofNat q).toNatClampNeg) = _
          rw [i1, i2, i3, eJ, eT, eA]
          exact zuJ_zsJ (fun x => rfl)
        · show ((if 4 * T + y = 4 * S + q then _ else f (4 * T + y)) : Int64).toBitVec.getLsbD i = true ↔ _
          rw [if_neg (by omega)]
          exact hf T hT y hy i hi
        · show ((if 4 * S + y = 4 * S + q then _ else f (4 * S + y)) : Int64).toBitVec.getLsbD i = true ↔ _
          by_cases c : y = q
          · subst c
            rw [if_pos rfl, Int64.toBitVec_and, BitVec.getLsbD_and, Bool.and_eq_true, hf _ hlt y hq4 i hi]
            constructor
            · rintro ⟨a, b⟩ x hx
              by_cases d : x = e
              · rw [d]
                exact b
              · exact a x ((low_b hb he).mpr ⟨hx, d⟩)
            · intro a
              exact ⟨fun x hx => a x ((low_b hb he).mp hx).1, a e hb⟩
          · rw [if_neg (by omega)]
            exact hqf y (by omega) i hi
  · obtain ⟨n, l⟩ := a
    obtain ⟨⟨hn, n0, n1⟩, hs0, hl, hlw⟩ := hp
    have hl : zF A 343 17 = .int l := hl
    refine ⟨fun h => ?_, fun h => ?_⟩
    · have h : (iv (zF A 343 17)).toInt = 0 := h
      refine ⟨rfl, 0, zJ A 354, ⟨rfl, rfl, trivial⟩, rfl, ?_, (by decide : 0 ≤ 4), fun x hx => absurd hx (Nat.not_lt_zero x)⟩
      show zuF A 343 17 (.int (Int32.ofInt 1)) = zsJ (zuF A 343 17 (.int (Int32.ofInt 1))) 354 (zJ A 354)
      exact (zsJ_self (fun _ => rfl)).symm
    · have h : ¬ (iv (zF A 343 17)).toInt = 0 := h
      rw [hl] at h
      refine ⟨rfl, l, zJ A 354, ?_, h, hlw h⟩
      show A = zsJ (zuF A 343 17 (.int l)) 354 (zJ A 354)
      rw [zuF_self hl]
      exact (zsJ_self (fun _ => rfl)).symm
