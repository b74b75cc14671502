section
/-! the reference: what follows, cuts, the least of them, what is given up -/
def fwW (A : zW) (s : Nat) (way : Int32) (q : Nat) : Int64 := if way.toInt = 0 then zJ A 344 (4 * s + q) else zJ A 344 (4 * s + q) ^^^ Int64.ofInt (-1)
def flN (A : zW) (S s : Nat) (way : Int32) : Nat → Bool
  | 0 => true
  | q + 1 => flN A S s way q && decide (zJ A 354 (4 * S + q) &&& (fwW A s way q ^^^ Int64.ofInt (-1)) = Int64.ofNat 0)
abbrev foA : Type := Nat × Nat × Int32
def zq_follows : zQ := zpu (fun a : foA => [.ref 343, .int (Int32.ofNat a.1), .int (Int32.ofNat a.2.1), .int a.2.2]) (fun a _ => a.1 < 4096 ∧ a.2.1 < 60) (fun a A => .int (zb (flN A a.1 a.2.1 a.2.2 4)))
def in_fo (A : zW) (S s : Nat) (way : Int32) : fL_ → List Value → zW → Prop := fun lg vs A' => ∃ q : Nat, f_sub [(5, false, .int (Int32.ofNat q)), (4, false, .int (zb (flN A S s way q))), (0, false, .ref 343), (1, false, .int (Int32.ofNat S)), (2, false, .int (Int32.ofNat s)), (3, false, .int way)] lg ∧ vs = [] ∧ A' = A ∧ q ≤ 4
theorem zb_1 : zb true = Int32.ofInt 1 := rfl
theorem zb_0 : zb false = Int32.ofInt 0 := rfl
set_option maxRecDepth 20000 in
set_option maxHeartbeats 8000000 in
theorem zc_X12_follows : zdo r_X12_follows zq_follows := by
  refine zdo_pu [] (fun a A => [(6, in_fo A a.1 a.2.1 a.2.2)]) 80 fo_X12 rfl zs_nil k_X12_follows (fun a A hp => ?_) (fun a A hp => ?_)
  · obtain ⟨S, s, way⟩ := a
    obtain ⟨hS, hs6⟩ := hp
    have hS : S < 4096 := hS
    have hs6 : s < 60 := hs6
    refine List.forall_mem_cons.mpr ⟨?_, fun _ h => absurd h List.not_mem_nil⟩
    rintro lg vs A' ⟨q, hs, rfl, rfl, hq⟩
    have hq : q ≤ 4 := hq
    have tq := n32_t (show q < 4096 by omega)
    have eq1 : some (false, Value.int (Int32.ofNat q + Int32.ofInt 1)) = some (false, .int (Int32.ofNat (q + 1))) := by rw [n32_s (by omega)]
    have eF : flN A' S s way (q + 1) = (flN A' S s way q && decide (zJ A' 354 (4 * S + q) &&& (fwW A' s way q ^^^ Int64.ofInt (-1)) = Int64.ofNat 0)) := rfl
    have eN : flN A' S s way (q + 1) = false → some (false, Value.int (Int32.ofInt 0)) = some (false, .int (zb (flN A' S s way (q + 1)))) := fun z => by
      rw [z]
      rfl
    have eY : flN A' S s way (q + 1) = true → some (false, Value.int (Int32.ofInt 1)) = some (false, .int (zb (flN A' S s way (q + 1)))) := fun z => by
      rw [z]
      rfl
    refine ⟨_, 80, hs, fun h => ?_, fun h => ?_⟩
    · have h : (Int32.ofInt 4).toInt ≤ (Int32.ofNat q).toInt := h
      rw [e4i, tq] at h
      refine ⟨?_, rfl⟩
      show some (Value.int (zb (flN A' S s way q))) = some (.int (zb (flN A' S s way 4)))
      rw [show q = 4 by omega]
    · have h : ¬ (Int32.ofInt 4).toInt ≤ (Int32.ofNat q).toInt := h
      rw [e4i, tq] at h
      have hq4 : q < 4 := by omega
      have le1 : q + 1 ≤ 4 := by omega
      have i1 := n32_m hS hq4
      have i2 := n32_m (show s < 4096 by omega) hq4
      refine ⟨fun h2 => ?_, fun h2 => ?_⟩
      · have h2 : ¬ way.toInt = 0 := h2
        have eW : zJ A' 344 (Int32.ofInt 4 * Int32.ofNat s + Int32.ofNat q).toNatClampNeg ^^^ Int64.ofInt (-1) = fwW A' s way q := by
          unfold fwW
          rw [if_neg h2, i2]
        refine ⟨fun h3 => ?_, fun h3 => ⟨fun h4 => ?_, fun h4 => ?_⟩⟩
        · have h3 : (zb (flN A' S s way q)).toInt = 0 := h3
          exact ⟨q + 1, ⟨eq1, eN (by rw [eF, zb_f h3, Bool.false_and]), rfl, rfl, rfl, rfl, trivial⟩, rfl, rfl, le1⟩
        · have h4 : ¬ (lg_cmp (zJ A' 354 (Int32.ofInt 4 * Int32.ofNat S + Int32.ofNat q).toNatClampNeg &&& ((zJ A' 344 (Int32.ofInt 4 * Int32.ofNat s + Int32.ofNat q).toNatClampNeg ^^^ Int64.ofInt (-1)) ^^^ Int64.ofInt (-1))) (Int64.ofNat 0)).toInt = 0 := h4
          rw [eW, i1] at h4
          exact ⟨q + 1, ⟨eq1, eN (by rw [eF, decide_eq_false (fun z => h4 (lg_cmp_0.mpr z)), Bool.and_false]), rfl, rfl, rfl, rfl, trivial⟩, rfl, rfl, le1⟩
        · have h3 : ¬ (zb (flN A' S s way q)).toInt = 0 := h3
          have h4 : ¬ ¬ (lg_cmp (zJ A' 354 (Int32.ofInt 4 * Int32.ofNat S + Int32.ofNat q).toNatClampNeg &&& ((zJ A' 344 (Int32.ofInt 4 * Int32.ofNat s + Int32.ofNat q).toNatClampNeg ^^^ Int64.ofInt (-1)) ^^^ Int64.ofInt (-1))) (Int64.ofNat 0)).toInt = 0 := h4
          rw [eW, i1] at h4
          exact ⟨q + 1, ⟨eq1, eY (by rw [eF, zb_t h3, decide_eq_true (lg_cmp_0.mp (Classical.not_not.mp h4)), Bool.and_self]), rfl, rfl, rfl, rfl, trivial⟩, rfl, rfl, le1⟩
      · have h2 : ¬ ¬ way.toInt = 0 := h2
        have h2 := Classical.not_not.mp h2
        have eW : zJ A' 344 (Int32.ofInt 4 * Int32.ofNat s + Int32.ofNat q).toNatClampNeg = fwW A' s way q := by
          unfold fwW
          rw [if_pos h2, i2]
        refine ⟨fun h3 => ?_, fun h3 => ⟨fun h4 => ?_, fun h4 => ?_⟩⟩
        · have h3 : (zb (flN A' S s way q)).toInt = 0 := h3
          exact ⟨q + 1, ⟨eq1, eN (by rw [eF, zb_f h3, Bool.false_and]), rfl, rfl, rfl, rfl, trivial⟩, rfl, rfl, le1⟩
        · have h4 : ¬ (lg_cmp (zJ A' 354 (Int32.ofInt 4 * Int32.ofNat S + Int32.ofNat q).toNatClampNeg &&& (zJ A' 344 (Int32.ofInt 4 * Int32.ofNat s + Int32.ofNat q).toNatClampNeg ^^^ Int64.ofInt (-1))) (Int64.ofNat 0)).toInt = 0 := h4
          rw [eW, i1] at h4
          exact ⟨q + 1, ⟨eq1, eN (by rw [eF, decide_eq_false (fun z => h4 (lg_cmp_0.mpr z)), Bool.and_false]), rfl, rfl, rfl, rfl, trivial⟩, rfl, rfl, le1⟩
        · have h3 : ¬ (zb (flN A' S s way q)).toInt = 0 := h3
          have h4 : ¬ ¬ (lg_cmp (zJ A' 354 (Int32.ofInt 4 * Int32.ofNat S + Int32.ofNat q).toNatClampNeg &&& (zJ A' 344 (Int32.ofInt 4 * Int32.ofNat s + Int32.ofNat q).toNatClampNeg ^^^ Int64.ofInt (-1))) (Int64.ofNat 0)).toInt = 0 := h4
          rw [eW, i1] at h4
          exact ⟨q + 1, ⟨eq1, eY (by rw [eF, zb_t h3, decide_eq_true (lg_cmp_0.mp (Classical.not_not.mp h4)), Bool.and_self]), rfl, rfl, rfl, rfl, trivial⟩, rfl, rfl, le1⟩
  · exact ⟨0, ⟨rfl, rfl, rfl, rfl, rfl, rfl, trivial⟩, rfl, rfl, Nat.zero_le _⟩
/-! cuts -/
def icN (A : zW) (V c s : Nat) (way : Int32) : Nat → Bool
  | 0 => decide (dfN c V = 0) && !(flN A (dfN V c) s way 4)
  | e + 1 => icN A V c s way e && (!(c.testBit e) || flN A (dfN V c ||| 2 ^ e) s way 4)
theorem icN_f {A : zW} {V c s e : Nat} {way : Int32} (h : icN A V c s way e = false) : ∀ {d : Nat}, icN A V c s way (e + d) = false
  | 0 => h
  | d + 1 => by
    show (icN A V c s way (e + d) && _) = false
    rw [icN_f h (d := d), Bool.false_and]
theorem dfN_le {a b : Nat} : dfN a b ≤ a := Nat.le_of_testBit (fun i h => by
  rw [dfN_b, Bool.and_eq_true] at h
  exact h.1)
abbrev icA : Type := (Nat × Int32 × Nat) × Nat × Int32
def icP (a : icA) (A : zW) : Prop := (zF A 343 8 = .int a.1.2.1 ∧ 0 ≤ a.1.2.1.toInt ∧ a.1.2.1.toInt ≤ 12) ∧ (zF A 343 20 = .int (Int32.ofNat a.1.2.2) ∧ a.1.2.2 < 2 ^ a.1.2.1.toInt.toNat) ∧ a.1.1 < 4096 ∧ a.2.1 < 60
def zq_isCut : zQ := zpu (fun a : icA => [.ref 343, .int (Int32.ofNat a.1.1), .int (Int32.ofNat a.2.1), .int a.2.2]) icP (fun a A => .int (zb (icN A a.1.2.2 a.1.1 a.2.1 a.2.2 a.1.2.1.toInt.toNat)))
def in_ic (A : zW) (c : Nat) (n : Int32) (V s : Nat) (way : Int32) : fL_ → List Value → zW → Prop := fun lg vs A' => ∃ e : Nat, f_sub [(5, false, .int (Int32.ofNat e)), (4, false, .int (zb (icN A V c s way e))), (0, false, .ref 343), (1, false, .int (Int32.ofNat c)), (2, false, .int (Int32.ofNat s)), (3, false, .int way)] lg ∧ vs = [] ∧ A' = A ∧ (e : Int) ≤ n.toInt
set_option maxRecDepth 20000 in
set_option maxHeartbeats 8000000 in
theorem zc_X12_isCut : zdo r_X12_isCut zq_isCut := by
  refine zdo_pu [(969, 4, zq_follows), (475, 2, zq_hasBit)] (fun a A => [(38, in_ic A a.1.1 a.1.2.1 a.1.2.2 a.2.1 a.2.2)]) 80 fo_X12 rfl (zs_cons rfl zc_X12_follows (zs_cons rfl za_X12_hasBit zs_nil)) k_X12_isCut (fun a A hp => ?_) (fun a A hp => ?_)
  · obtain ⟨⟨c, n, V⟩, s, way⟩ := a
    obtain ⟨⟨hn, n0, n1⟩, ⟨hV, hVn⟩, hc, hs6⟩ := hp
    have hn : zF A 343 8 = .int n := hn
    have n0 : 0 ≤ n.toInt := n0
    have n1 : n.toInt ≤ 12 := n1
    have hV : zF A 343 20 = .int (Int32.ofNat V) := hV
    have hVn : V < 2 ^ n.toInt.toNat := hVn
    have hc : c < 4096 := hc
    have hs6 : s < 60 := hs6
    have hm := p2_le n.toInt.toNat (by omega)
    refine List.forall_mem_cons.mpr ⟨?_, fun _ h => absurd h List.not_mem_nil⟩
    rintro lg vs A' ⟨e, hs, rfl, rfl, he⟩
    have he : (e : Int) ≤ n.toInt := he
    have te := n32_t (show e < 4096 by omega)
    have eq1 : some (false, Value.int (Int32.ofNat e + Int32.ofInt 1)) = some (false, .int (Int32.ofNat (e + 1))) := by rw [n32_s (by omega)]
    have eF : icN A' V c s way (e + 1) = (icN A' V c s way e && (!(c.testBit e) || flN A' (dfN V c ||| 2 ^ e) s way 4)) := rfl
    refine ⟨_, 80, hs, fun h => ?_, fun h => ⟨fun h2 => ?_, fun h2 => ?_⟩⟩
    · have h : (iv (zF A' 343 8)).toInt ≤ (Int32.ofNat e).toInt := h
      rw [hn, te] at h
      have h : n.toInt ≤ (e : Int) := h
      refine ⟨?_, rfl⟩
      show some (Value.int (zb (icN A' V c s way e))) = some (.int (zb (icN A' V c s way n.toInt.toNat)))
      rw [show n.toInt.toNat = e by omega]
    · have h2 : (zb (icN A' V c s way e)).toInt = 0 := h2
      have h2 := zb_f h2
      refine ⟨?_, rfl⟩
      show some (Value.int (zb (icN A' V c s way e))) = some (.int (zb (icN A' V c s way n.toInt.toNat)))
      have e2 := icN_f h2 (d := n.toInt.toNat - e)
      rw [show e + (n.toInt.toNat - e) = n.toInt.toNat by omega] at e2
      rw [h2, e2]
    · have h : ¬ (iv (zF A' 343 8)).toInt ≤ (Int32.ofNat e).toInt := h
      rw [hn, te] at h
      have h : ¬ n.toInt ≤ (e : Int) := h
      have h2 : ¬ (zb (icN A' V c s way e)).toInt = 0 := h2
      have h2 := zb_t h2
      have le1 : ((e + 1 : Nat) : Int) ≤ n.toInt := by omega
      refine ⟨((Int32.ofNat c).toInt64, Int32.ofNat e), rfl, trivial, fun h3 => ?_, fun h3 => ?_⟩
      · have h3 : (zb (hbB (Int32.ofNat c).toInt64 (Int32.ofNat e))).toInt = 0 := h3
        have h3 := zb_f h3
        rw [zbt_m (by omega), n32_zbi (by omega)] at h3
        have e3 : icN A' V c s way (e + 1) = true := by rw [eF, h2, h3]; rfl
        refine ⟨e + 1, ⟨eq1, ?_, rfl, rfl, rfl, rfl, trivial⟩, rfl, rfl, le1⟩
        rw [e3]
        rfl
      · have h3 : ¬ (zb (hbB (Int32.ofNat c).toInt64 (Int32.ofNat e))).toInt = 0 := h3
        have h3 := zb_t h3
        rw [zbt_m (by omega), n32_zbi (by omega)] at h3
        have hlt : dfN V c ||| 2 ^ e < 4096 := by
          have h1 : dfN V c < 2 ^ n.toInt.toNat := Nat.lt_of_le_of_lt dfN_le hVn
          have h2 : 2 ^ e < 2 ^ n.toInt.toNat := Nat.pow_lt_pow_right (by decide) (by omega)
          have := Nat.or_lt_two_pow h1 h2
          omega
        have eS : (iv (zF A' 343 20) &&& (Int32.ofNat c ^^^ Int32.ofInt (-1))) ||| (Int32.ofInt 1 <<< (Int32.ofNat e &&& 31)) = Int32.ofNat (dfN V c ||| 2 ^ e) := by
          rw [hV]
          show (Int32.ofNat V &&& (Int32.ofNat c ^^^ Int32.ofInt (-1))) ||| (Int32.ofInt 1 <<< (Int32.ofNat e &&& 31)) = _
          rw [n32_dif, n32_1 e (by omega), n32_or]
        refine ⟨(dfN V c ||| 2 ^ e, s, way), ?_, ⟨hlt, hs6⟩, fun h4 => ?_, fun h4 => ?_⟩
        · show [Value.ref 343, .int ((iv (zF A' 343 20) &&& (Int32.ofNat c ^^^ Int32.ofInt (-1))) ||| (Int32.ofInt 1 <<< (Int32.ofNat e &&& 31))), .int (Int32.ofNat s), .int way] = [.ref 343, .int (Int32.ofNat (dfN V c ||| 2 ^ e)), .int (Int32.ofNat s), .int way]
          rw [eS]
        · have h4 : (zb (flN A' (dfN V c ||| 2 ^ e) s way 4)).toInt = 0 := h4
          have h4 := zb_f h4
          have e3 : icN A' V c s way (e + 1) = false := by rw [eF, h3, h4]; simp
          refine ⟨e + 1, ⟨eq1, ?_, rfl, rfl, rfl, rfl, trivial⟩, rfl, rfl, le1⟩
          rw [e3]
          rfl
        · have h4 : ¬ (zb (flN A' (dfN V c ||| 2 ^ e) s way 4)).toInt = 0 := h4
          have h4 := zb_t h4
          have e3 : icN A' V c s way (e + 1) = true := by rw [eF, h2, h4]; simp
          refine ⟨e + 1, ⟨eq1, ?_, rfl, rfl, rfl, rfl, trivial⟩, rfl, rfl, le1⟩
          rw [e3]
          rfl
  · obtain ⟨⟨c, n, V⟩, s, way⟩ := a
    obtain ⟨⟨hn, n0, n1⟩, ⟨hV, hVn⟩, hc, hs6⟩ := hp
    have n0 : 0 ≤ n.toInt := n0
    have n1 : n.toInt ≤ 12 := n1
    have hV : zF A 343 20 = .int (Int32.ofNat V) := hV
    have hVn : V < 2 ^ n.toInt.toNat := hVn
    have hc : c < 4096 := hc
    have hm := p2_le n.toInt.toNat (by omega)
    have e0 : icN A V c s way 0 = (decide (dfN c V = 0) && !(flN A (dfN V c) s way 4)) := rfl
    have eC : Int32.ofNat c &&& (iv (zF A 343 20) ^^^ Int32.ofInt (-1)) = Int32.ofNat (dfN c V) := by
      rw [hV]
      exact n32_dif c V
    have eS : iv (zF A 343 20) &&& (Int32.ofNat c ^^^ Int32.ofInt (-1)) = Int32.ofNat (dfN V c) := by
      rw [hV]
      exact n32_dif V c
    have td := n32_t (show dfN c V < 4096 from Nat.lt_of_le_of_lt dfN_le hc)
    refine ⟨fun h => ?_, fun h => ?_⟩
    · have h : ¬ (Int32.ofNat c &&& (iv (zF A 343 20) ^^^ Int32.ofInt (-1))).toInt = 0 := h
      rw [eC, td] at h
      have e3 : icN A V c s way 0 = false := by rw [e0, decide_eq_false (by omega), Bool.false_and]
      refine ⟨0, ⟨rfl, ?_, rfl, rfl, rfl, rfl, trivial⟩, rfl, rfl, n0⟩
      rw [e3]
      rfl
    · have h : ¬ ¬ (Int32.ofNat c &&& (iv (zF A 343 20) ^^^ Int32.ofInt (-1))).toInt = 0 := h
      rw [eC, td] at h
      refine ⟨(dfN V c, s, way), ?_, ⟨(show dfN V c < 4096 from Nat.lt_of_le_of_lt dfN_le (by omega)), hs6⟩, fun h4 => ?_, fun h4 => ?_⟩
      · show [Value.ref 343, .int (iv (zF A 343 20) &&& (Int32.ofNat c ^^^ Int32.ofInt (-1))), .int (Int32.ofNat s), .int way] = [.ref 343, .int (Int32.ofNat (dfN V c)), .int (Int32.ofNat s), .int way]
        rw [eS]
      · have h4 : ¬ (zb (flN A (dfN V c) s way 4)).toInt = 0 := h4
        have h4 := zb_t h4
        have e3 : icN A V c s way 0 = false := by rw [e0, h4]; simp
        refine ⟨0, ⟨rfl, ?_, rfl, rfl, rfl, rfl, trivial⟩, rfl, rfl, n0⟩
        rw [e3]
        rfl
      · have h4 : ¬ ¬ (zb (flN A (dfN V c) s way 4)).toInt = 0 := h4
        have h4 := zb_f (Classical.not_not.mp h4)
        have e3 : icN A V c s way 0 = true := by rw [e0, h4, decide_eq_true (by omega)]; rfl
        refine ⟨0, ⟨rfl, ?_, rfl, rfl, rfl, rfl, trivial⟩, rfl, rfl, n0⟩
        rw [e3]
        rfl
/-! the least -/
theorem onS {α : Type} (o : Option α) : o = none ∨ ∃ b, o = some b := by
  cases o with
  | none => exact Or.inl rfl
  | some b => exact Or.inr ⟨b, rfl⟩
theorem zmw_le {A : zW} {set : Int32} : ∀ {n : Nat}, n ≤ 12 → (∀ e, e < n → 0 ≤ (zI A 345 (zI A 349 e).toInt.toNat).toInt ∧ (zI A 345 (zI A 349 e).toInt.toNat).toInt ≤ 9) → 0 ≤ (zmw A set n).toInt ∧ (zmw A set n).toInt ≤ 9 * (n : Int)
  | 0, _, _ => ⟨(by decide : 0 ≤ (0 : Int32).toInt), (by decide : (0 : Int32).toInt ≤ 9 * ((0 : Nat) : Int))⟩
  | n + 1, hn, h => by
    obtain ⟨a, b⟩ := zmw_le (A := A) (set := set) (n := n) (by omega) (fun e he => h e (by omega))
    obtain ⟨c, d⟩ := h n (by omega)
    have z0 : (0 : Int32).toInt = 0 := by decide
    show 0 ≤ (zmw A set n + (if zbi set n = true then zI A 345 (zI A 349 n).toInt.toNat else 0)).toInt ∧ (zmw A set n + (if zbi set n = true then zI A 345 (zI A 349 n).toInt.toNat else 0)).toInt ≤ 9 * ((n + 1 : Nat) : Int)
    split
    · rw [i_add (by omega) (by omega)]
      omega
    · rw [i_add (by omega) (by omega)]
      omega
def costM (A : zW) (n S : Nat) : Int := (zmw A (Int32.ofNat S) n).toInt * 16 + ((pcN 12 S : Nat) : Int)
def encM : Option Nat → Int32
  | none => Int32.ofInt (-9)
  | some b => Int32.ofNat b
def mwr (A : zW) (n : Nat) : Prop := ∀ e, e < n → 0 ≤ (zI A 345 (zI A 349 e).toInt.toNat).toInt ∧ (zI A 345 (zI A 349 e).toInt.toNat).toInt ≤ 9
abbrev lmA : Type := laA × Nat × Int32
def lmP (a : lmA) (A : zW) : Prop := laP a.1 A ∧ a.2.1 < 60 ∧ mwr A a.1.1.toInt.toNat
def lmV (a : lmA) (A : zW) : Option Nat := lstF (fun S => icN A (vwN (mvP A a.1.2.1 a.1.2.2) a.1.1.toInt.toNat) S a.2.1 a.2.2 a.1.1.toInt.toNat) (costM A a.1.1.toInt.toNat) (2 ^ a.1.1.toInt.toNat)
def lmQ (a : lmA) (A : zW) (rv : Option Value) (A' : zW) : Prop := laQ a.1 A A' ∧ rv = some (.int (encM (lmV a A')))
def zq_leastM : zQ := zs (fun a : lmA => [.ref 343, .int (Int32.ofNat a.2.1), .int a.2.2]) lmP lmQ
theorem mwr_ag {A A' : zW} {n : Nat} (g : agj S_Y A' A) (h : mwr A n) : mwr A' n := fun e he => by
  have I : ∀ q i, q < 385 → (zn lp_sh q, 0) ∈ S_Y → zI A' q i = zI A q i := fun q i a b => (g.1.2.1 q i a b).1
  rw [I 349 e (by decide) (by decide +kernel), I 345 _ (by decide) (by decide +kernel)]
  exact h e he
def in_lm (a : lmA) (A : zW) : fL_ → List Value → zW → Prop := fun lg vs A' => ∃ c : Nat, f_sub [(4, false, .int (Int32.ofNat c)), (3, false, .int (encM (lstF (fun S => icN A' (vwN (mvP A' a.1.2.1 a.1.2.2) a.1.1.toInt.toNat) S a.2.1 a.2.2 a.1.1.toInt.toNat) (costM A' a.1.1.toInt.toNat) c))), (0, false, .ref 343), (1, false, .int (Int32.ofNat a.2.1)), (2, false, .int a.2.2)] lg ∧ vs = [] ∧ laQ a.1 A A' ∧ c ≤ 2 ^ a.1.1.toInt.toNat
set_option maxRecDepth 20000 in
set_option maxHeartbeats 16000000 in
theorem zc_X12_leastCut : zdo r_X12_leastCut zq_leastM := by
  refine zdo_of _ _ _ [(924, 1, zq_lay8), (1014, 4, zq_isCut), (897, 2, zq_weightOf), (679, 1, zq_countBits)] (fun a A => [(10, in_lm a A)]) 100 fo_X12 rfl (zs_cons rfl zc_X12_lay (zs_cons rfl zc_X12_isCut (zs_cons rfl za_X12_weightOf (zs_cons rfl za_X12_countBits zs_nil)))) k_X12_leastCut (fun a A hp => ?_) (fun a A hp => ?_)
  · obtain ⟨⟨n, t, k⟩, s, way⟩ := a
    obtain ⟨hla, hs6, hmw⟩ := hp
    have n0 : 0 ≤ n.toInt := hla.1.2.1
    have n1 : n.toInt ≤ 12 := hla.1.2.2
    have h2n := n32_n n0 n1
    have hm := p2_le n.toInt.toNat (by omega)
    refine List.forall_mem_cons.mpr ⟨?_, fun _ h => absurd h List.not_mem_nil⟩
    rintro lg vs A' ⟨c, hs, rfl, hQ, hc⟩
    have hc : c ≤ 2 ^ n.toInt.toNat := hc
    have hQ : laQ (n, t, k) A A' := hQ
    obtain ⟨g, ⟨⟨r8, -, -⟩, hs0, ⟨r15, r16⟩, -⟩, hLw, h20⟩ := id hQ
    have r8 : zF A' 343 8 = .int n := r8
    have h20 : zF A' 343 20 = .int (Int32.ofNat (vwN (mvP A' t k) n.toInt.toNat)) := h20
    have hmw' : mwr A' n.toInt.toNat := mwr_ag g hmw
    obtain ⟨V, eV⟩ : ∃ V, V = vwN (mvP A' t k) n.toInt.toNat := ⟨_, rfl⟩
    have hVn : V < 2 ^ n.toInt.toNat := by rw [eV]; exact vwN_lt
    rw [← eV] at h20
    obtain ⟨p, ep⟩ : ∃ p : Nat → Bool, p = fun S => icN A' V S s way n.toInt.toNat := ⟨_, rfl⟩
    have tc : (Int32.ofNat c).toInt = (c : Int) := Int32.toInt_ofNat_of_lt (by omega)
    have eq1 : some (false, Value.int (Int32.ofNat c + Int32.ofInt 1)) = some (false, .int (Int32.ofNat (c + 1))) := by rw [n32_s (by omega)]
    have hs : f_sub [(4, false, .int (Int32.ofNat c)), (3, false, .int (encM (lstF p (costM A' n.toInt.toNat) c))), (0, false, .ref 343), (1, false, .int (Int32.ofNat s)), (2, false, .int way)] lg := by
      rw [ep, eV]
      exact hs
    have nxt : ∀ (L : fL_) (v : Int32), v = encM (lstF p (costM A' n.toInt.toNat) (c + 1)) → c + 1 ≤ 2 ^ n.toInt.toNat → f_sub [(4, false, .int (Int32.ofNat (c + 1))), (3, false, .int v), (0, false, .ref 343), (1, false, .int (Int32.ofNat s)), (2, false, .int way)] L → in_lm ((n, t, k), s, way) A L [] A' := fun L v hv hle hL => by
      refine ⟨c + 1, ?_, rfl, hQ, hle⟩
      rw [hv, ep, eV] at hL
      exact hL
    refine ⟨_, 100, hs, fun h => ?_, fun h => ?_⟩
    · have h : (Int32.ofInt 1 <<< (iv (zF A' 343 8) &&& 31)).toInt ≤ (Int32.ofNat c).toInt := h
      rw [r8] at h
      have h : (Int32.ofInt 1 <<< (n &&& 31)).toInt ≤ (Int32.ofNat c).toInt := h
      rw [h2n, tc] at h
      refine ⟨hQ, ?_⟩
      show some (Value.int (encM (lstF p (costM A' n.toInt.toNat) c))) = some (.int (encM (lstF (fun S => icN A' (vwN (mvP A' t k) n.toInt.toNat) S s way n.toInt.toNat) (costM A' n.toInt.toNat) (2 ^ n.toInt.toNat))))
      rw [show c = 2 ^ n.toInt.toNat by omega, ep, eV]
    · have h : ¬ (Int32.ofInt 1 <<< (iv (zF A' 343 8) &&& 31)).toInt ≤ (Int32.ofNat c).toInt := h
      rw [r8] at h
      have h : ¬ (Int32.ofInt 1 <<< (n &&& 31)).toInt ≤ (Int32.ofNat c).toInt := h
      rw [h2n, tc] at h
      have hc4 : c < 4096 := by omega
      have le1 : c + 1 ≤ 2 ^ n.toInt.toNat := by omega
      have wle : ∀ S : Nat, 0 ≤ (zmw A' (Int32.ofNat S) n.toInt.toNat).toInt ∧ (zmw A' (Int32.ofNat S) n.toInt.toNat).toInt ≤ 108 := fun S => by
        obtain ⟨a, b⟩ := zmw_le (A := A') (set := Int32.ofNat S) (n := n.toInt.toNat) (by omega) hmw'
        omega
      refine ⟨((c, n, V), s, way), rfl, ⟨⟨r8, n0, n1⟩, ⟨h20, hVn⟩, hc4, hs6⟩, fun h2 => ?_, fun h2 => ?_⟩
      · have h2 : (zb (icN A' V c s way n.toInt.toNat)).toInt = 0 := h2
        have h2 := zb_f h2
        refine nxt _ (encM (lstF p (costM A' n.toInt.toNat) c)) ?_ le1 ⟨eq1, rfl, rfl, rfl, rfl, trivial⟩
        have hp : ¬ p c = true := by
          rw [ep]
          show ¬ icN A' V c s way n.toInt.toNat = true
          rw [h2]
          exact Bool.false_ne_true
        show _ = encM (if p c = true then _ else lstF p (costM A' n.toInt.toNat) c)
        rw [if_neg hp]
      · have h2 : ¬ (zb (icN A' V c s way n.toInt.toNat)).toInt = 0 := h2
        have h2 := zb_t h2
        have hp : p c = true := by
          rw [ep]
          exact h2
        have eH := lstF_hit (c := costM A' n.toInt.toNat) hp
        rcases onS (lstF p (costM A' n.toInt.toNat) c) with hb | ⟨b, hb⟩
        · rw [hb] at eH
          have eH : lstF p (costM A' n.toInt.toNat) (c + 1) = some c := eH
          have e9 : (encM none).toInt = -9 := by decide
          have take : Int32.ofNat c = encM (lstF p (costM A' n.toInt.toNat) (c + 1)) := by rw [eH]; rfl
          refine ⟨fun h3 => ?_, fun h3 => ⟨fun h4 => nxt _ (Int32.ofNat c) take le1 ⟨eq1, rfl, rfl, rfl, rfl, trivial⟩, fun h4 => ?_⟩⟩
          · have h3 : 0 ≤ (encM (lstF p (costM A' n.toInt.toNat) c)).toInt := h3
            rw [hb, e9] at h3
            omega
          · have h4 : ¬ (Int32.ofInt (-1)).toInt < 0 := h4
            exact absurd (by decide) h4
        · rw [hb] at eH
          have eH : lstF p (costM A' n.toInt.toNat) (c + 1) = if costM A' n.toInt.toNat c < costM A' n.toInt.toNat b then some c else some b := eH
          have hbl : b < c := by
            have := (lstF_eq (p := p) (p' := p) (c := costM A' n.toInt.toNat) (c' := costM A' n.toInt.toNat) (n := c) (fun _ _ => rfl) (fun _ _ _ _ _ _ => Iff.rfl)).2 b hb
            exact this.1
          have tb := n32_t (show b < 4096 by omega)
          have eL : encM (lstF p (costM A' n.toInt.toNat) c) = Int32.ofNat b := by rw [hb]; rfl
          obtain ⟨wc0, wc1⟩ := wle c
          obtain ⟨wb0, wb1⟩ := wle b
          have pc := pcN_le (k := 12) (n := c)
          have pb := pcN_le (k := 12) (n := b)
          have cc : (cbA (Int32.ofNat c).toInt64 64).toInt = (pcN 12 c : Nat) := by rw [← ic_cb hc4, icV_ok hc4]
          have cb : (cbA (Int32.ofNat b).toInt64 64).toInt = (pcN 12 b : Nat) := by rw [← ic_cb (by omega), icV_ok (by omega)]
          have ed : (zmw A' (Int32.ofNat c) n.toInt.toNat - zmw A' (Int32.ofNat b) n.toInt.toNat).toInt = (zmw A' (Int32.ofNat c) n.toInt.toNat).toInt - (zmw A' (Int32.ofNat b) n.toInt.toNat).toInt := by
            rw [Int32.toInt_sub]
            exact Int.bmod_eq_of_le (by omega) (by omega)
          have eCc : costM A' n.toInt.toNat c = (zmw A' (Int32.ofNat c) n.toInt.toNat).toInt * 16 + ((pcN 12 c : Nat) : Int) := rfl
          have eCb : costM A' n.toInt.toNat b = (zmw A' (Int32.ofNat b) n.toInt.toNat).toInt * 16 + ((pcN 12 b : Nat) : Int) := rfl
          have take : costM A' n.toInt.toNat c < costM A' n.toInt.toNat b → Int32.ofNat c = encM (lstF p (costM A' n.toInt.toNat) (c + 1)) := fun z => by
            rw [eH, if_pos z]
            rfl
          have stay : ¬ costM A' n.toInt.toNat c < costM A' n.toInt.toNat b → encM (lstF p (costM A' n.toInt.toNat) c) = encM (lstF p (costM A' n.toInt.toNat) (c + 1)) := fun z => by
            rw [eH, if_neg z, eL]
            rfl
          refine ⟨fun h3 => ?_, fun h3 => ?_⟩
          · refine ⟨(Int32.ofNat c, n), rfl, ⟨r8, n0, n1⟩, ?_⟩
            refine ⟨(encM (lstF p (costM A' n.toInt.toNat) c), n), rfl, ⟨r8, n0, n1⟩, fun h4 => ?_, fun h4 => ⟨fun h5 => ?_, fun h5 => ?_⟩⟩
            · have h4 : (zmw A' (Int32.ofNat c) n.toInt.toNat - zmw A' (encM (lstF p (costM A' n.toInt.toNat) c)) n.toInt.toNat).toInt < 0 := h4
              rw [eL, ed] at h4
              exact nxt _ (Int32.ofNat c) (take (by omega)) le1 ⟨eq1, rfl, rfl, rfl, rfl, trivial⟩
            · have h4 : ¬ (zmw A' (Int32.ofNat c) n.toInt.toNat - zmw A' (encM (lstF p (costM A' n.toInt.toNat) c)) n.toInt.toNat).toInt < 0 := h4
              have h5 : ¬ (zmw A' (Int32.ofNat c) n.toInt.toNat - zmw A' (encM (lstF p (costM A' n.toInt.toNat) c)) n.toInt.toNat).toInt = 0 := h5
              rw [eL, ed] at h4 h5
              exact nxt _ _ (stay (by omega)) le1 ⟨eq1, rfl, rfl, rfl, rfl, trivial⟩
            · have h5 : ¬ ¬ (zmw A' (Int32.ofNat c) n.toInt.toNat - zmw A' (encM (lstF p (costM A' n.toInt.toNat) c)) n.toInt.toNat).toInt = 0 := h5
              rw [eL, ed] at h5
              refine ⟨(Int32.ofNat c).toInt64, rfl, trivial, ?_⟩
              refine ⟨(encM (lstF p (costM A' n.toInt.toNat) c)).toInt64, rfl, trivial, fun h6 => ?_, fun h6 => ?_⟩
              · have h6 : (cbA (encM (lstF p (costM A' n.toInt.toNat) c)).toInt64 64).toInt ≤ (cbA (Int32.ofNat c).toInt64 64).toInt := h6
                rw [eL, cb, cc] at h6
                exact nxt _ _ (stay (by omega)) le1 ⟨eq1, rfl, rfl, rfl, rfl, trivial⟩
              · have h6 : ¬ (cbA (encM (lstF p (costM A' n.toInt.toNat) c)).toInt64 64).toInt ≤ (cbA (Int32.ofNat c).toInt64 64).toInt := h6
                rw [eL, cb, cc] at h6
                exact nxt _ (Int32.ofNat c) (take (by omega)) le1 ⟨eq1, rfl, rfl, rfl, rfl, trivial⟩
          · have h3 : ¬ 0 ≤ (encM (lstF p (costM A' n.toInt.toNat) c)).toInt := h3
            rw [eL, tb] at h3
            omega
  · obtain ⟨⟨n, t, k⟩, s, way⟩ := a
    obtain ⟨hla, hs6, hmw⟩ := hp
    refine ⟨(n, t, k), rfl, hla, ?_⟩
    rintro rv A' ⟨rfl, hQ⟩
    exact ⟨0, ⟨rfl, rfl, rfl, rfl, rfl, trivial⟩, rfl, hQ, Nat.zero_le _⟩
/-! what is given up -/
def zgF (A : zW) (set k : Int32) : Nat → zW
  | 0 => A
  | e + 1 => zuI (zgF A set k e) 353 e (if zbi set e = true then k else zI A 353 e)
theorem zgF_k {A : zW} {set k : Int32} : ∀ {e : Nat}, (∀ x, zI (zgF A set k e) 353 x = if x < e ∧ zbi set x = true then k else zI A 353 x) ∧ (∀ q x, q ≠ 353 → zI (zgF A set k e) q x = zI A q x) ∧ (∀ q x, zF (zgF A set k e) q x = zF A q x) ∧ (∀ q x, zR (zgF A set k e) q x = zR A q x) ∧ (∀ q x, zJ (zgF A set k e) q x = zJ A q x) ∧ (∀ q, zK (zgF A set k e) q = zK A q) ∧ zN (zgF A set k e) = zN A
  | 0 => ⟨fun x => (if_neg (fun z => absurd z.1 (Nat.not_lt_zero x))).symm, fun _ _ _ => rfl, fun _ _ => rfl, fun _ _ => rfl, fun _ _ => rfl, fun _ => rfl, rfl⟩
  | e + 1 => by
    obtain ⟨a1, a2, a3, a4, a5, a6, a7⟩ := zgF_k (A := A) (set := set) (k := k) (e := e)
    refine ⟨fun x => ?_, fun q x hq => (zuI_ne hq).trans (a2 q x hq), a3, a4, a5, a6, a7⟩
    show zI (zuI (zgF A set k e) 353 e (if zbi set e = true then k else zI A 353 e)) 353 x = _
    rw [zuI_x]
    by_cases c : x = e
    · subst c
      rw [if_pos ⟨rfl, rfl⟩]
      by_cases d : zbi set x = true
      · rw [if_pos d, if_pos ⟨Nat.lt_succ_self x, d⟩]
      · rw [if_neg d, if_neg (fun z => d z.2)]
    · rw [if_neg (fun z => c z.2), a1]
      by_cases d : x < e ∧ zbi set x = true
      · rw [if_pos d, if_pos ⟨by omega, d.2⟩]
      · rw [if_neg d, if_neg (fun z => d ⟨by omega, z.2⟩)]
def zq_giveAll8 : zQ := zfu (fun a : Int32 × Int32 × Int32 => [.ref 343, .int a.1]) (fun a A => (zF A 343 8 = .int a.2.1 ∧ 0 ≤ a.2.1.toInt ∧ a.2.1.toInt ≤ 12) ∧ zF A 343 16 = .int a.2.2) (fun _ _ => none) (fun a A => zov (zgF A a.1 a.2.2 a.2.1.toInt.toNat))
def in_ga (A : zW) (set n k : Int32) : fL_ → List Value → zW → Prop := fun lg vs A' => ∃ e : Nat, f_sub [(2, false, .int (Int32.ofNat e)), (0, false, .ref 343), (1, false, .int set)] lg ∧ vs = [] ∧ A' = zgF A set k e ∧ (e : Int) ≤ n.toInt
set_option maxRecDepth 20000 in
set_option maxHeartbeats 8000000 in
theorem zc_X12_giveAll : zdo r_X12_giveAll zq_giveAll8 := by
  refine zdo_fu [(475, 2, zq_hasBit), (741, 1, zq_otherView)] (fun a A => [(2, in_ga A a.1 a.2.1 a.2.2)]) 80 fo_X12 rfl (zs_cons rfl za_X12_hasBit (zs_cons rfl za_X12_otherView zs_nil)) k_X12_giveAll (fun a A hp => ?_) (fun a A hp => ?_)
  · obtain ⟨set, n, k⟩ := a
    obtain ⟨⟨hn, n0, n1⟩, hk⟩ := hp
    have hn : zF A 343 8 = .int n := hn
    have n0 : 0 ≤ n.toInt := n0
    have n1 : n.toInt ≤ 12 := n1
    have hk : zF A 343 16 = .int k := hk
    refine List.forall_mem_cons.mpr ⟨?_, fun _ h => absurd h List.not_mem_nil⟩
    rintro lg vs A' ⟨e, hs, rfl, eA, he⟩
    have he : (e : Int) ≤ n.toInt := he
    have te := n32_t (show e < 4096 by omega)
    have ec := n32_c (show e < 4096 by omega)
    have eq1 : some (false, Value.int (Int32.ofNat e + Int32.ofInt 1)) = some (false, .int (Int32.ofNat (e + 1))) := by rw [n32_s (by omega)]
    obtain ⟨k1, k2, k3, -⟩ := zgF_k (A := A) (set := set) (k := k) (e := e)
    rw [← eA] at k1 k2 k3
    have hn' : zF A' 343 8 = .int n := (k3 343 8).trans hn
    have hk' : zF A' 343 16 = .int k := (k3 343 16).trans hk
    have h0 : zI A' 353 e = zI A 353 e := by
      rw [k1, if_neg (fun z => absurd z.1 (Nat.lt_irrefl e))]
    refine ⟨_, 80, hs, fun h => ?_, fun h => ?_⟩
    · have h : (iv (zF A' 343 8)).toInt ≤ (Int32.ofNat e).toInt := h
      rw [hn', te] at h
      have h : n.toInt ≤ (e : Int) := h
      refine ⟨(), rfl, trivial, rfl, ?_⟩
      show zov A' = zov (zgF A set k n.toInt.toNat)
      rw [eA, show n.toInt.toNat = e by omega]
    · have h : ¬ (iv (zF A' 343 8)).toInt ≤ (Int32.ofNat e).toInt := h
      rw [hn', te] at h
      have h : ¬ n.toInt ≤ (e : Int) := h
      have le1 : ((e + 1 : Nat) : Int) ≤ n.toInt := by omega
      refine ⟨(set.toInt64, Int32.ofNat e), rfl, trivial, fun h2 => ?_, fun h2 => ?_⟩
      · have h2 : (zb (hbB set.toInt64 (Int32.ofNat e))).toInt = 0 := h2
        have h2 := zb_f h2
        rw [zbt_m (by omega)] at h2
        refine ⟨e + 1, ⟨eq1, rfl, rfl, trivial⟩, rfl, ?_, le1⟩
        show zuI A' 353 (Int32.ofNat e).toNatClampNeg (zI A' 353 (Int32.ofNat e).toNatClampNeg) = zuI (zgF A set k e) 353 e (if zbi set e = true then k else zI A 353 e)
        rw [ec, h0, eA, if_neg (by rw [h2]; exact Bool.false_ne_true)]
      · have h2 : ¬ (zb (hbB set.toInt64 (Int32.ofNat e))).toInt = 0 := h2
        have h2 := zb_t h2
        rw [zbt_m (by omega)] at h2
        refine ⟨e + 1, ⟨eq1, rfl, rfl, trivial⟩, rfl, ?_, le1⟩
        show zuI A' 353 (Int32.ofNat e).toNatClampNeg (iv (zF A' 343 16)) = zuI (zgF A set k e) 353 e (if zbi set e = true then k else zI A 353 e)
        rw [ec, hk', eA, if_pos h2]
        rfl
  · obtain ⟨set, n, k⟩ := a
    obtain ⟨⟨hn, n0, n1⟩, hk⟩ := hp
    exact ⟨0, ⟨rfl, rfl, rfl, trivial⟩, rfl, rfl, n0⟩
end
section
/-! what both sides hold alike, with what follows of it: worlds of entries, what is given up, what is laid out -/
/-- a world's bit of an entry's sentence -/
def seb (A : zW) (w e : Nat) : Bool := (sew A e (w / 64)).toBitVec.getLsbD (w % 64)
def trN (A : zW) (n : Nat) (w : Nat) : Nat := vwN (seb A w) n
def jM (A : zW) (n : Int32) : Prop := ∀ w, w < 256 → zI A 196 w = Int32.ofNat (trN A n.toInt.toNat w)
def jS (A : zW) (n c : Int32) : Prop := ∀ e : Nat, (e : Int) < n.toInt → 0 ≤ (zI A 348 e).toInt ∧ (zI A 348 e).toInt < c.toInt
def jG (A : zW) (n : Int32) : Prop := ∀ e : Nat, (e : Int) < n.toInt → (∃ j : Nat, zR A 195 e = .ref j ∧ (385 ≤ j ∧ j < zN A ∧ zK A j = (4, 7)) ∧ zF A j 6 = .int (zI A 353 e)) ∧ ((zI A 353 e).toInt = -9 ∨ 0 ≤ (zI A 353 e).toInt)
def jTr (A : zW) : Prop := ∀ i, i < 6 → 1 ≤ (zI A 345 i).toInt ∧ (zI A 345 i).toInt ≤ 9
/-- the part that isn't laid out -/
def jyb (A : zW) (n t k c : Int32) : Prop := ((zF A 343 8 = .int n ∧ 0 ≤ n.toInt ∧ n.toInt ≤ 12) ∧ zF A 343 15 = .int t ∧ zF A 343 16 = .int k ∧ zF A 343 1 = .int c) ∧ (0 ≤ k.toInt ∧ c.toInt ≤ 60) ∧ jS A n c ∧ jM A n ∧ jG A n
def jyy (A : zW) (n t k c : Int32) : Prop := jyb A n t k c ∧ jTr A ∧ jLay A n t k
def jy (A : zW) : Prop := ∃ n t k c : Int32, jyy A n t k c
/-- alike in all that this speaks of -/
theorem seb_b {A A' : zW} (g : agj S_B A' A) (w : Nat) : seb A' w = seb A w := funext (fun e => by
  unfold seb
  rw [sew_b g])
theorem jLay.ag {A A' : zW} {n t k : Int32} (h : jLay A n t k) (g : agj S_8 A' A) : jLay A' n t k := by
  have gB := g.sub sB_8
  have F : ∀ q i, q < 385 → (zn lp_sh q, i) ∈ S_8 → zF A' q i = zF A q i := g.1.1
  have eJ : zJ A' 354 = zJ A 354 := funext (fun i => g.2 354 i (by decide) (by decide +kernel))
  obtain ⟨⟨l, h1, h2⟩, v, h3, h4⟩ := h
  refine ⟨⟨l, (F 343 17 (by decide) (by decide +kernel)).trans h1, fun z => ?_⟩, v, (F 343 19 (by decide) (by decide +kernel)).trans h3, fun z => ?_⟩
  · rw [eJ]
    exact lwOK_b gB (h2 z)
  · rw [mvP_b gB]
    exact (F 343 20 (by decide) (by decide +kernel)).trans (h4 z)
theorem jG.ag {A A' : zW} {n : Int32} (h : jG A n) (g : agj S_B A' A) : jG A' n := fun e he => by
  obtain ⟨⟨j, b0, ⟨b1, b2, b3⟩, b4⟩, h2⟩ := h e he
  obtain ⟨d1, d2⟩ := g.1.2.2.2 j 4 7 b1 b2 b3
  have hN := g.1.2.2.1
  rw [(g.1.2.1 195 e (by decide) (by decide +kernel)).2, (g.1.2.1 353 e (by decide) (by decide +kernel)).1]
  exact ⟨⟨j, b0, ⟨b1, by omega, d1⟩, (d2 6 (by decide)).trans b4⟩, h2⟩
theorem jyb.ag {A A' : zW} {n t k c : Int32} (h : jyb A n t k c) (g : agj S_B A' A) : jyb A' n t k c := by
  obtain ⟨⟨⟨a1, a0⟩, a2, a3, a4⟩, b, hs, hm, hg⟩ := h
  have F : ∀ q i, q < 385 → (zn lp_sh q, i) ∈ S_B → zF A' q i = zF A q i := g.1.1
  refine ⟨⟨⟨(F 343 8 (by decide) (by decide +kernel)).trans a1, a0⟩, (F 343 15 (by decide) (by decide +kernel)).trans a2, (F 343 16 (by decide) (by decide +kernel)).trans a3, (F 343 1 (by decide) (by decide +kernel)).trans a4⟩, b, fun e he => ?_, fun w hw => ?_, hg.ag g⟩
  · rw [ses_b g]
    exact hs e he
  · unfold trN
    rw [seb_b g, (g.1.2.1 196 w (by decide) (by decide +kernel)).1]
    exact hm w hw
theorem jTr.ag {A A' : zW} (h : jTr A) (g : agj S_8 A' A) : jTr A' := fun i hi => by
  rw [(g.1.2.1 345 i (by decide) (by decide +kernel)).1]
  exact h i hi
theorem jy_ag (A A' : zW) (h : jy A) (g : agj S_8 A' A) : jy A' := by
  obtain ⟨n, t, k, c, h1, h2, h3⟩ := h
  exact ⟨n, t, k, c, h1.ag (g.sub sB_8), h2.ag g, h3.ag g⟩
def j8 (w : lW) : Prop := ∃ A, zA A w.1 w.2 ∧ jy A
def J8 (B : Nat → Nat) : lW → Prop := fun w => J7 B w ∧ j8 w
section
variable {B : Nat → Nat} {rt : Nat} {Wr : List (Nat × Nat)} {T : fT} {cc : ByteArray} {As : List Value} {w w' : lW} {rv : Option Value}
theorem kp8 (h : fLr (fq cw_TT cw_SG rt Wr T cc) As w rv w') (hJ : j8 w) (hk : bs_K.all (fun x => !(Wr.contains x)) = true) (hw : nW S_8 Wr = true) : j8 w' := by
  obtain ⟨A, hA, hj⟩ := hJ
  obtain ⟨X, hN, hA'⟩ := z_fr h hA hk
  exact ⟨_, hA', jy_ag _ _ hj (agj.hv hw hN)⟩
/-- a method of the reference that keeps it -/
theorem kq8 {r : fR} {tags : List Nat} {s : List Value} (hr : zdo r (zkq (345 :: tags) rt jy)) (h : fLr r (.ref (B 343) :: s) w rv w') (hb : bI B w) (hJ : j8 w) (hs : zvs w.1 s s) (ht : kts tags s) : j8 w' := by
  obtain ⟨A, hA, hj⟩ := hJ
  obtain ⟨A', u, hA', -, hK⟩ := zrun hr h hA (zargs hb (by decide) hs) (K := fun _ A' => jy A') ⟨⟨rfl, ht⟩, hj, fun _ _ _ h => h⟩
  exact ⟨A', hA', hK⟩
end
/-! one world by places only, in what this speaks of -/
theorem zu_I {A A' : zW} {ws : va_W} {sh : List Nat} (h : zA A ws sh) (h' : zA A' ws sh) {q p n : Nat} {cA : ClassId} {f : Nat → Int32} (hq : ws[q]? = some (p, .inl (cA, n, .inl f))) (i : Nat) : zI A' q i = zI A q i := by
  have h1 := (h.2.2 q p _ hq).2.2 i
  have h2 := (h'.2.2 q p _ hq).2.2 i
  exact h2.trans h1.symm
theorem zu_J {A A' : zW} {ws : va_W} {sh : List Nat} (h : zA A ws sh) (h' : zA A' ws sh) {q p n : Nat} {cA : ClassId} {f : Nat → Int64} (hq : ws[q]? = some (p, .inl (cA, n, .inr (.inl f)))) (i : Nat) : zJ A' q i = zJ A q i := by
  have h1 := (h.2.2 q p _ hq).2.2 i
  have h2 := (h'.2.2 q p _ hq).2.2 i
  exact h2.trans h1.symm
theorem zvr_uni {ws : va_W} (hd : f_dj ws) {v u u' : Value} (h : zvr ws v u) (h' : zvr ws v u') : u' = u := by
  cases v with
  | ref p =>
    obtain ⟨j, e, rfl, h1⟩ := h.ref
    obtain ⟨j', e', rfl, h2⟩ := h'.ref
    rw [hd j' j _ _ h2 h1 rfl]
  | _ =>
    cases u with
    | ref j =>
      obtain ⟨p, e, h1, -⟩ := h
      cases h1
    | _ =>
      cases u' with
      | ref j =>
        obtain ⟨p, e, h1, -⟩ := h'
        cases h1
      | _ =>
        have h1 : _ = _ := h
        have h2 : _ = _ := h'
        exact h2.symm.trans h1
theorem zu_F {A A' : zW} {ws : va_W} {sh : List Nat} (h : zA A ws sh) (h' : zA A' ws sh) {q p k : Nat} {o : Nat × List Value} (hq : ws[q]? = some (p, .inr o)) (hk : k < o.2.length) (hz : zc q k = 0) : zF A' q k = zF A q k := by
  have h1 := (h.2.2 q p _ hq).2.2 k _ (List.getElem?_eq_getElem hk)
  have h2 := (h'.2.2 q p _ hq).2.2 k _ (List.getElem?_eq_getElem hk)
  have e1 : zfl A q k = zF A q k := zcr_z hz
  have e2 : zfl A' q k = zF A' q k := zcr_z hz
  rw [e1] at h1
  rw [e2] at h2
  exact zvr_uni h.1 h1 h2
theorem zu_R {A A' : zW} {ws : va_W} {sh : List Nat} (h : zA A ws sh) (h' : zA A' ws sh) {q p n i : Nat} {cA : ClassId} {f : Nat → Option Nat} (hq : ws[q]? = some (p, .inl (cA, n, .inr (.inr (.inr (.inr f)))))) (hi : i < n) (hz : zc q i = 0) : zR A' q i = zR A q i := by
  have h1 := (h.2.2 q p _ hq).2.2 i hi
  have h2 := (h'.2.2 q p _ hq).2.2 i hi
  have e1 : zrl A q i = zR A q i := zcr_z hz
  have e2 : zrl A' q i = zR A' q i := zcr_z hz
  rw [e1] at h1
  rw [e2] at h2
  exact zvr_uni h.1 h1 h2
theorem zu_K {A A' : zW} {ws : va_W} {sh : List Nat} (h : zA A ws sh) (h' : zA A' ws sh) {j : Nat} (h1 : 385 ≤ j) (h2 : j < zN A) : zK A' j = zK A j := by
  have hlt : j < ws.length := by
    have := h.2.1.2.1
    omega
  obtain ⟨⟨p, e⟩, hj⟩ : ∃ x, ws[j]? = some x := ⟨_, List.getElem?_eq_getElem hlt⟩
  obtain ⟨a1, a2⟩ := h.2.2 j p e hj
  obtain ⟨b1, b2⟩ := h'.2.2 j p e hj
  have t1 : zty A j = zty A' j := Option.some.inj (a1.symm.trans b1)
  have t2 : zkd A j = zkd A' j := by
    cases e with
    | inl x => exact a2.1.trans b2.1.symm
    | inr o => exact a2.1.trans b2.1.symm
  rw [zkd_d h1, zkd_d h1] at t2
  unfold zty at t1
  rw [nltF h1] at t1
  have t1 : (zK A j).2 = (zK A' j).2 := t1
  exact (Prod.ext t2 t1).symm
/-- a later object's kind of cell -/
theorem zu_D {A A' : zW} {tys : List (ClassId × FieldType)} {ws : va_W} {sh : List Nat} (h : zA A ws sh) (h' : zA A' ws sh) (hw : ck_wo tys cw_TT cw_SG ws sh) {j : Nat} (h1 : 385 ≤ j) (h2 : j < zN A) (hK : zK A j = (4, 7)) : zF A' j 6 = zF A j 6 := by
  have hlt : j < ws.length := by
    have := h.2.1.2.1
    omega
  obtain ⟨⟨p, e⟩, hj⟩ : ∃ x, ws[j]? = some x := ⟨_, List.getElem?_eq_getElem hlt⟩
  obtain ⟨a1, -⟩ := h.2.2 j p e hj
  have et : zty A j = 7 := by
    unfold zty
    rw [nltF h1]
    show (zK A j).2 = 7
    rw [hK]
  rw [et] at a1
  obtain ⟨td, d1, d2⟩ := hw.2.1 j p e 7 hj a1
  have d1 : cw_TT[7]? = some td := d1
  have e1 : td = (0, 4, 0, _) := Option.some.inj (d1.symm.trans rfl)
  subst e1
  obtain ⟨vs, rfl, hl, -⟩ := d2
  exact zu_F h h' hj (show 6 < vs.length by rw [hl]; decide) (zc_d h1)
section
variable {B : Nat → Nat} {w : lW} {A A' : zW} {tys : List (ClassId × FieldType)}
theorem zu_at (hb : bI B w) {q : Nat} {c : mk_C} (hc : lp_L2[q]? = some c) {e : va_E} (he : hof w.1 (B q) = some e) : w.1[q]? = some (B q, e) := by
  obtain ⟨e', h1, h2, -⟩ := hb.2.h hb.1 hc
  rw [he] at h2
  rw [h1, Option.some.inj h2]
theorem zu_I' (hb : bI B w) (hw : ck_wo tys cw_TT cw_SG w.1 w.2) (h : zA A w.1 w.2) (h' : zA A' w.1 w.2) {q t n k0 : Nat} {c : mk_C} {l : List ck_T} (hc : lp_L2[q]? = some c) (ht : lp_sh[q]? = some t) (hT : cw_TT[t]? = some (1, n, k0, l)) (i : Nat) : zI A' q i = zI A q i := by
  obtain ⟨cA, f, hf⟩ := hb.2.iv hb.1 hw hc ht hT
  exact zu_I h h' (zu_at hb hc hf) i
theorem zu_J' (hb : bI B w) (hw : ck_wo tys cw_TT cw_SG w.1 w.2) (h : zA A w.1 w.2) (h' : zA A' w.1 w.2) {q t n k0 : Nat} {c : mk_C} {l : List ck_T} (hc : lp_L2[q]? = some c) (ht : lp_sh[q]? = some t) (hT : cw_TT[t]? = some (2, n, k0, l)) (i : Nat) : zJ A' q i = zJ A q i := by
  obtain ⟨e, h1, -⟩ := hb.2.2 q c hc
  obtain ⟨td, d1, d2⟩ := hw.2.1 q _ e t h1 (hb.2.1 q t ht)
  have e1 : td = _ := Option.some.inj (d1.symm.trans hT)
  subst e1
  obtain ⟨cA, f, -, rfl⟩ := d2
  exact zu_J h h' h1 i
theorem zu_F' (hb : bI B w) (hw : ck_wo tys cw_TT cw_SG w.1 w.2) (h : zA A w.1 w.2) (h' : zA A' w.1 w.2) {k : Nat} (hk : k < 68) (hz : zc 343 k = 0) : zF A' 343 k = zF A 343 k := by
  obtain ⟨fs, hp, hl⟩ := ln_343 hb hw
  exact zu_F h h' (zu_at hb bl_343 hp) (show k < fs.length by omega) hz
theorem zu_R' (hb : bI B w) (hw : ck_wo tys cw_TT cw_SG w.1 w.2) (h : zA A w.1 w.2) (h' : zA A' w.1 w.2) {e : Nat} (he : e < 12) : zR A' 195 e = zR A 195 e := by
  obtain ⟨c, hc⟩ := lp_L2_at (show 195 < 385 by decide)
  obtain ⟨e1, h1, -⟩ := hb.2.2 195 c hc
  obtain ⟨td, d1, d2⟩ := hw.2.1 195 _ e1 28 h1 (hb.2.1 195 28 (by decide +kernel))
  have d1 : cw_TT[28]? = some td := d1
  have e2 : td = (3, 12, 4, [(3, 0, 0, [7])]) := Option.some.inj (d1.symm.trans rfl)
  subst e2
  obtain ⟨cA, C, f, -, rfl, -⟩ := d2
  exact zu_R h h' h1 he zc195
theorem u_196 : lp_L2[196]? = some (1, 0, 256, []) := lp_at_ok (by decide +kernel)
theorem u_348 : lp_L2[348]? = some (1, 0, 12, []) := lp_at_ok (by decide +kernel)
theorem u_350 : lp_L2[350]? = some (1, 0, 12, []) := lp_at_ok (by decide +kernel)
theorem u_351 : lp_L2[351]? = some (1, 0, 12, []) := lp_at_ok (by decide +kernel)
theorem u_352 : lp_L2[352]? = some (1, 0, 12, []) := lp_at_ok (by decide +kernel)
theorem u_353 : lp_L2[353]? = some (1, 0, 12, []) := lp_at_ok (by decide +kernel)
/-- all of it on any of a world's pictures -/
theorem j8_on (hb : bI B w) (hw : ck_wo tys cw_TT cw_SG w.1 w.2) (h8 : j8 w) (hA' : zA A' w.1 w.2) : jy A' := by
  obtain ⟨A, hA, n, t, k, c, ⟨⟨⟨a1, n0, n1⟩, a2, a3, a4⟩, b, hs, hm, hg⟩, hr, ⟨l, l1, l2⟩, v, v1, v2⟩ := h8
  have n1 : n.toInt ≤ 12 := n1
  obtain ⟨c345, h345⟩ := lp_L2_at (show 345 < 385 by decide)
  obtain ⟨c344, h344⟩ := lp_L2_at (show 344 < 385 by decide)
  obtain ⟨c354, h354⟩ := lp_L2_at (show 354 < 385 by decide)
  have F : ∀ k, k < 68 → zc 343 k = 0 → zF A' 343 k = zF A 343 k := fun k hk hz => zu_F' hb hw hA hA' hk hz
  have i348 : ∀ i, zI A' 348 i = zI A 348 i := zu_I' hb hw hA hA' u_348 (t := 49) (by decide +kernel) (show cw_TT[49]? = some (1, 12, _, _) from rfl)
  have i350 : ∀ i, zI A' 350 i = zI A 350 i := zu_I' hb hw hA hA' u_350 (t := 51) (by decide +kernel) (show cw_TT[51]? = some (1, 12, _, _) from rfl)
  have i351 : ∀ i, zI A' 351 i = zI A 351 i := zu_I' hb hw hA hA' u_351 (t := 52) (by decide +kernel) (show cw_TT[52]? = some (1, 12, _, _) from rfl)
  have i352 : ∀ i, zI A' 352 i = zI A 352 i := zu_I' hb hw hA hA' u_352 (t := 53) (by decide +kernel) (show cw_TT[53]? = some (1, 12, _, _) from rfl)
  have i353 : ∀ i, zI A' 353 i = zI A 353 i := zu_I' hb hw hA hA' u_353 (t := 54) (by decide +kernel) (show cw_TT[54]? = some (1, 12, _, _) from rfl)
  have i196 : ∀ i, zI A' 196 i = zI A 196 i := zu_I' hb hw hA hA' u_196 (t := 29) (by decide +kernel) (show cw_TT[29]? = some (1, 256, _, _) from rfl)
  have i345 : ∀ i, zI A' 345 i = zI A 345 i := zu_I' hb hw hA hA' h345 (t := 46) (by decide +kernel) (show cw_TT[46]? = some (1, 6, _, _) from rfl)
  have j344 : ∀ i, zJ A' 344 i = zJ A 344 i := zu_J' hb hw hA hA' h344 (t := 45) (by decide +kernel) (show cw_TT[45]? = some (2, 240, _, _) from rfl)
  have j354 : zJ A' 354 = zJ A 354 := funext (zu_J' hb hw hA hA' h354 (t := 55) (by decide +kernel) (show cw_TT[55]? = some (2, 16384, _, _) from rfl))
  have r195 : ∀ e, e < 12 → zR A' 195 e = zR A 195 e := fun e he => zu_R' hb hw hA hA' he
  have esw : ∀ e q, sew A' e q = sew A e q := fun e q => by
    unfold sew ses
    rw [i348, j344]
  have elw : ∀ (f : Nat → Int64) (m : Nat), lwOK A f m → lwOK A' f m := fun f m h S hS q hq i hi => by
    rw [h S hS q hq i hi]
    constructor
    · intro z e he
      rw [esw]
      exact z e he
    · intro z e he
      rw [← esw]
      exact z e he
  have emv : mvP A' t k = mvP A t k := funext (fun e => by
    unfold mvP
    rw [i350, i351, i352, i353])
  have eN : zN A' = zN A := by rw [hA'.2.1.2.1, hA.2.1.2.1]
  refine ⟨n, t, k, c, ⟨⟨⟨(F 8 (by decide) (by decide +kernel)).trans a1, n0, n1⟩, (F 15 (by decide) (by decide +kernel)).trans a2, (F 16 (by decide) (by decide +kernel)).trans a3, (F 1 (by decide) (by decide +kernel)).trans a4⟩, b, fun e he => ?_, fun w hw => ?_, fun e he => ?_⟩, fun i hi => ?_, ⟨l, (F 17 (by decide) (by decide +kernel)).trans l1, fun z => ?_⟩, v, (F 19 (by decide) (by decide +kernel)).trans v1, fun z => ?_⟩
  · rw [i348]
    exact hs e he
  · have es : seb A' w = seb A w := funext (fun e => by
      unfold seb
      rw [esw])
    unfold trN
    rw [i196, es]
    exact hm w hw
  · obtain ⟨⟨j, b0, ⟨b1, b2, b3⟩, b4⟩, h2⟩ := hg e he
    rw [r195 e (by omega), i353]
    exact ⟨⟨j, b0, ⟨b1, by rw [eN]; exact b2, (zu_K hA hA' b1 b2).trans b3⟩, (zu_D hA hA' hw b1 b2 b3).trans b4⟩, h2⟩
  · rw [i345]
    exact hr i hi
  · rw [j354]
    exact elw _ _ (l2 z)
  · rw [emv]
    exact (F 20 (by decide) (by decide +kernel)).trans (v2 z)
end
/-! out of it: what lay and the cuts ask -/
theorem jy_la {A : zW} {n t k c : Int32} (h : jyy A n t k c) : laP (n, t, k) A := by
  obtain ⟨⟨⟨⟨a1, e1, e2⟩, a2, a3, a4⟩, ⟨b1, b2⟩, hs, -, -⟩, -, hl⟩ := h
  refine ⟨⟨a1, e1, e2⟩, fun e he => ?_, ⟨a2, a3⟩, hl⟩
  have := hs e (show (e : Int) < n.toInt by
    have he : e < n.toInt.toNat := he
    omega)
  omega
theorem laQ_jy {A A' : zW} {n t k c : Int32} (h : jyy A n t k c) (hq : laQ (n, t, k) A A') : jyy A' n t k c := by
  obtain ⟨g, hp, -⟩ := hq
  refine ⟨h.1.ag (g.sub sB_Y), fun i hi => ?_, hp.2.2.2⟩
  rw [(g.1.2.1 345 i (by decide) (by decide +kernel)).1]
  exact h.2.1 i hi
/-- lay keeps it -/
theorem lay_call (Us : List Value) (A : zW) (Kt : Option Value → zW → Prop) (h1 : kts [345] Us) (h2 : jy A) (h3 : ∀ (rv : Option Value) (A' : zW), kts [] rv.toList → jy A' → Kt rv A') : zq_lay8 Us A Kt := by
  obtain ⟨n, t, k, c, hy⟩ := h2
  have e : Us = [.ref 343] := by
    obtain ⟨u, s, rfl, a, b⟩ := kts1 h1
    cases s with
    | nil =>
      have a : u = .ref 343 := a
      rw [a]
    | cons _ _ => exact b.elim
  refine ⟨(n, t, k), e, jy_la hy, ?_⟩
  rintro rv A' ⟨rfl, hq⟩
  exact h3 none A' trivial ⟨n, t, k, c, laQ_jy hy hq⟩
/-! the two's least cuts are the same -/
/-- in view, on both sides -/
theorem jv_eq {A : zW} {n t k : Int32} (hE : jE A n) (hG : jG A n) : vwN (cvP A t k) n.toInt.toNat = vwN (mvP A t k) n.toInt.toNat := vwN_eq (fun e he => by
  obtain ⟨j, b0, -, -, -, -, c3, c4, c5, -⟩ := hE.2.2 e (by omega)
  obtain ⟨⟨j', b0', -, g1⟩, g2⟩ := hG e (by omega)
  have ej : j' = j := by
    rw [b0] at b0'
    injection b0' with z
    exact z.symm
  subst ej
  unfold cvP mvP
  rw [b0]
  show decide ((iv (zF A j' 3)).toInt ≤ t.toInt ∧ t.toInt ≤ (iv (zF A j' 4)).toInt ∧ (iv (zF A j' 5)).toInt ≤ k.toInt ∧ ((iv (zF A j' 6)).toInt = -9 ∨ k.toInt < (iv (zF A j' 6)).toInt)) = _
  rw [c3, c4, c5, g1]
  show decide ((zI A 350 e).toInt ≤ t.toInt ∧ t.toInt ≤ (zI A 351 e).toInt ∧ (zI A 352 e).toInt ≤ k.toInt ∧ ((zI A 353 e).toInt = -9 ∨ k.toInt < (zI A 353 e).toInt)) = _
  refine decide_eq_decide.mpr ?_
  constructor
  · rintro ⟨a, b, d, f⟩
    refine ⟨a, b, d, ?_⟩
    rcases f with f | f
    · exact Or.inl (by omega)
    · exact Or.inr f
  · rintro ⟨a, b, d, f⟩
    refine ⟨a, b, d, ?_⟩
    rcases f with f | f
    · rcases g2 with g2 | g2
      · exact Or.inl g2
      · omega
    · exact Or.inr f)
theorem trN_lt {A : zW} {n w : Nat} (hn : n < 13) : trN A n w < 4096 := Nat.lt_of_lt_of_le vwN_lt (p2_le n hn)
theorem jM_tr {A : zW} {n : Int32} (h : jM A n) (h0 : 0 ≤ n.toInt) (h1 : n.toInt ≤ 12) {w : Nat} (hw : w < 256) : ztw A w = trN A n.toInt.toNat w := by
  unfold ztw
  rw [h w hw, n32_t (trN_lt (by omega))]
  rfl
theorem jM_ti {A : zW} {n : Int32} (h : jM A n) (h0 : 0 ≤ n.toInt) (h1 : n.toInt ≤ 12) : zti A := fun w hw => by
  rw [jM_tr h h0 h1 hw]
  exact ⟨h w hw, trN_lt (by omega)⟩
/-- a world is out of a sentence, in a way -/
def outM (A : zW) (s : Nat) (way : Int32) (w : Nat) : Prop := ¬ (fwW A s way (w / 64)).toBitVec.getLsbD (w % 64) = true
theorem and0_b {x y : Int64} : x &&& (y ^^^ Int64.ofInt (-1)) = Int64.ofNat 0 ↔ ∀ i, i < 64 → x.toBitVec.getLsbD i = true → y.toBitVec.getLsbD i = true := by
  rw [l_zero]
  constructor
  · intro h i hi hx
    have h1 := h i hi
    rw [Int64.toBitVec_and, BitVec.getLsbD_and, Int64.toBitVec_xor, BitVec.getLsbD_xor, m1_64 i hi, hx, Bool.true_and, Bool.xor_true, Bool.not_eq_false'] at h1
    exact h1
  · intro h i hi
    rw [Int64.toBitVec_and, BitVec.getLsbD_and, Int64.toBitVec_xor, BitVec.getLsbD_xor, m1_64 i hi, Bool.xor_true]
    cases hx : x.toBitVec.getLsbD i with
    | false => rfl
    | true =>
      rw [h i hi hx]
      rfl
theorem flN_and {A : zW} {S s : Nat} {way : Int32} : ∀ {q : Nat}, flN A S s way q = true ↔ ∀ y, y < q → zJ A 354 (4 * S + y) &&& (fwW A s way y ^^^ Int64.ofInt (-1)) = Int64.ofNat 0
  | 0 => ⟨fun _ y hy => absurd hy (Nat.not_lt_zero y), fun _ => rfl⟩
  | q + 1 => by
    show (flN A S s way q && decide _) = true ↔ _
    rw [Bool.and_eq_true, flN_and, decide_eq_true_iff]
    constructor
    · rintro ⟨a, b⟩ y hy
      by_cases e : y = q
      · rw [e]
        exact b
      · exact a y (by omega)
    · intro a
      exact ⟨fun y hy => a y (by omega), a q (Nat.lt_succ_self q)⟩
/-- what the reference calls following -/
theorem flN_iff {A : zW} {S s n : Nat} {way : Int32} (hL : lwOK A (zJ A 354) (2 ^ n)) (hS : S < 2 ^ n) : flN A S s way 4 = true ↔ flS (outM A s way) (trN A n) (fun i => S.testBit i = true) := by
  have hlt : ∀ i, S.testBit i = true → i < n := fun i hi => by
    refine Nat.lt_of_not_le (fun c => ?_)
    rw [Nat.testBit_lt_two_pow (Nat.lt_of_lt_of_le hS (Nat.pow_le_pow_right (by decide) c))] at hi
    cases hi
  rw [flN_and]
  constructor
  · intro h w hw ho ha
    have h1 := and0_b.mp (h (w / 64) (by omega)) (w % 64) (by omega) ((hL S hS (w / 64) (by omega) (w % 64) (by omega)).mpr (fun e he => by
      have h2 := ha e he
      unfold trN at h2
      rw [vwN_b, Bool.and_eq_true] at h2
      exact h2.2))
    exact ho h1
  · intro h y hy
    refine and0_b.mpr (fun i hi hx => Classical.byContradiction (fun z => ?_))
    have h1 := (hL S hS y hy i hi).mp hx
    refine h (64 * y + i) (by omega) ?_ (fun e he => ?_)
    · unfold outM
      rw [show (64 * y + i) / 64 = y by omega, show (64 * y + i) % 64 = i by omega]
      exact z
    · unfold trN
      rw [vwN_b, decide_eq_true (hlt e he), Bool.true_and]
      unfold seb
      rw [show (64 * y + i) / 64 = y by omega, show (64 * y + i) % 64 = i by omega]
      exact h1 e he
/-- a cut of the reference is one -/
theorem icN_iff {A : zW} {V c s n : Nat} {way : Int32} (hL : lwOK A (zJ A 354) (2 ^ n)) (hV : V < 2 ^ n) (hc : c < 2 ^ n) : icN A V c s way n = true ↔ isC (outM A s way) (trN A n) V c := by
  have hd : dfN V c < 2 ^ n := Nat.lt_of_le_of_lt dfN_le hV
  have key : ∀ {e : Nat}, e ≤ n → (icN A V c s way e = true ↔ (subS c V ∧ ¬ flS (outM A s way) (trN A n) (fun i => V.testBit i = true ∧ ¬ c.testBit i = true)) ∧ ∀ i, i < e → c.testBit i = true → flS (outM A s way) (trN A n) (fun x => (V.testBit x = true ∧ ¬ c.testBit x = true) ∨ x = i)) := by
    intro e
    induction e with
    | zero =>
      intro _
      have e1 : (fun i => (dfN V c).testBit i = true) = (fun i => V.testBit i = true ∧ ¬ c.testBit i = true) := funext (fun i => propext (by
        rw [dfN_b, Bool.and_eq_true, Bool.not_eq_true', Bool.not_eq_true]))
      have e2 : dfN c V = 0 ↔ subS c V := by
        constructor
        · intro h i hi
          have h1 := congrArg (fun x => x.testBit i) h
          have h1 : (dfN c V).testBit i = (0 : Nat).testBit i := h1
          rw [dfN_b, Nat.zero_testBit, hi, Bool.true_and, Bool.not_eq_false'] at h1
          exact h1
        · intro h
          refine Nat.eq_of_testBit_eq (fun i => ?_)
          rw [dfN_b, Nat.zero_testBit]
          cases hi : c.testBit i with
          | false => rfl
          | true =>
            rw [h i hi]
            rfl
      show (decide (dfN c V = 0) && !(flN A (dfN V c) s way 4)) = true ↔ _
      rw [Bool.and_eq_true, decide_eq_true_iff, e2, Bool.not_eq_true', Bool.eq_false_iff, ne_eq, flN_iff hL hd, e1]
      exact ⟨fun h => ⟨h, fun i hi => absurd hi (Nat.not_lt_zero i)⟩, fun h => h.1⟩
    | succ e ih =>
      intro he
      have h2 : (2 : Nat) ^ e < 2 ^ n := Nat.pow_lt_pow_right (by decide) (by omega)
      have e1 : (fun i => (dfN V c ||| 2 ^ e).testBit i = true) = (fun x => (V.testBit x = true ∧ ¬ c.testBit x = true) ∨ x = e) := funext (fun i => propext (by
        rw [Nat.testBit_or, Bool.or_eq_true, dfN_b, Bool.and_eq_true, Bool.not_eq_true', Bool.not_eq_true, Nat.testBit_two_pow, decide_eq_true_iff]
        exact ⟨fun h => h.imp_right Eq.symm, fun h => h.imp_right Eq.symm⟩))
      show (icN A V c s way e && (!(c.testBit e) || flN A (dfN V c ||| 2 ^ e) s way 4)) = true ↔ _
      rw [Bool.and_eq_true, ih (by omega), Bool.or_eq_true, flN_iff hL (Nat.or_lt_two_pow hd h2), e1]
      constructor
      · rintro ⟨⟨a, b⟩, d⟩
        refine ⟨a, fun i hi hci => ?_⟩
        by_cases ei : i = e
        · subst ei
          rcases d with d | d
          · rw [hci] at d
            cases d
          · exact d
        · exact b i (by omega) hci
      · rintro ⟨a, b⟩
        refine ⟨⟨a, fun i hi => b i (by omega)⟩, ?_⟩
        cases hce : c.testBit e with
        | false => exact Or.inl rfl
        | true => exact Or.inr (b e (Nat.lt_succ_self e) hce)
  rw [key (Nat.le_refl n)]
  constructor
  · rintro ⟨⟨a, b⟩, d⟩
    refine ⟨a, b, fun e he => d e ?_ he⟩
    refine Nat.lt_of_not_le (fun z => ?_)
    rw [Nat.testBit_lt_two_pow (Nat.lt_of_lt_of_le hc (Nat.pow_le_pow_right (by decide) z))] at he
    cases he
  · rintro ⟨a, b, d⟩
    exact ⟨⟨a, b⟩, fun i _ hi => d i hi⟩
/-- as long as a world is out, there is a cut -/
theorem opS_min {out : Nat → Prop} {tr : Nat → Nat} {view : Nat} : ∀ (S : Nat), opS out tr view S → ∃ T, T ≤ S ∧ opS out tr view T ∧ ∀ k, T.testBit k = true → ¬ opS out tr view (T - 2 ^ k) := by
  intro S
  induction S using Nat.strongRecOn with
  | ind S ih =>
    intro h
    by_cases c : ∃ k, S.testBit k = true ∧ opS out tr view (S - 2 ^ k)
    · obtain ⟨k, c1, c2⟩ := c
      have hge := Nat.ge_two_pow_of_testBit c1
      have hp := Nat.two_pow_pos k
      obtain ⟨T, t1, t2, t3⟩ := ih (S - 2 ^ k) (by omega) c2
      exact ⟨T, by omega, t2, t3⟩
    · exact ⟨S, Nat.le_refl S, h, fun k hk z => c ⟨k, hk, z⟩⟩
theorem cut_ex {out : Nat → Prop} {tr : Nat → Nat} {view w : Nat} (hw : w < 256) (ho : out w) : ∃ T, T ≤ view ∧ isC out tr view T := by
  obtain ⟨T, t1, t2, t3⟩ := opS_min (out := out) (tr := tr) (view := view) view ⟨w, hw, ho, fun i a _ => a⟩
  exact ⟨T, t1, cut_iff.mpr ⟨t2, t3⟩⟩
theorem lstF_some {p : Nat → Bool} {c : Nat → Int} : ∀ {n S : Nat}, S < n → p S = true → ∃ b, lstF p c n = some b
  | 0, _, h, _ => absurd h (Nat.not_lt_zero _)
  | n + 1, S, h, hp => by
    by_cases hn : p n = true
    · rw [lstF_hit hn]
      cases lstF p c n with
      | none => exact ⟨n, rfl⟩
      | some b =>
        show ∃ x, (if c n < c b then some n else some b) = some x
        split
        · exact ⟨_, rfl⟩
        · exact ⟨_, rfl⟩
    · have hlt : S < n := by
        by_cases e : S = n
        · subst e
          exact absurd hp hn
        · omega
      obtain ⟨b, hb⟩ := lstF_some (c := c) hlt hp
      refine ⟨b, ?_⟩
      show (if p n = true then _ else lstF p c n) = some b
      rw [if_neg hn]
      exact hb
/-- the class's least cut (over its sets' words) is the reference's -/
theorem lc_same {A A' : zW} {q s : Nat} {way n t k : Int32} (h0 : 0 ≤ n.toInt) (h1 : n.toInt ≤ 12) (hV : vwN (cvP A t k) n.toInt.toNat = vwN (mvP A' t k) n.toInt.toNat) (hL : lwOK A' (zJ A' 354) (2 ^ n.toInt.toNat)) (ho : ∀ w, w < 256 → (zouF A q w = true ↔ outM A' s way w)) (ht : ∀ w, w < 256 → ztw A w = trN A' n.toInt.toNat w) (hcost : ∀ S, S < 2 ^ n.toInt.toNat → costC A n.toInt.toNat S = costM A' n.toInt.toNat S) : lstF (zlcF (q, n, t, k) A) (costC A n.toInt.toNat) 4096 = lstF (fun S => icN A' (vwN (mvP A' t k) n.toInt.toNat) S s way n.toInt.toNat) (costM A' n.toInt.toNat) (2 ^ n.toInt.toNat) := by
  have hm := p2_le n.toInt.toNat (by omega)
  have hVl : vwN (mvP A' t k) n.toInt.toNat < 2 ^ n.toInt.toNat := vwN_lt
  have hV4 : zcuV (q, n, t, k) A < 4096 := by
    show vwN (cvP A t k) n.toInt.toNat < 4096
    rw [hV]
    omega
  have hopS : ∀ T, opS (fun w => zouF A q w = true) (ztw A) (vwN (mvP A' t k) n.toInt.toNat) T ↔ opS (outM A' s way) (trN A' n.toInt.toNat) (vwN (mvP A' t k) n.toInt.toNat) T := fun T => by
    constructor
    · rintro ⟨w, w1, w2, w3⟩
      refine ⟨w, w1, (ho w w1).mp w2, fun i a b => w3 i a ?_⟩
      rw [ht w w1]
      exact b
    · rintro ⟨w, w1, w2, w3⟩
      refine ⟨w, w1, (ho w w1).mpr w2, fun i a b => w3 i a ?_⟩
      rw [← ht w w1]
      exact b
  have hp : ∀ S, S < 4096 → (zlcF (q, n, t, k) A S = true ↔ isC (outM A' s way) (trN A' n.toInt.toNat) (vwN (mvP A' t k) n.toInt.toNat) S) := fun S hS => by
    have h := zcu_iff (A := A) (q := q) (V := zcuV (q, n, t, k) A) hV4 hS
    have e : zcuV (q, n, t, k) A = vwN (mvP A' t k) n.toInt.toNat := hV
    refine h.trans ?_
    rw [e, cut_iff, cut_iff, hopS S]
    constructor
    · rintro ⟨a, b⟩
      exact ⟨a, fun k hk z => b k hk ((hopS _).mpr z)⟩
    · rintro ⟨a, b⟩
      exact ⟨a, fun k hk z => b k hk ((hopS _).mp z)⟩
  obtain ⟨d, hd⟩ : ∃ d, 4096 = 2 ^ n.toInt.toNat + d := ⟨4096 - 2 ^ n.toInt.toNat, by omega⟩
  have e1 : lstF (zlcF (q, n, t, k) A) (costC A n.toInt.toNat) 4096 = lstF (zlcF (q, n, t, k) A) (costC A n.toInt.toNat) (2 ^ n.toInt.toNat) := by
    have e := lstF_none (p := zlcF (q, n, t, k) A) (c := costC A n.toInt.toNat) (m := 2 ^ n.toInt.toNat) (k := d) (fun i i1 i2 hi => by
      have h := ((hp i (by omega)).mp hi).1
      have hle : i ≤ vwN (mvP A' t k) n.toInt.toNat := Nat.le_of_testBit h
      omega)
    rw [← hd] at e
    exact e
  rw [e1]
  refine (lstF_eq (fun S hS => ?_) (fun S T hS hT _ _ => ?_)).1
  · have h2 := icN_iff (A := A') (V := vwN (mvP A' t k) n.toInt.toNat) (c := S) (s := s) (way := way) hL hVl hS
    show zlcF (q, n, t, k) A S = icN A' (vwN (mvP A' t k) n.toInt.toNat) S s way n.toInt.toNat
    have h3 := hp S (by omega)
    cases ha : zlcF (q, n, t, k) A S with
    | true => exact (h2.mpr (h3.mp ha)).symm
    | false =>
      cases hb : icN A' (vwN (mvP A' t k) n.toInt.toNat) S s way n.toInt.toNat with
      | false => rfl
      | true =>
        have := h3.mpr (h2.mp hb)
        rw [ha] at this
        exact this
  · rw [hcost S hS, hcost T hT]
end
section
/-! the reference's methods that keep it -/
def kt_reasonAt : List kE := [(0, [(0, false, 345), (1, false, 1), (2, false, 1), (3, false, 1)], []), (1, [(0, false, 345), (1, false, 1), (2, false, 1), (3, false, 1)], [345]), (4, [(0, false, 345), (1, false, 1), (2, false, 1), (3, false, 1)], []), (5, [(0, false, 345), (1, false, 1), (2, false, 1), (3, false, 1)], [1]), (7, [(4, false, 1), (0, false, 345), (1, false, 1), (2, false, 1), (3, false, 1)], []), (8, [(4, false, 1), (0, false, 345), (1, false, 1), (2, false, 1), (3, false, 1)], [1]), (10, [(5, false, 1), (4, false, 1), (0, false, 345), (1, false, 1), (2, false, 1), (3, false, 1)], []), (12, [(5, false, 1), (4, false, 1), (0, false, 345), (1, false, 1), (2, false, 1), (3, false, 1)], [1]), (13, [(5, false, 1), (4, false, 1), (0, false, 345), (1, false, 1), (2, false, 1), (3, false, 1)], [1, 1]), (14, [(5, false, 1), (4, false, 1), (0, false, 345), (1, false, 1), (2, false, 1), (3, false, 1)], [345, 1, 1]), (17, [(5, false, 1), (4, false, 1), (0, false, 345), (1, false, 1), (2, false, 1), (3, false, 1)], [0, 1, 1]), (18, [(5, false, 1), (4, false, 1), (0, false, 345), (1, false, 1), (2, false, 1), (3, false, 1)], [1, 1]), (21, [(5, false, 1), (4, false, 1), (0, false, 345), (1, false, 1), (2, false, 1), (3, false, 1)], []), (22, [(5, false, 1), (4, false, 1), (0, false, 345), (1, false, 1), (2, false, 1), (3, false, 1)], [345]), (24, [(5, false, 1), (4, false, 1), (0, false, 345), (1, false, 1), (2, false, 1), (3, false, 1)], [1, 345]), (25, [(5, false, 1), (4, false, 1), (0, false, 345), (1, false, 1), (2, false, 1), (3, false, 1)], [1, 1, 345]), (26, [(5, false, 1), (4, false, 1), (0, false, 345), (1, false, 1), (2, false, 1), (3, false, 1)], [1, 1, 1, 345]), (29, [(5, false, 1), (4, false, 1), (0, false, 345), (1, false, 1), (2, false, 1), (3, false, 1)], [1]), (32, [(5, false, 1), (4, false, 1), (0, false, 345), (1, false, 1), (2, false, 1), (3, false, 1)], []), (34, [(5, false, 1), (4, false, 1), (0, false, 345), (1, false, 1), (2, false, 1), (3, false, 1)], [1]), (35, [(5, false, 1), (4, false, 1), (0, false, 345), (1, false, 1), (2, false, 1), (3, false, 1)], [1, 1]), (38, [(5, false, 1), (4, false, 1), (0, false, 345), (1, false, 1), (2, false, 1), (3, false, 1)], []), (40, [(5, false, 1), (4, false, 1), (0, false, 345), (1, false, 1), (2, false, 1), (3, false, 1)], [1]), (41, [(5, false, 1), (4, false, 1), (0, false, 345), (1, false, 1), (2, false, 1), (3, false, 1)], []), (44, [(5, false, 1), (4, false, 1), (0, false, 345), (1, false, 1), (2, false, 1), (3, false, 1)], []), (47, [(5, false, 1), (4, false, 1), (0, false, 345), (1, false, 1), (2, false, 1), (3, false, 1)], []), (50, [(5, false, 1), (4, false, 1), (0, false, 345), (1, false, 1), (2, false, 1), (3, false, 1)], []), (51, [(5, false, 1), (4, false, 1), (0, false, 345), (1, false, 1), (2, false, 1), (3, false, 1)], [1]), (54, [(5, false, 1), (4, false, 1), (0, false, 345), (1, false, 1), (2, false, 1), (3, false, 1)], []), (56, [(5, false, 1), (4, false, 1), (0, false, 345), (1, false, 1), (2, false, 1), (3, false, 1)], [1]), (59, [(5, false, 1), (4, false, 1), (0, false, 345), (1, false, 1), (2, false, 1), (3, false, 1)], []), (60, [(5, false, 1), (4, false, 1), (0, false, 345), (1, false, 1), (2, false, 1), (3, false, 1)], [1])]
def kS_reasonAt : zP := [(924, 1, zq_lay8), (981, 4, zhq 2 [])]
set_option maxRecDepth 100000 in
theorem kz_X12_reasonAt : zdo r_X12_reasonAt (zkq [345, 1, 1, 1] 1 jy) :=
  zdo_kq kS_reasonAt (S_8, [(924, 1, [], [345]), (981, 4, [1], [0, 0, 0, 0])]) kt_reasonAt fo_X12 rfl (zs_cons rfl zc_X12_lay (zs_cons rfl (zdo_hv (by decide) (by decide) : zdo r_X12_isReason (zhq 2 [])) zs_nil)) k_X12_reasonAt (kpc_cons rfl lay_call (kpc_cons rfl (hq_call (rt := 2) (Wr := []) jy_ag (by decide +kernel)) kpc_nil)) jy_ag (by decide) (by decide) (by decide +kernel)
def kt_cutAt : List kE := [(0, [(0, false, 345), (1, false, 1), (2, false, 1)], []), (1, [(0, false, 345), (1, false, 1), (2, false, 1)], [345]), (4, [(0, false, 345), (1, false, 1), (2, false, 1)], []), (5, [(0, false, 345), (1, false, 1), (2, false, 1)], [1]), (6, [(3, false, 1), (0, false, 345), (1, false, 1), (2, false, 1)], []), (7, [(3, false, 1), (0, false, 345), (1, false, 1), (2, false, 1)], [1]), (9, [(4, false, 1), (3, false, 1), (0, false, 345), (1, false, 1), (2, false, 1)], []), (11, [(4, false, 1), (3, false, 1), (0, false, 345), (1, false, 1), (2, false, 1)], [1]), (12, [(4, false, 1), (3, false, 1), (0, false, 345), (1, false, 1), (2, false, 1)], [1, 1]), (13, [(4, false, 1), (3, false, 1), (0, false, 345), (1, false, 1), (2, false, 1)], [345, 1, 1]), (16, [(4, false, 1), (3, false, 1), (0, false, 345), (1, false, 1), (2, false, 1)], [0, 1, 1]), (17, [(4, false, 1), (3, false, 1), (0, false, 345), (1, false, 1), (2, false, 1)], [1, 1]), (20, [(4, false, 1), (3, false, 1), (0, false, 345), (1, false, 1), (2, false, 1)], []), (21, [(4, false, 1), (3, false, 1), (0, false, 345), (1, false, 1), (2, false, 1)], [345]), (23, [(4, false, 1), (3, false, 1), (0, false, 345), (1, false, 1), (2, false, 1)], [1, 345]), (24, [(4, false, 1), (3, false, 1), (0, false, 345), (1, false, 1), (2, false, 1)], [1, 1, 345]), (25, [(4, false, 1), (3, false, 1), (0, false, 345), (1, false, 1), (2, false, 1)], [1, 1, 1, 345]), (28, [(4, false, 1), (3, false, 1), (0, false, 345), (1, false, 1), (2, false, 1)], [1]), (31, [(4, false, 1), (3, false, 1), (0, false, 345), (1, false, 1), (2, false, 1)], []), (32, [(4, false, 1), (3, false, 1), (0, false, 345), (1, false, 1), (2, false, 1)], [1]), (33, [(4, false, 1), (3, false, 1), (0, false, 345), (1, false, 1), (2, false, 1)], [1, 1]), (36, [(4, false, 1), (3, false, 1), (0, false, 345), (1, false, 1), (2, false, 1)], []), (38, [(4, false, 1), (3, false, 1), (0, false, 345), (1, false, 1), (2, false, 1)], [1]), (39, [(4, false, 1), (3, false, 1), (0, false, 345), (1, false, 1), (2, false, 1)], []), (42, [(4, false, 1), (3, false, 1), (0, false, 345), (1, false, 1), (2, false, 1)], []), (45, [(4, false, 1), (3, false, 1), (0, false, 345), (1, false, 1), (2, false, 1)], []), (48, [(4, false, 1), (3, false, 1), (0, false, 345), (1, false, 1), (2, false, 1)], []), (49, [(4, false, 1), (3, false, 1), (0, false, 345), (1, false, 1), (2, false, 1)], [1]), (52, [(4, false, 1), (3, false, 1), (0, false, 345), (1, false, 1), (2, false, 1)], []), (53, [(4, false, 1), (3, false, 1), (0, false, 345), (1, false, 1), (2, false, 1)], [1]), (56, [(4, false, 1), (3, false, 1), (0, false, 345), (1, false, 1), (2, false, 1)], []), (57, [(4, false, 1), (3, false, 1), (0, false, 345), (1, false, 1), (2, false, 1)], [1])]
def kS_cutAt : zP := [(924, 1, zq_lay8), (1014, 4, zhq 2 [])]
set_option maxRecDepth 100000 in
theorem kz_X12_cutAt : zdo r_X12_cutAt (zkq [345, 1, 1] 1 jy) :=
  zdo_kq kS_cutAt (S_8, [(924, 1, [], [345]), (1014, 4, [1], [0, 0, 0, 0])]) kt_cutAt fo_X12 rfl (zs_cons rfl zc_X12_lay (zs_cons rfl (zdo_hv (by decide) (by decide) : zdo r_X12_isCut (zhq 2 [])) zs_nil)) k_X12_cutAt (kpc_cons rfl lay_call (kpc_cons rfl (hq_call (rt := 2) (Wr := []) jy_ag (by decide +kernel)) kpc_nil)) jy_ag (by decide) (by decide) (by decide +kernel)
def kt_leastCut : List kE := [(0, [(0, false, 345), (1, false, 1), (2, false, 1)], []), (1, [(0, false, 345), (1, false, 1), (2, false, 1)], [345]), (4, [(0, false, 345), (1, false, 1), (2, false, 1)], []), (6, [(0, false, 345), (1, false, 1), (2, false, 1)], [1]), (7, [(3, false, 1), (0, false, 345), (1, false, 1), (2, false, 1)], []), (8, [(3, false, 1), (0, false, 345), (1, false, 1), (2, false, 1)], [1]), (10, [(4, false, 1), (3, false, 1), (0, false, 345), (1, false, 1), (2, false, 1)], []), (12, [(4, false, 1), (3, false, 1), (0, false, 345), (1, false, 1), (2, false, 1)], [1]), (13, [(4, false, 1), (3, false, 1), (0, false, 345), (1, false, 1), (2, false, 1)], [1, 1]), (14, [(4, false, 1), (3, false, 1), (0, false, 345), (1, false, 1), (2, false, 1)], [345, 1, 1]), (17, [(4, false, 1), (3, false, 1), (0, false, 345), (1, false, 1), (2, false, 1)], [0, 1, 1]), (18, [(4, false, 1), (3, false, 1), (0, false, 345), (1, false, 1), (2, false, 1)], [1, 1]), (21, [(4, false, 1), (3, false, 1), (0, false, 345), (1, false, 1), (2, false, 1)], []), (22, [(4, false, 1), (3, false, 1), (0, false, 345), (1, false, 1), (2, false, 1)], [345]), (24, [(4, false, 1), (3, false, 1), (0, false, 345), (1, false, 1), (2, false, 1)], [1, 345]), (25, [(4, false, 1), (3, false, 1), (0, false, 345), (1, false, 1), (2, false, 1)], [1, 1, 345]), (26, [(4, false, 1), (3, false, 1), (0, false, 345), (1, false, 1), (2, false, 1)], [1, 1, 1, 345]), (29, [(4, false, 1), (3, false, 1), (0, false, 345), (1, false, 1), (2, false, 1)], [1]), (32, [(4, false, 1), (3, false, 1), (0, false, 345), (1, false, 1), (2, false, 1)], []), (33, [(4, false, 1), (3, false, 1), (0, false, 345), (1, false, 1), (2, false, 1)], [1]), (36, [(4, false, 1), (3, false, 1), (0, false, 345), (1, false, 1), (2, false, 1)], []), (37, [(4, false, 1), (3, false, 1), (0, false, 345), (1, false, 1), (2, false, 1)], [1]), (40, [(4, false, 1), (3, false, 1), (0, false, 345), (1, false, 1), (2, false, 1)], []), (41, [(4, false, 1), (3, false, 1), (0, false, 345), (1, false, 1), (2, false, 1)], [345]), (43, [(4, false, 1), (3, false, 1), (0, false, 345), (1, false, 1), (2, false, 1)], [1, 345]), (46, [(4, false, 1), (3, false, 1), (0, false, 345), (1, false, 1), (2, false, 1)], [1]), (47, [(4, false, 1), (3, false, 1), (0, false, 345), (1, false, 1), (2, false, 1)], [345, 1]), (48, [(4, false, 1), (3, false, 1), (0, false, 345), (1, false, 1), (2, false, 1)], [1, 345, 1]), (51, [(4, false, 1), (3, false, 1), (0, false, 345), (1, false, 1), (2, false, 1)], [1, 1]), (52, [(4, false, 1), (3, false, 1), (0, false, 345), (1, false, 1), (2, false, 1)], [1]), (54, [(5, false, 1), (4, false, 1), (3, false, 1), (0, false, 345), (1, false, 1), (2, false, 1)], []), (56, [(5, false, 1), (4, false, 1), (3, false, 1), (0, false, 345), (1, false, 1), (2, false, 1)], [1]), (59, [(5, false, 1), (4, false, 1), (3, false, 1), (0, false, 345), (1, false, 1), (2, false, 1)], []), (61, [(5, false, 1), (4, false, 1), (3, false, 1), (0, false, 345), (1, false, 1), (2, false, 1)], [1]), (64, [(5, false, 1), (4, false, 1), (3, false, 1), (0, false, 345), (1, false, 1), (2, false, 1)], []), (66, [(5, false, 1), (4, false, 1), (3, false, 1), (0, false, 345), (1, false, 1), (2, false, 1)], [1]), (67, [(5, false, 1), (4, false, 1), (3, false, 1), (0, false, 345), (1, false, 1), (2, false, 1)], [0]), (70, [(5, false, 1), (4, false, 1), (3, false, 1), (0, false, 345), (1, false, 1), (2, false, 1)], [1]), (71, [(5, false, 1), (4, false, 1), (3, false, 1), (0, false, 345), (1, false, 1), (2, false, 1)], [1, 1]), (72, [(5, false, 1), (4, false, 1), (3, false, 1), (0, false, 345), (1, false, 1), (2, false, 1)], [0, 1]), (75, [(5, false, 1), (4, false, 1), (3, false, 1), (0, false, 345), (1, false, 1), (2, false, 1)], [1, 1]), (78, [(5, false, 1), (4, false, 1), (3, false, 1), (0, false, 345), (1, false, 1), (2, false, 1)], []), (80, [(5, false, 1), (4, false, 1), (3, false, 1), (0, false, 345), (1, false, 1), (2, false, 1)], [1]), (83, [(5, false, 1), (4, false, 1), (3, false, 1), (0, false, 345), (1, false, 1), (2, false, 1)], []), (84, [(5, false, 1), (4, false, 1), (3, false, 1), (0, false, 345), (1, false, 1), (2, false, 1)], [1]), (85, [(4, false, 1), (3, false, 1), (0, false, 345), (1, false, 1), (2, false, 1)], []), (88, [(4, false, 1), (3, false, 1), (0, false, 345), (1, false, 1), (2, false, 1)], []), (91, [(4, false, 1), (3, false, 1), (0, false, 345), (1, false, 1), (2, false, 1)], []), (92, [(4, false, 1), (3, false, 1), (0, false, 345), (1, false, 1), (2, false, 1)], [1])]
def kS_leastCut : zP := [(679, 1, zhq 1 []), (897, 2, zhq 1 []), (924, 1, zq_lay8), (1014, 4, zhq 2 [])]
set_option maxRecDepth 100000 in
theorem kz_X12_leastCut : zdo r_X12_leastCut (zkq [345, 1, 1] 1 jy) :=
  zdo_kq kS_leastCut (S_8, [(679, 1, [1], [0]), (897, 2, [1], [0, 0]), (924, 1, [], [345]), (1014, 4, [1], [0, 0, 0, 0])]) kt_leastCut fo_X12 rfl (zs_cons rfl (zdo_hv (by decide) (by decide) : zdo r_X12_countBits (zhq 1 [])) (zs_cons rfl (zdo_hv (by decide) (by decide) : zdo r_X12_weightOf (zhq 1 [])) (zs_cons rfl zc_X12_lay (zs_cons rfl (zdo_hv (by decide) (by decide) : zdo r_X12_isCut (zhq 2 [])) zs_nil)))) k_X12_leastCut (kpc_cons rfl (hq_call (rt := 1) (Wr := []) jy_ag (by decide +kernel)) (kpc_cons rfl (hq_call (rt := 1) (Wr := []) jy_ag (by decide +kernel)) (kpc_cons rfl lay_call (kpc_cons rfl (hq_call (rt := 2) (Wr := []) jy_ag (by decide +kernel)) kpc_nil)))) jy_ag (by decide) (by decide) (by decide +kernel)
def kt_together : List kE := [(0, [(0, false, 345), (1, false, 1)], []), (1, [(0, false, 345), (1, false, 1)], [345]), (2, [(0, false, 345), (1, false, 1)], [1, 345]), (5, [(0, false, 345), (1, false, 1)], [1]), (8, [(0, false, 345), (1, false, 1)], []), (10, [(0, false, 345), (1, false, 1)], [1]), (11, [(0, false, 345), (1, false, 1)], []), (12, [(0, false, 345), (1, false, 1)], [345]), (15, [(0, false, 345), (1, false, 1)], []), (16, [(0, false, 345), (1, false, 1)], [345]), (17, [(0, false, 345), (1, false, 1)], [1, 345]), (20, [(0, false, 345), (1, false, 1)], [1])]
def kS_together : zP := [(924, 1, zq_lay8), (951, 2, zhq 2 []), (960, 2, zhq 1 [])]
set_option maxRecDepth 100000 in
theorem kz_X12_together : zdo r_X12_together (zkq [345, 1] 1 jy) :=
  zdo_kq kS_together (S_8, [(924, 1, [], [345]), (951, 2, [1], [0, 0]), (960, 2, [1], [0, 0])]) kt_together fo_X12 rfl (zs_cons rfl zc_X12_lay (zs_cons rfl (zdo_hv (by decide) (by decide) : zdo r_X12_isEntrySet (zhq 2 [])) (zs_cons rfl (zdo_hv (by decide) (by decide) : zdo r_X12_countWorlds (zhq 1 [])) zs_nil))) k_X12_together (kpc_cons rfl lay_call (kpc_cons rfl (hq_call (rt := 2) (Wr := []) jy_ag (by decide +kernel)) (kpc_cons rfl (hq_call (rt := 1) (Wr := []) jy_ag (by decide +kernel)) kpc_nil))) jy_ag (by decide) (by decide) (by decide +kernel)
def kt_reasons : List kE := [(0, [(0, false, 345), (1, false, 1), (2, false, 1)], []), (1, [(0, false, 345), (1, false, 1), (2, false, 1)], [345]), (2, [(0, false, 345), (1, false, 1), (2, false, 1)], [1, 345]), (5, [(0, false, 345), (1, false, 1), (2, false, 1)], [1]), (8, [(0, false, 345), (1, false, 1), (2, false, 1)], []), (9, [(0, false, 345), (1, false, 1), (2, false, 1)], [1]), (10, [(0, false, 345), (1, false, 1), (2, false, 1)], []), (11, [(0, false, 345), (1, false, 1), (2, false, 1)], [1]), (12, [(0, false, 345), (1, false, 1), (2, false, 1)], [0]), (13, [(0, false, 345), (1, false, 1), (2, false, 1)], [0, 0]), (14, [(0, false, 345), (1, false, 1), (2, false, 1)], [0, 0, 0]), (17, [(0, false, 345), (1, false, 1), (2, false, 1)], [1]), (20, [(0, false, 345), (1, false, 1), (2, false, 1)], []), (21, [(0, false, 345), (1, false, 1), (2, false, 1)], [345]), (22, [(0, false, 345), (1, false, 1), (2, false, 1)], [1, 345]), (23, [(0, false, 345), (1, false, 1), (2, false, 1)], [1, 1, 345]), (24, [(0, false, 345), (1, false, 1), (2, false, 1)], [1, 1, 1, 345]), (27, [(0, false, 345), (1, false, 1), (2, false, 1)], [1]), (30, [(0, false, 345), (1, false, 1), (2, false, 1)], []), (32, [(0, false, 345), (1, false, 1), (2, false, 1)], [1])]
def kS_reasons : zP := [(457, 3, zhq 2 []), (669, 2, zhq 2 []), (990, 4, (zkq [345, 1, 1, 1] 1 jy))]
set_option maxRecDepth 100000 in
theorem kz_X12_reasons : zdo r_X12_reasons (zkq [345, 1, 1] 1 jy) :=
  zdo_kq kS_reasons (S_8, [(457, 3, [1], [0, 0, 0]), (669, 2, [1], [0, 0]), (990, 4, [1], [345, 1, 1, 1])]) kt_reasons fo_X12 rfl (zs_cons rfl (zdo_hv (by decide) (by decide) : zdo r_X12_in (zhq 2 [])) (zs_cons rfl (zdo_hv (by decide) (by decide) : zdo r_X12_noSentence (zhq 2 [])) (zs_cons rfl kz_X12_reasonAt zs_nil))) k_X12_reasons (kpc_cons rfl (hq_call (rt := 2) (Wr := []) jy_ag (by decide +kernel)) (kpc_cons rfl (hq_call (rt := 2) (Wr := []) jy_ag (by decide +kernel)) (kpc_cons rfl (kq_call (tags := [345, 1, 1, 1]) (rt := 1) (K := jy)) kpc_nil))) jy_ag (by decide) (by decide) (by decide +kernel)
def kt_reason : List kE := [(0, [(0, false, 345), (1, false, 1), (2, false, 1), (3, false, 1)], []), (1, [(0, false, 345), (1, false, 1), (2, false, 1), (3, false, 1)], [345]), (2, [(0, false, 345), (1, false, 1), (2, false, 1), (3, false, 1)], [1, 345]), (5, [(0, false, 345), (1, false, 1), (2, false, 1), (3, false, 1)], [1]), (8, [(0, false, 345), (1, false, 1), (2, false, 1), (3, false, 1)], []), (9, [(0, false, 345), (1, false, 1), (2, false, 1), (3, false, 1)], [1]), (12, [(0, false, 345), (1, false, 1), (2, false, 1), (3, false, 1)], []), (13, [(0, false, 345), (1, false, 1), (2, false, 1), (3, false, 1)], [1]), (14, [(0, false, 345), (1, false, 1), (2, false, 1), (3, false, 1)], []), (15, [(0, false, 345), (1, false, 1), (2, false, 1), (3, false, 1)], [1]), (16, [(0, false, 345), (1, false, 1), (2, false, 1), (3, false, 1)], [0]), (17, [(0, false, 345), (1, false, 1), (2, false, 1), (3, false, 1)], [0, 0]), (18, [(0, false, 345), (1, false, 1), (2, false, 1), (3, false, 1)], [0, 0, 0]), (21, [(0, false, 345), (1, false, 1), (2, false, 1), (3, false, 1)], [1]), (24, [(0, false, 345), (1, false, 1), (2, false, 1), (3, false, 1)], []), (25, [(0, false, 345), (1, false, 1), (2, false, 1), (3, false, 1)], [345]), (26, [(0, false, 345), (1, false, 1), (2, false, 1), (3, false, 1)], [1, 345]), (27, [(0, false, 345), (1, false, 1), (2, false, 1), (3, false, 1)], [1, 1, 345]), (28, [(0, false, 345), (1, false, 1), (2, false, 1), (3, false, 1)], [1, 1, 1, 345]), (31, [(0, false, 345), (1, false, 1), (2, false, 1), (3, false, 1)], [1]), (34, [(0, false, 345), (1, false, 1), (2, false, 1), (3, false, 1)], []), (36, [(0, false, 345), (1, false, 1), (2, false, 1), (3, false, 1)], [1])]
def kS_reason : zP := [(457, 3, zhq 2 []), (669, 2, zhq 2 []), (990, 4, (zkq [345, 1, 1, 1] 1 jy))]
set_option maxRecDepth 100000 in
theorem kz_X12_reason : zdo r_X12_reason (zkq [345, 1, 1, 1] 1 jy) :=
  zdo_kq kS_reason (S_8, [(457, 3, [1], [0, 0, 0]), (669, 2, [1], [0, 0]), (990, 4, [1], [345, 1, 1, 1])]) kt_reason fo_X12 rfl (zs_cons rfl (zdo_hv (by decide) (by decide) : zdo r_X12_in (zhq 2 [])) (zs_cons rfl (zdo_hv (by decide) (by decide) : zdo r_X12_noSentence (zhq 2 [])) (zs_cons rfl kz_X12_reasonAt zs_nil))) k_X12_reason (kpc_cons rfl (hq_call (rt := 2) (Wr := []) jy_ag (by decide +kernel)) (kpc_cons rfl (hq_call (rt := 2) (Wr := []) jy_ag (by decide +kernel)) (kpc_cons rfl (kq_call (tags := [345, 1, 1, 1]) (rt := 1) (K := jy)) kpc_nil))) jy_ag (by decide) (by decide) (by decide +kernel)
def kt_harmonies : List kE := [(0, [(0, false, 345), (1, false, 1)], []), (1, [(0, false, 345), (1, false, 1)], [345]), (4, [(0, false, 345), (1, false, 1)], []), (5, [(0, false, 345), (1, false, 1)], [1]), (36, [(0, false, 345), (1, false, 1)], []), (37, [(0, false, 345), (1, false, 1)], [345]), (40, [(0, false, 345), (1, false, 1)], [0]), (41, [(0, false, 345), (1, false, 1)], []), (42, [(0, false, 345), (1, false, 1)], [345]), (45, [(0, false, 345), (1, false, 1)], [0]), (46, [(0, false, 345), (1, false, 1)], []), (47, [(0, false, 345), (1, false, 1)], [345]), (50, [(0, false, 345), (1, false, 1)], [0]), (51, [(0, false, 345), (1, false, 1)], []), (52, [(0, false, 345), (1, false, 1)], [345]), (55, [(0, false, 345), (1, false, 1)], [0]), (56, [(0, false, 345), (1, false, 1)], []), (58, [(0, false, 345), (1, false, 1)], [1])]
def kS_harmonies : zP := [(924, 1, zq_lay8)]
set_option maxRecDepth 100000 in
theorem kz_X12_harmonies : zdo r_X12_harmonies (zkq [345, 1] 1 jy) :=
  zdo_kq kS_harmonies (S_8, [(924, 1, [], [345])]) kt_harmonies fo_X12 rfl (zs_cons rfl zc_X12_lay zs_nil) k_X12_harmonies (kpc_cons rfl lay_call kpc_nil) jy_ag (by decide) (by decide) (by decide +kernel)
def kt_harmony : List kE := [(0, [(0, false, 345), (1, false, 1), (2, false, 1)], []), (1, [(0, false, 345), (1, false, 1), (2, false, 1)], [1]), (4, [(0, false, 345), (1, false, 1), (2, false, 1)], []), (5, [(0, false, 345), (1, false, 1), (2, false, 1)], [1]), (6, [(0, false, 345), (1, false, 1), (2, false, 1)], []), (7, [(0, false, 345), (1, false, 1), (2, false, 1)], [1]), (8, [(0, false, 345), (1, false, 1), (2, false, 1)], [0]), (9, [(0, false, 345), (1, false, 1), (2, false, 1)], [0, 0]), (10, [(0, false, 345), (1, false, 1), (2, false, 1)], [0, 0, 0]), (13, [(0, false, 345), (1, false, 1), (2, false, 1)], [1]), (16, [(0, false, 345), (1, false, 1), (2, false, 1)], []), (18, [(0, false, 345), (1, false, 1), (2, false, 1)], [1]), (19, [(0, false, 345), (1, false, 1), (2, false, 1)], []), (20, [(0, false, 345), (1, false, 1), (2, false, 1)], [345]), (23, [(0, false, 345), (1, false, 1), (2, false, 1)], []), (24, [(0, false, 345), (1, false, 1), (2, false, 1)], [1]), (27, [(0, false, 345), (1, false, 1), (2, false, 1)], []), (28, [(0, false, 345), (1, false, 1), (2, false, 1)], [345]), (31, [(0, false, 345), (1, false, 1), (2, false, 1)], [0]), (34, [(0, false, 345), (1, false, 1), (2, false, 1)], []), (35, [(0, false, 345), (1, false, 1), (2, false, 1)], [345]), (38, [(0, false, 345), (1, false, 1), (2, false, 1)], [0]), (39, [(3, false, 0), (0, false, 345), (1, false, 1), (2, false, 1)], []), (40, [(3, false, 0), (0, false, 345), (1, false, 1), (2, false, 1)], [1]), (41, [(3, false, 0), (0, false, 345), (1, false, 1), (2, false, 1)], [0, 1]), (44, [(3, false, 0), (0, false, 345), (1, false, 1), (2, false, 1)], []), (45, [(3, false, 0), (0, false, 345), (1, false, 1), (2, false, 1)], [1]), (48, [(3, false, 0), (0, false, 345), (1, false, 1), (2, false, 1)], []), (49, [(3, false, 0), (0, false, 345), (1, false, 1), (2, false, 1)], [1]), (52, [(3, false, 0), (0, false, 345), (1, false, 1), (2, false, 1)], []), (53, [(3, false, 0), (0, false, 345), (1, false, 1), (2, false, 1)], [345]), (56, [(3, false, 0), (0, false, 345), (1, false, 1), (2, false, 1)], [357]), (57, [(3, false, 0), (0, false, 345), (1, false, 1), (2, false, 1)], [1, 357]), (58, [(3, false, 0), (0, false, 345), (1, false, 1), (2, false, 1)], [1]), (61, [(3, false, 0), (0, false, 345), (1, false, 1), (2, false, 1)], []), (62, [(3, false, 0), (0, false, 345), (1, false, 1), (2, false, 1)], [345]), (65, [(3, false, 0), (0, false, 345), (1, false, 1), (2, false, 1)], [358]), (66, [(3, false, 0), (0, false, 345), (1, false, 1), (2, false, 1)], [1, 358]), (67, [(3, false, 0), (0, false, 345), (1, false, 1), (2, false, 1)], [1])]
def kS_harmony : zP := [(457, 3, zhq 2 []), (924, 1, zq_lay8)]
set_option maxRecDepth 100000 in
theorem kz_X12_harmony : zdo r_X12_harmony (zkq [345, 1, 1] 1 jy) :=
  zdo_kq kS_harmony (S_8, [(457, 3, [1], [0, 0, 0]), (924, 1, [], [345])]) kt_harmony fo_X12 rfl (zs_cons rfl (zdo_hv (by decide) (by decide) : zdo r_X12_in (zhq 2 [])) (zs_cons rfl zc_X12_lay zs_nil)) k_X12_harmony (kpc_cons rfl (hq_call (rt := 2) (Wr := []) jy_ag (by decide +kernel)) (kpc_cons rfl lay_call kpc_nil)) jy_ag (by decide) (by decide) (by decide +kernel)
def kt_held : List kE := [(0, [(0, false, 345), (1, false, 1), (2, false, 1)], []), (1, [(0, false, 345), (1, false, 1), (2, false, 1)], [345]), (2, [(0, false, 345), (1, false, 1), (2, false, 1)], [1, 345]), (5, [(0, false, 345), (1, false, 1), (2, false, 1)], [1]), (8, [(0, false, 345), (1, false, 1), (2, false, 1)], []), (9, [(0, false, 345), (1, false, 1), (2, false, 1)], [1]), (10, [(0, false, 345), (1, false, 1), (2, false, 1)], []), (11, [(0, false, 345), (1, false, 1), (2, false, 1)], [345]), (14, [(0, false, 345), (1, false, 1), (2, false, 1)], []), (15, [(0, false, 345), (1, false, 1), (2, false, 1)], [1]), (16, [(3, false, 1), (0, false, 345), (1, false, 1), (2, false, 1)], []), (17, [(3, false, 1), (0, false, 345), (1, false, 1), (2, false, 1)], [1]), (52, [(3, false, 1), (0, false, 345), (1, false, 1), (2, false, 1)], []), (53, [(3, false, 1), (0, false, 345), (1, false, 1), (2, false, 1)], [345]), (54, [(3, false, 1), (0, false, 345), (1, false, 1), (2, false, 1)], [345, 345]), (57, [(3, false, 1), (0, false, 345), (1, false, 1), (2, false, 1)], [0, 345]), (58, [(3, false, 1), (0, false, 345), (1, false, 1), (2, false, 1)], [1, 0, 345]), (59, [(3, false, 1), (0, false, 345), (1, false, 1), (2, false, 1)], [1, 1, 0, 345]), (62, [(3, false, 1), (0, false, 345), (1, false, 1), (2, false, 1)], [1]), (63, [(3, false, 1), (0, false, 345), (1, false, 1), (2, false, 1)], []), (66, [(3, false, 1), (0, false, 345), (1, false, 1), (2, false, 1)], []), (67, [(3, false, 1), (0, false, 345), (1, false, 1), (2, false, 1)], [345]), (68, [(3, false, 1), (0, false, 345), (1, false, 1), (2, false, 1)], [1, 345]), (69, [(3, false, 1), (0, false, 345), (1, false, 1), (2, false, 1)], [1, 1, 345]), (72, [(3, false, 1), (0, false, 345), (1, false, 1), (2, false, 1)], [1]), (73, [(3, false, 1), (0, false, 345), (1, false, 1), (2, false, 1)], [345, 1]), (76, [(3, false, 1), (0, false, 345), (1, false, 1), (2, false, 1)], [0, 1]), (79, [(3, false, 1), (0, false, 345), (1, false, 1), (2, false, 1)], []), (80, [(3, false, 1), (0, false, 345), (1, false, 1), (2, false, 1)], [1]), (83, [(3, false, 1), (0, false, 345), (1, false, 1), (2, false, 1)], []), (84, [(3, false, 1), (0, false, 345), (1, false, 1), (2, false, 1)], [1]), (85, [(3, false, 1), (0, false, 345), (1, false, 1), (2, false, 1)], []), (88, [(3, false, 1), (0, false, 345), (1, false, 1), (2, false, 1)], []), (89, [(3, false, 1), (0, false, 345), (1, false, 1), (2, false, 1)], [345]), (90, [(3, false, 1), (0, false, 345), (1, false, 1), (2, false, 1)], [1, 345]), (91, [(3, false, 1), (0, false, 345), (1, false, 1), (2, false, 1)], [1, 1, 345]), (94, [(3, false, 1), (0, false, 345), (1, false, 1), (2, false, 1)], [1]), (97, [(3, false, 1), (0, false, 345), (1, false, 1), (2, false, 1)], []), (98, [(3, false, 1), (0, false, 345), (1, false, 1), (2, false, 1)], [1]), (101, [(3, false, 1), (0, false, 345), (1, false, 1), (2, false, 1)], []), (102, [(3, false, 1), (0, false, 345), (1, false, 1), (2, false, 1)], [1]), (103, [(3, false, 1), (0, false, 345), (1, false, 1), (2, false, 1)], []), (106, [(3, false, 1), (0, false, 345), (1, false, 1), (2, false, 1)], []), (107, [(3, false, 1), (0, false, 345), (1, false, 1), (2, false, 1)], [345]), (108, [(3, false, 1), (0, false, 345), (1, false, 1), (2, false, 1)], [1, 345]), (109, [(3, false, 1), (0, false, 345), (1, false, 1), (2, false, 1)], [1, 1, 345]), (112, [(3, false, 1), (0, false, 345), (1, false, 1), (2, false, 1)], [1]), (113, [(3, false, 1), (0, false, 345), (1, false, 1), (2, false, 1)], [345, 1]), (116, [(3, false, 1), (0, false, 345), (1, false, 1), (2, false, 1)], [0, 1]), (119, [(3, false, 1), (0, false, 345), (1, false, 1), (2, false, 1)], []), (120, [(3, false, 1), (0, false, 345), (1, false, 1), (2, false, 1)], [1]), (123, [(3, false, 1), (0, false, 345), (1, false, 1), (2, false, 1)], []), (124, [(3, false, 1), (0, false, 345), (1, false, 1), (2, false, 1)], [1]), (125, [(3, false, 1), (0, false, 345), (1, false, 1), (2, false, 1)], []), (128, [(3, false, 1), (0, false, 345), (1, false, 1), (2, false, 1)], []), (129, [(3, false, 1), (0, false, 345), (1, false, 1), (2, false, 1)], [345]), (130, [(3, false, 1), (0, false, 345), (1, false, 1), (2, false, 1)], [345, 345]), (133, [(3, false, 1), (0, false, 345), (1, false, 1), (2, false, 1)], [0, 345]), (134, [(3, false, 1), (0, false, 345), (1, false, 1), (2, false, 1)], [1, 0, 345]), (135, [(3, false, 1), (0, false, 345), (1, false, 1), (2, false, 1)], [1, 1, 0, 345]), (138, [(3, false, 1), (0, false, 345), (1, false, 1), (2, false, 1)], [1]), (139, [(3, false, 1), (0, false, 345), (1, false, 1), (2, false, 1)], []), (142, [(3, false, 1), (0, false, 345), (1, false, 1), (2, false, 1)], []), (144, [(3, false, 1), (0, false, 345), (1, false, 1), (2, false, 1)], [1]), (145, [(3, false, 1), (0, false, 345), (1, false, 1), (2, false, 1)], []), (146, [(3, false, 1), (0, false, 345), (1, false, 1), (2, false, 1)], [1]), (149, [(3, false, 1), (0, false, 345), (1, false, 1), (2, false, 1)], []), (150, [(3, false, 1), (0, false, 345), (1, false, 1), (2, false, 1)], [1]), (153, [(3, false, 1), (0, false, 345), (1, false, 1), (2, false, 1)], []), (154, [(3, false, 1), (0, false, 345), (1, false, 1), (2, false, 1)], [1])]
def kS_held : zP := [(669, 2, zhq 2 []), (924, 1, zq_lay8), (969, 4, zhq 2 []), (1002, 3, zhq 1 [])]
set_option maxRecDepth 100000 in
theorem kz_X12_held : zdo r_X12_held (zkq [345, 1, 1] 1 jy) :=
  zdo_kq kS_held (S_8, [(669, 2, [1], [0, 0]), (924, 1, [], [345]), (969, 4, [1], [0, 0, 0, 0]), (1002, 3, [1], [0, 0, 0])]) kt_held fo_X12 rfl (zs_cons rfl (zdo_hv (by decide) (by decide) : zdo r_X12_noSentence (zhq 2 [])) (zs_cons rfl zc_X12_lay (zs_cons rfl (zdo_hv (by decide) (by decide) : zdo r_X12_follows (zhq 2 [])) (zs_cons rfl (zdo_hv (by decide) (by decide) : zdo r_X12_followers (zhq 1 [])) zs_nil)))) k_X12_held (kpc_cons rfl (hq_call (rt := 2) (Wr := []) jy_ag (by decide +kernel)) (kpc_cons rfl lay_call (kpc_cons rfl (hq_call (rt := 2) (Wr := []) jy_ag (by decide +kernel)) (kpc_cons rfl (hq_call (rt := 1) (Wr := []) jy_ag (by decide +kernel)) kpc_nil)))) jy_ag (by decide) (by decide) (by decide +kernel)
def kt_cuts : List kE := [(0, [(0, false, 345), (1, false, 1)], []), (1, [(0, false, 345), (1, false, 1)], [345]), (2, [(0, false, 345), (1, false, 1)], [1, 345]), (5, [(0, false, 345), (1, false, 1)], [1]), (8, [(0, false, 345), (1, false, 1)], []), (9, [(0, false, 345), (1, false, 1)], [1]), (12, [(0, false, 345), (1, false, 1)], []), (13, [(0, false, 345), (1, false, 1)], [345]), (14, [(0, false, 345), (1, false, 1)], [1, 345]), (15, [(0, false, 345), (1, false, 1)], [1, 1, 345]), (18, [(0, false, 345), (1, false, 1)], [1])]
def kS_cuts : zP := [(669, 2, zhq 2 []), (1023, 3, (zkq [345, 1, 1] 1 jy))]
set_option maxRecDepth 100000 in
theorem kz_X12_cuts : zdo r_X12_cuts (zkq [345, 1] 1 jy) :=
  zdo_kq kS_cuts (S_8, [(669, 2, [1], [0, 0]), (1023, 3, [1], [345, 1, 1])]) kt_cuts fo_X12 rfl (zs_cons rfl (zdo_hv (by decide) (by decide) : zdo r_X12_noSentence (zhq 2 [])) (zs_cons rfl kz_X12_cutAt zs_nil)) k_X12_cuts (kpc_cons rfl (hq_call (rt := 2) (Wr := []) jy_ag (by decide +kernel)) (kpc_cons rfl (kq_call (tags := [345, 1, 1]) (rt := 1) (K := jy)) kpc_nil)) jy_ag (by decide) (by decide) (by decide +kernel)
def kt_cutOf : List kE := [(0, [(0, false, 345), (1, false, 1), (2, false, 1)], []), (1, [(0, false, 345), (1, false, 1), (2, false, 1)], [345]), (2, [(0, false, 345), (1, false, 1), (2, false, 1)], [1, 345]), (5, [(0, false, 345), (1, false, 1), (2, false, 1)], [1]), (8, [(0, false, 345), (1, false, 1), (2, false, 1)], []), (9, [(0, false, 345), (1, false, 1), (2, false, 1)], [1]), (12, [(0, false, 345), (1, false, 1), (2, false, 1)], []), (13, [(0, false, 345), (1, false, 1), (2, false, 1)], [1]), (16, [(0, false, 345), (1, false, 1), (2, false, 1)], []), (17, [(0, false, 345), (1, false, 1), (2, false, 1)], [345]), (18, [(0, false, 345), (1, false, 1), (2, false, 1)], [1, 345]), (19, [(0, false, 345), (1, false, 1), (2, false, 1)], [1, 1, 345]), (22, [(0, false, 345), (1, false, 1), (2, false, 1)], [1])]
def kS_cutOf : zP := [(669, 2, zhq 2 []), (1023, 3, (zkq [345, 1, 1] 1 jy))]
set_option maxRecDepth 100000 in
theorem kz_X12_cutOf : zdo r_X12_cutOf (zkq [345, 1, 1] 1 jy) :=
  zdo_kq kS_cutOf (S_8, [(669, 2, [1], [0, 0]), (1023, 3, [1], [345, 1, 1])]) kt_cutOf fo_X12 rfl (zs_cons rfl (zdo_hv (by decide) (by decide) : zdo r_X12_noSentence (zhq 2 [])) (zs_cons rfl kz_X12_cutAt zs_nil)) k_X12_cutOf (kpc_cons rfl (hq_call (rt := 2) (Wr := []) jy_ag (by decide +kernel)) (kpc_cons rfl (kq_call (tags := [345, 1, 1]) (rt := 1) (K := jy)) kpc_nil)) jy_ag (by decide) (by decide) (by decide +kernel)
def kt_least : List kE := [(0, [(0, false, 345), (1, false, 1)], []), (1, [(0, false, 345), (1, false, 1)], [345]), (2, [(0, false, 345), (1, false, 1)], [1, 345]), (5, [(0, false, 345), (1, false, 1)], [1]), (8, [(0, false, 345), (1, false, 1)], []), (9, [(0, false, 345), (1, false, 1)], [1]), (10, [(0, false, 345), (1, false, 1)], []), (11, [(0, false, 345), (1, false, 1)], [345]), (12, [(0, false, 345), (1, false, 1)], [1, 345]), (15, [(0, false, 345), (1, false, 1)], [1]), (18, [(0, false, 345), (1, false, 1)], [1, 1]), (21, [(0, false, 345), (1, false, 1)], []), (23, [(0, false, 345), (1, false, 1)], [1]), (26, [(0, false, 345), (1, false, 1)], []), (27, [(0, false, 345), (1, false, 1)], [345]), (28, [(0, false, 345), (1, false, 1)], [1, 345]), (29, [(0, false, 345), (1, false, 1)], [1, 1, 345]), (32, [(0, false, 345), (1, false, 1)], [1])]
def kS_least : zP := [(669, 2, zhq 2 []), (690, 2, zhq 1 []), (1032, 3, (zkq [345, 1, 1] 1 jy))]
set_option maxRecDepth 100000 in
theorem kz_X12_least : zdo r_X12_least (zkq [345, 1] 1 jy) :=
  zdo_kq kS_least (S_8, [(669, 2, [1], [0, 0]), (690, 2, [1], [0, 0]), (1032, 3, [1], [345, 1, 1])]) kt_least fo_X12 rfl (zs_cons rfl (zdo_hv (by decide) (by decide) : zdo r_X12_noSentence (zhq 2 [])) (zs_cons rfl (zdo_hv (by decide) (by decide) : zdo r_X12_countAt (zhq 1 [])) (zs_cons rfl kz_X12_leastCut zs_nil))) k_X12_least (kpc_cons rfl (hq_call (rt := 2) (Wr := []) jy_ag (by decide +kernel)) (kpc_cons rfl (hq_call (rt := 1) (Wr := []) jy_ag (by decide +kernel)) (kpc_cons rfl (kq_call (tags := [345, 1, 1]) (rt := 1) (K := jy)) kpc_nil))) jy_ag (by decide) (by decide) (by decide +kernel)
def kt_entry : List kE := [(0, [(0, false, 345), (1, false, 1), (2, false, 1)], []), (1, [(0, false, 345), (1, false, 1), (2, false, 1)], [345]), (2, [(0, false, 345), (1, false, 1), (2, false, 1)], [1, 345]), (5, [(0, false, 345), (1, false, 1), (2, false, 1)], [1]), (8, [(0, false, 345), (1, false, 1), (2, false, 1)], []), (9, [(0, false, 345), (1, false, 1), (2, false, 1)], [1]), (10, [(0, false, 345), (1, false, 1), (2, false, 1)], []), (11, [(0, false, 345), (1, false, 1), (2, false, 1)], [345]), (14, [(0, false, 345), (1, false, 1), (2, false, 1)], []), (15, [(0, false, 345), (1, false, 1), (2, false, 1)], [1]), (64, [(0, false, 345), (1, false, 1), (2, false, 1)], []), (65, [(0, false, 345), (1, false, 1), (2, false, 1)], [345]), (68, [(0, false, 345), (1, false, 1), (2, false, 1)], [350]), (69, [(0, false, 345), (1, false, 1), (2, false, 1)], [1, 350]), (70, [(0, false, 345), (1, false, 1), (2, false, 1)], [1]), (71, [(0, false, 345), (1, false, 1), (2, false, 1)], []), (72, [(0, false, 345), (1, false, 1), (2, false, 1)], [345]), (75, [(0, false, 345), (1, false, 1), (2, false, 1)], [351]), (76, [(0, false, 345), (1, false, 1), (2, false, 1)], [1, 351]), (77, [(0, false, 345), (1, false, 1), (2, false, 1)], [1]), (78, [(0, false, 345), (1, false, 1), (2, false, 1)], []), (79, [(0, false, 345), (1, false, 1), (2, false, 1)], [345]), (82, [(0, false, 345), (1, false, 1), (2, false, 1)], [352]), (83, [(0, false, 345), (1, false, 1), (2, false, 1)], [1, 352]), (84, [(0, false, 345), (1, false, 1), (2, false, 1)], [1]), (85, [(0, false, 345), (1, false, 1), (2, false, 1)], []), (86, [(0, false, 345), (1, false, 1), (2, false, 1)], [345]), (89, [(0, false, 345), (1, false, 1), (2, false, 1)], [353]), (90, [(0, false, 345), (1, false, 1), (2, false, 1)], [1, 353]), (91, [(0, false, 345), (1, false, 1), (2, false, 1)], [1]), (92, [(0, false, 345), (1, false, 1), (2, false, 1)], []), (93, [(0, false, 345), (1, false, 1), (2, false, 1)], [345]), (96, [(0, false, 345), (1, false, 1), (2, false, 1)], [354]), (97, [(0, false, 345), (1, false, 1), (2, false, 1)], [1, 354]), (98, [(0, false, 345), (1, false, 1), (2, false, 1)], [1]), (99, [(0, false, 345), (1, false, 1), (2, false, 1)], []), (100, [(0, false, 345), (1, false, 1), (2, false, 1)], [345]), (103, [(0, false, 345), (1, false, 1), (2, false, 1)], [355]), (104, [(0, false, 345), (1, false, 1), (2, false, 1)], [1, 355]), (105, [(0, false, 345), (1, false, 1), (2, false, 1)], [1]), (106, [(0, false, 345), (1, false, 1), (2, false, 1)], []), (107, [(0, false, 345), (1, false, 1), (2, false, 1)], [345]), (110, [(0, false, 345), (1, false, 1), (2, false, 1)], [0]), (111, [(0, false, 345), (1, false, 1), (2, false, 1)], [0]), (112, [(0, false, 345), (1, false, 1), (2, false, 1)], [1, 0]), (115, [(0, false, 345), (1, false, 1), (2, false, 1)], [1]), (118, [(0, false, 345), (1, false, 1), (2, false, 1)], []), (119, [(0, false, 345), (1, false, 1), (2, false, 1)], [1]), (122, [(0, false, 345), (1, false, 1), (2, false, 1)], []), (123, [(0, false, 345), (1, false, 1), (2, false, 1)], [1]), (124, [(0, false, 345), (1, false, 1), (2, false, 1)], []), (125, [(0, false, 345), (1, false, 1), (2, false, 1)], [345]), (128, [(0, false, 345), (1, false, 1), (2, false, 1)], [0]), (129, [(0, false, 345), (1, false, 1), (2, false, 1)], [0]), (130, [(0, false, 345), (1, false, 1), (2, false, 1)], [1, 0]), (133, [(0, false, 345), (1, false, 1), (2, false, 1)], [1]), (136, [(0, false, 345), (1, false, 1), (2, false, 1)], []), (137, [(0, false, 345), (1, false, 1), (2, false, 1)], [1]), (140, [(0, false, 345), (1, false, 1), (2, false, 1)], []), (141, [(0, false, 345), (1, false, 1), (2, false, 1)], [1]), (142, [(0, false, 345), (1, false, 1), (2, false, 1)], []), (143, [(0, false, 345), (1, false, 1), (2, false, 1)], [345]), (144, [(0, false, 345), (1, false, 1), (2, false, 1)], [1, 345]), (147, [(0, false, 345), (1, false, 1), (2, false, 1)], [1]), (148, [(0, false, 345), (1, false, 1), (2, false, 1)], []), (150, [(0, false, 345), (1, false, 1), (2, false, 1)], [1])]
def kS_entry : zP := [(475, 2, zhq 2 []), (924, 1, zq_lay8), (933, 2, zhq 2 []), (942, 2, zhq 1 [])]
set_option maxRecDepth 100000 in
theorem kz_X12_entry : zdo r_X12_entry (zkq [345, 1, 1] 1 jy) :=
  zdo_kq kS_entry (S_8, [(475, 2, [1], [0, 0]), (924, 1, [], [345]), (933, 2, [1], [0, 0]), (942, 2, [1], [0, 0])]) kt_entry fo_X12 rfl (zs_cons rfl (zdo_hv (by decide) (by decide) : zdo r_X12_hasBit (zhq 2 [])) (zs_cons rfl zc_X12_lay (zs_cons rfl (zdo_hv (by decide) (by decide) : zdo r_X12_noEntry (zhq 2 [])) (zs_cons rfl (zdo_hv (by decide) (by decide) : zdo r_X12_harmoniesWith (zhq 1 [])) zs_nil)))) k_X12_entry (kpc_cons rfl (hq_call (rt := 2) (Wr := []) jy_ag (by decide +kernel)) (kpc_cons rfl lay_call (kpc_cons rfl (hq_call (rt := 2) (Wr := []) jy_ag (by decide +kernel)) (kpc_cons rfl (hq_call (rt := 1) (Wr := []) jy_ag (by decide +kernel)) kpc_nil)))) jy_ag (by decide) (by decide) (by decide +kernel)
def kt_postulate : List kE := [(0, [(0, false, 345), (1, false, 1), (2, false, 1)], []), (1, [(0, false, 345), (1, false, 1), (2, false, 1)], [345]), (2, [(0, false, 345), (1, false, 1), (2, false, 1)], [1, 345]), (5, [(0, false, 345), (1, false, 1), (2, false, 1)], [1]), (8, [(0, false, 345), (1, false, 1), (2, false, 1)], []), (9, [(0, false, 345), (1, false, 1), (2, false, 1)], [1]), (10, [(0, false, 345), (1, false, 1), (2, false, 1)], []), (11, [(0, false, 345), (1, false, 1), (2, false, 1)], [1]), (12, [(0, false, 345), (1, false, 1), (2, false, 1)], [0]), (13, [(0, false, 345), (1, false, 1), (2, false, 1)], [0, 0]), (16, [(0, false, 345), (1, false, 1), (2, false, 1)], [0, 0, 0]), (19, [(0, false, 345), (1, false, 1), (2, false, 1)], [1]), (22, [(0, false, 345), (1, false, 1), (2, false, 1)], []), (24, [(0, false, 345), (1, false, 1), (2, false, 1)], [1]), (25, [(0, false, 345), (1, false, 1), (2, false, 1)], []), (26, [(0, false, 345), (1, false, 1), (2, false, 1)], [345]), (27, [(0, false, 345), (1, false, 1), (2, false, 1)], [1, 345]), (30, [(0, false, 345), (1, false, 1), (2, false, 1)], [1]), (33, [(0, false, 345), (1, false, 1), (2, false, 1)], [1, 1]), (36, [(0, false, 345), (1, false, 1), (2, false, 1)], []), (38, [(0, false, 345), (1, false, 1), (2, false, 1)], [1]), (39, [(0, false, 345), (1, false, 1), (2, false, 1)], []), (40, [(0, false, 345), (1, false, 1), (2, false, 1)], [345]), (41, [(0, false, 345), (1, false, 1), (2, false, 1)], [1, 345]), (42, [(0, false, 345), (1, false, 1), (2, false, 1)], [1, 1, 345]), (45, [(0, false, 345), (1, false, 1), (2, false, 1)], [1]), (46, [(3, false, 1), (0, false, 345), (1, false, 1), (2, false, 1)], []), (47, [(3, false, 1), (0, false, 345), (1, false, 1), (2, false, 1)], [345]), (50, [(3, false, 1), (0, false, 345), (1, false, 1), (2, false, 1)], [0]), (51, [(3, false, 1), (0, false, 345), (1, false, 1), (2, false, 1)], [1, 0]), (52, [(3, false, 1), (0, false, 345), (1, false, 1), (2, false, 1)], [1, 1, 0]), (53, [(3, false, 1), (0, false, 345), (1, false, 1), (2, false, 1)], [1, 0]), (54, [(3, false, 1), (0, false, 345), (1, false, 1), (2, false, 1)], [1]), (56, [(4, false, 1), (3, false, 1), (0, false, 345), (1, false, 1), (2, false, 1)], []), (57, [(4, false, 1), (3, false, 1), (0, false, 345), (1, false, 1), (2, false, 1)], [1]), (59, [(5, false, 1), (4, false, 1), (3, false, 1), (0, false, 345), (1, false, 1), (2, false, 1)], []), (60, [(5, false, 1), (4, false, 1), (3, false, 1), (0, false, 345), (1, false, 1), (2, false, 1)], [1]), (63, [(5, false, 1), (4, false, 1), (3, false, 1), (0, false, 345), (1, false, 1), (2, false, 1)], []), (64, [(5, false, 1), (4, false, 1), (3, false, 1), (0, false, 345), (1, false, 1), (2, false, 1)], [345]), (66, [(5, false, 1), (4, false, 1), (3, false, 1), (0, false, 345), (1, false, 1), (2, false, 1)], [1, 345]), (67, [(5, false, 1), (4, false, 1), (3, false, 1), (0, false, 345), (1, false, 1), (2, false, 1)], [1, 1, 345]), (68, [(5, false, 1), (4, false, 1), (3, false, 1), (0, false, 345), (1, false, 1), (2, false, 1)], [1, 1, 1, 345]), (71, [(5, false, 1), (4, false, 1), (3, false, 1), (0, false, 345), (1, false, 1), (2, false, 1)], [1]), (74, [(5, false, 1), (4, false, 1), (3, false, 1), (0, false, 345), (1, false, 1), (2, false, 1)], []), (75, [(5, false, 1), (4, false, 1), (3, false, 1), (0, false, 345), (1, false, 1), (2, false, 1)], [1]), (78, [(5, false, 1), (4, false, 1), (3, false, 1), (0, false, 345), (1, false, 1), (2, false, 1)], []), (79, [(5, false, 1), (4, false, 1), (3, false, 1), (0, false, 345), (1, false, 1), (2, false, 1)], [1]), (81, [(5, false, 1), (4, false, 1), (3, false, 1), (0, false, 345), (1, false, 1), (2, false, 1)], []), (84, [(5, false, 1), (4, false, 1), (3, false, 1), (0, false, 345), (1, false, 1), (2, false, 1)], []), (85, [(5, false, 1), (4, false, 1), (3, false, 1), (0, false, 345), (1, false, 1), (2, false, 1)], [1]), (86, [(5, false, 1), (4, false, 1), (3, false, 1), (0, false, 345), (1, false, 1), (2, false, 1)], [1, 1]), (89, [(5, false, 1), (4, false, 1), (3, false, 1), (0, false, 345), (1, false, 1), (2, false, 1)], []), (90, [(5, false, 1), (4, false, 1), (3, false, 1), (0, false, 345), (1, false, 1), (2, false, 1)], [1]), (93, [(5, false, 1), (4, false, 1), (3, false, 1), (0, false, 345), (1, false, 1), (2, false, 1)], []), (94, [(5, false, 1), (4, false, 1), (3, false, 1), (0, false, 345), (1, false, 1), (2, false, 1)], [345]), (95, [(5, false, 1), (4, false, 1), (3, false, 1), (0, false, 345), (1, false, 1), (2, false, 1)], [345, 345]), (98, [(5, false, 1), (4, false, 1), (3, false, 1), (0, false, 345), (1, false, 1), (2, false, 1)], [0, 345]), (99, [(5, false, 1), (4, false, 1), (3, false, 1), (0, false, 345), (1, false, 1), (2, false, 1)], [1, 0, 345]), (100, [(5, false, 1), (4, false, 1), (3, false, 1), (0, false, 345), (1, false, 1), (2, false, 1)], [1, 1, 0, 345]), (103, [(5, false, 1), (4, false, 1), (3, false, 1), (0, false, 345), (1, false, 1), (2, false, 1)], [1]), (106, [(5, false, 1), (4, false, 1), (3, false, 1), (0, false, 345), (1, false, 1), (2, false, 1)], []), (107, [(5, false, 1), (4, false, 1), (3, false, 1), (0, false, 345), (1, false, 1), (2, false, 1)], [1]), (110, [(5, false, 1), (4, false, 1), (3, false, 1), (0, false, 345), (1, false, 1), (2, false, 1)], []), (111, [(5, false, 1), (4, false, 1), (3, false, 1), (0, false, 345), (1, false, 1), (2, false, 1)], [1]), (113, [(5, false, 1), (4, false, 1), (3, false, 1), (0, false, 345), (1, false, 1), (2, false, 1)], []), (116, [(5, false, 1), (4, false, 1), (3, false, 1), (0, false, 345), (1, false, 1), (2, false, 1)], []), (117, [(5, false, 1), (4, false, 1), (3, false, 1), (0, false, 345), (1, false, 1), (2, false, 1)], [1]), (118, [(5, false, 1), (4, false, 1), (3, false, 1), (0, false, 345), (1, false, 1), (2, false, 1)], [1, 1]), (121, [(5, false, 1), (4, false, 1), (3, false, 1), (0, false, 345), (1, false, 1), (2, false, 1)], []), (122, [(5, false, 1), (4, false, 1), (3, false, 1), (0, false, 345), (1, false, 1), (2, false, 1)], [1]), (124, [(6, false, 1), (5, false, 1), (4, false, 1), (3, false, 1), (0, false, 345), (1, false, 1), (2, false, 1)], []), (126, [(6, false, 1), (5, false, 1), (4, false, 1), (3, false, 1), (0, false, 345), (1, false, 1), (2, false, 1)], [1]), (127, [(6, false, 1), (5, false, 1), (4, false, 1), (3, false, 1), (0, false, 345), (1, false, 1), (2, false, 1)], [345, 1]), (130, [(6, false, 1), (5, false, 1), (4, false, 1), (3, false, 1), (0, false, 345), (1, false, 1), (2, false, 1)], [0, 1]), (133, [(6, false, 1), (5, false, 1), (4, false, 1), (3, false, 1), (0, false, 345), (1, false, 1), (2, false, 1)], []), (135, [(6, false, 1), (5, false, 1), (4, false, 1), (3, false, 1), (0, false, 345), (1, false, 1), (2, false, 1)], [1]), (138, [(6, false, 1), (5, false, 1), (4, false, 1), (3, false, 1), (0, false, 345), (1, false, 1), (2, false, 1)], []), (139, [(6, false, 1), (5, false, 1), (4, false, 1), (3, false, 1), (0, false, 345), (1, false, 1), (2, false, 1)], [1]), (140, [(6, false, 1), (5, false, 1), (4, false, 1), (3, false, 1), (0, false, 345), (1, false, 1), (2, false, 1)], [0]), (142, [(6, false, 1), (5, false, 1), (4, false, 1), (3, false, 1), (0, false, 345), (1, false, 1), (2, false, 1)], [1, 0]), (145, [(6, false, 1), (5, false, 1), (4, false, 1), (3, false, 1), (0, false, 345), (1, false, 1), (2, false, 1)], [1]), (148, [(6, false, 1), (5, false, 1), (4, false, 1), (3, false, 1), (0, false, 345), (1, false, 1), (2, false, 1)], []), (149, [(6, false, 1), (5, false, 1), (4, false, 1), (3, false, 1), (0, false, 345), (1, false, 1), (2, false, 1)], [345]), (151, [(6, false, 1), (5, false, 1), (4, false, 1), (3, false, 1), (0, false, 345), (1, false, 1), (2, false, 1)], [1, 345]), (152, [(6, false, 1), (5, false, 1), (4, false, 1), (3, false, 1), (0, false, 345), (1, false, 1), (2, false, 1)], [1, 1, 345]), (155, [(6, false, 1), (5, false, 1), (4, false, 1), (3, false, 1), (0, false, 345), (1, false, 1), (2, false, 1)], [1]), (158, [(6, false, 1), (5, false, 1), (4, false, 1), (3, false, 1), (0, false, 345), (1, false, 1), (2, false, 1)], []), (159, [(6, false, 1), (5, false, 1), (4, false, 1), (3, false, 1), (0, false, 345), (1, false, 1), (2, false, 1)], [1]), (162, [(6, false, 1), (5, false, 1), (4, false, 1), (3, false, 1), (0, false, 345), (1, false, 1), (2, false, 1)], []), (163, [(6, false, 1), (5, false, 1), (4, false, 1), (3, false, 1), (0, false, 345), (1, false, 1), (2, false, 1)], [1]), (165, [(5, false, 1), (6, false, 1), (4, false, 1), (3, false, 1), (0, false, 345), (1, false, 1), (2, false, 1)], []), (168, [(6, false, 1), (5, false, 1), (4, false, 1), (3, false, 1), (0, false, 345), (1, false, 1), (2, false, 1)], []), (171, [(6, false, 1), (5, false, 1), (4, false, 1), (3, false, 1), (0, false, 345), (1, false, 1), (2, false, 1)], []), (174, [(5, false, 1), (4, false, 1), (3, false, 1), (0, false, 345), (1, false, 1), (2, false, 1)], []), (175, [(5, false, 1), (4, false, 1), (3, false, 1), (0, false, 345), (1, false, 1), (2, false, 1)], [1]), (177, [(6, false, 1), (5, false, 1), (4, false, 1), (3, false, 1), (0, false, 345), (1, false, 1), (2, false, 1)], []), (179, [(6, false, 1), (5, false, 1), (4, false, 1), (3, false, 1), (0, false, 345), (1, false, 1), (2, false, 1)], [1]), (180, [(6, false, 1), (5, false, 1), (4, false, 1), (3, false, 1), (0, false, 345), (1, false, 1), (2, false, 1)], [1, 1]), (183, [(6, false, 1), (5, false, 1), (4, false, 1), (3, false, 1), (0, false, 345), (1, false, 1), (2, false, 1)], []), (185, [(6, false, 1), (5, false, 1), (4, false, 1), (3, false, 1), (0, false, 345), (1, false, 1), (2, false, 1)], [1]), (188, [(6, false, 1), (5, false, 1), (4, false, 1), (3, false, 1), (0, false, 345), (1, false, 1), (2, false, 1)], []), (189, [(6, false, 1), (5, false, 1), (4, false, 1), (3, false, 1), (0, false, 345), (1, false, 1), (2, false, 1)], [345]), (192, [(6, false, 1), (5, false, 1), (4, false, 1), (3, false, 1), (0, false, 345), (1, false, 1), (2, false, 1)], [356]), (193, [(6, false, 1), (5, false, 1), (4, false, 1), (3, false, 1), (0, false, 345), (1, false, 1), (2, false, 1)], [1, 356]), (195, [(6, false, 1), (5, false, 1), (4, false, 1), (3, false, 1), (0, false, 345), (1, false, 1), (2, false, 1)], [1, 1, 356]), (196, [(6, false, 1), (5, false, 1), (4, false, 1), (3, false, 1), (0, false, 345), (1, false, 1), (2, false, 1)], [1, 356]), (198, [(6, false, 1), (5, false, 1), (4, false, 1), (3, false, 1), (0, false, 345), (1, false, 1), (2, false, 1)], [1, 1, 356]), (199, [(6, false, 1), (5, false, 1), (4, false, 1), (3, false, 1), (0, false, 345), (1, false, 1), (2, false, 1)], [1, 356]), (200, [(6, false, 1), (5, false, 1), (4, false, 1), (3, false, 1), (0, false, 345), (1, false, 1), (2, false, 1)], [0]), (201, [(6, false, 1), (5, false, 1), (4, false, 1), (3, false, 1), (0, false, 345), (1, false, 1), (2, false, 1)], [345, 0]), (204, [(6, false, 1), (5, false, 1), (4, false, 1), (3, false, 1), (0, false, 345), (1, false, 1), (2, false, 1)], [346, 0]), (205, [(6, false, 1), (5, false, 1), (4, false, 1), (3, false, 1), (0, false, 345), (1, false, 1), (2, false, 1)], [1, 346, 0]), (206, [(6, false, 1), (5, false, 1), (4, false, 1), (3, false, 1), (0, false, 345), (1, false, 1), (2, false, 1)], [1, 1, 346, 0]), (207, [(6, false, 1), (5, false, 1), (4, false, 1), (3, false, 1), (0, false, 345), (1, false, 1), (2, false, 1)], [1, 346, 0]), (209, [(6, false, 1), (5, false, 1), (4, false, 1), (3, false, 1), (0, false, 345), (1, false, 1), (2, false, 1)], [1, 1, 346, 0]), (210, [(6, false, 1), (5, false, 1), (4, false, 1), (3, false, 1), (0, false, 345), (1, false, 1), (2, false, 1)], [1, 346, 0]), (211, [(6, false, 1), (5, false, 1), (4, false, 1), (3, false, 1), (0, false, 345), (1, false, 1), (2, false, 1)], [0, 0]), (212, [(6, false, 1), (5, false, 1), (4, false, 1), (3, false, 1), (0, false, 345), (1, false, 1), (2, false, 1)], [0]), (213, [(6, false, 1), (5, false, 1), (4, false, 1), (3, false, 1), (0, false, 345), (1, false, 1), (2, false, 1)], [345, 0]), (216, [(6, false, 1), (5, false, 1), (4, false, 1), (3, false, 1), (0, false, 345), (1, false, 1), (2, false, 1)], [356, 0]), (217, [(6, false, 1), (5, false, 1), (4, false, 1), (3, false, 1), (0, false, 345), (1, false, 1), (2, false, 1)], [1, 356, 0]), (218, [(6, false, 1), (5, false, 1), (4, false, 1), (3, false, 1), (0, false, 345), (1, false, 1), (2, false, 1)], [345, 1, 356, 0]), (221, [(6, false, 1), (5, false, 1), (4, false, 1), (3, false, 1), (0, false, 345), (1, false, 1), (2, false, 1)], [0, 1, 356, 0]), (222, [(6, false, 1), (5, false, 1), (4, false, 1), (3, false, 1), (0, false, 345), (1, false, 1), (2, false, 1)], [1, 356, 0]), (224, [(6, false, 1), (5, false, 1), (4, false, 1), (3, false, 1), (0, false, 345), (1, false, 1), (2, false, 1)], [1, 1, 356, 0]), (225, [(6, false, 1), (5, false, 1), (4, false, 1), (3, false, 1), (0, false, 345), (1, false, 1), (2, false, 1)], [1, 356, 0]), (226, [(6, false, 1), (5, false, 1), (4, false, 1), (3, false, 1), (0, false, 345), (1, false, 1), (2, false, 1)], [0, 0]), (229, [(6, false, 1), (5, false, 1), (4, false, 1), (3, false, 1), (0, false, 345), (1, false, 1), (2, false, 1)], [0, 0, 0]), (230, [(6, false, 1), (5, false, 1), (4, false, 1), (3, false, 1), (0, false, 345), (1, false, 1), (2, false, 1)], [0, 0]), (231, [(6, false, 1), (5, false, 1), (4, false, 1), (3, false, 1), (0, false, 345), (1, false, 1), (2, false, 1)], [0]), (232, [(6, false, 1), (5, false, 1), (4, false, 1), (3, false, 1), (0, false, 345), (1, false, 1), (2, false, 1)], [0, 0]), (233, [(6, false, 1), (5, false, 1), (4, false, 1), (3, false, 1), (0, false, 345), (1, false, 1), (2, false, 1)], [1]), (236, [(6, false, 1), (5, false, 1), (4, false, 1), (3, false, 1), (0, false, 345), (1, false, 1), (2, false, 1)], []), (237, [(6, false, 1), (5, false, 1), (4, false, 1), (3, false, 1), (0, false, 345), (1, false, 1), (2, false, 1)], [1]), (240, [(6, false, 1), (5, false, 1), (4, false, 1), (3, false, 1), (0, false, 345), (1, false, 1), (2, false, 1)], []), (241, [(6, false, 1), (5, false, 1), (4, false, 1), (3, false, 1), (0, false, 345), (1, false, 1), (2, false, 1)], [1]), (243, [(5, false, 1), (6, false, 1), (4, false, 1), (3, false, 1), (0, false, 345), (1, false, 1), (2, false, 1)], []), (246, [(6, false, 1), (5, false, 1), (4, false, 1), (3, false, 1), (0, false, 345), (1, false, 1), (2, false, 1)], []), (249, [(5, false, 1), (4, false, 1), (3, false, 1), (0, false, 345), (1, false, 1), (2, false, 1)], []), (251, [(5, false, 1), (4, false, 1), (3, false, 1), (0, false, 345), (1, false, 1), (2, false, 1)], [1]), (254, [(5, false, 1), (4, false, 1), (3, false, 1), (0, false, 345), (1, false, 1), (2, false, 1)], []), (255, [(5, false, 1), (4, false, 1), (3, false, 1), (0, false, 345), (1, false, 1), (2, false, 1)], [1]), (258, [(5, false, 1), (4, false, 1), (3, false, 1), (0, false, 345), (1, false, 1), (2, false, 1)], []), (259, [(5, false, 1), (4, false, 1), (3, false, 1), (0, false, 345), (1, false, 1), (2, false, 1)], [1])]
def kS_postulate : zP := [(457, 3, zhq 2 []), (475, 2, zhq 2 []), (669, 2, zhq 2 []), (690, 2, zhq 1 []), (969, 4, zhq 2 []), (1032, 3, (zkq [345, 1, 1] 1 jy)), (1065, 3, zhq 2 [])]
set_option maxRecDepth 100000 in
theorem kz_X12_postulate : zdo r_X12_postulate (zkq [345, 1, 1] 1 jy) :=
  zdo_kq kS_postulate (S_8, [(457, 3, [1], [0, 0, 0]), (475, 2, [1], [0, 0]), (669, 2, [1], [0, 0]), (690, 2, [1], [0, 0]), (969, 4, [1], [0, 0, 0, 0]), (1032, 3, [1], [345, 1, 1]), (1065, 3, [1], [0, 0, 0])]) kt_postulate fo_X12 rfl (zs_cons rfl (zdo_hv (by decide) (by decide) : zdo r_X12_in (zhq 2 [])) (zs_cons rfl (zdo_hv (by decide) (by decide) : zdo r_X12_hasBit (zhq 2 [])) (zs_cons rfl (zdo_hv (by decide) (by decide) : zdo r_X12_noSentence (zhq 2 [])) (zs_cons rfl (zdo_hv (by decide) (by decide) : zdo r_X12_countAt (zhq 1 [])) (zs_cons rfl (zdo_hv (by decide) (by decide) : zdo r_X12_follows (zhq 2 [])) (zs_cons rfl kz_X12_leastCut (zs_cons rfl (zdo_hv (by decide) (by decide) : zdo r_X12_isOfReason (zhq 2 [])) zs_nil))))))) k_X12_postulate (kpc_cons rfl (hq_call (rt := 2) (Wr := []) jy_ag (by decide +kernel)) (kpc_cons rfl (hq_call (rt := 2) (Wr := []) jy_ag (by decide +kernel)) (kpc_cons rfl (hq_call (rt := 2) (Wr := []) jy_ag (by decide +kernel)) (kpc_cons rfl (hq_call (rt := 1) (Wr := []) jy_ag (by decide +kernel)) (kpc_cons rfl (hq_call (rt := 2) (Wr := []) jy_ag (by decide +kernel)) (kpc_cons rfl (kq_call (tags := [345, 1, 1]) (rt := 1) (K := jy)) (kpc_cons rfl (hq_call (rt := 2) (Wr := []) jy_ag (by decide +kernel)) kpc_nil))))))) jy_ag (by decide) (by decide) (by decide +kernel)
def kt_many : List kE := [(0, [(0, false, 345), (1, false, 1)], []), (1, [(0, false, 345), (1, false, 1)], [345]), (4, [(0, false, 345), (1, false, 1)], []), (5, [(0, false, 345), (1, false, 1)], [1]), (56, [(0, false, 345), (1, false, 1)], []), (57, [(0, false, 345), (1, false, 1)], [345]), (60, [(0, false, 345), (1, false, 1)], [0]), (61, [(0, false, 345), (1, false, 1)], []), (62, [(0, false, 345), (1, false, 1)], [345]), (65, [(0, false, 345), (1, false, 1)], [0]), (66, [(0, false, 345), (1, false, 1)], []), (67, [(0, false, 345), (1, false, 1)], [345]), (70, [(0, false, 345), (1, false, 1)], [0]), (71, [(0, false, 345), (1, false, 1)], [0]), (74, [(0, false, 345), (1, false, 1)], [1]), (75, [(0, false, 345), (1, false, 1)], []), (76, [(0, false, 345), (1, false, 1)], [345]), (79, [(0, false, 345), (1, false, 1)], [0]), (80, [(0, false, 345), (1, false, 1)], []), (81, [(0, false, 345), (1, false, 1)], [345]), (84, [(0, false, 345), (1, false, 1)], [0]), (85, [(0, false, 345), (1, false, 1)], []), (86, [(0, false, 345), (1, false, 1)], [345]), (89, [(0, false, 345), (1, false, 1)], [0]), (90, [(0, false, 345), (1, false, 1)], []), (91, [(0, false, 345), (1, false, 1)], [345]), (94, [(0, false, 345), (1, false, 1)], [0]), (95, [(0, false, 345), (1, false, 1)], []), (96, [(0, false, 345), (1, false, 1)], [345]), (97, [(0, false, 345), (1, false, 1)], [345, 345]), (100, [(0, false, 345), (1, false, 1)], [0, 345]), (103, [(0, false, 345), (1, false, 1)], [1]), (104, [(0, false, 345), (1, false, 1)], []), (105, [(0, false, 345), (1, false, 1)], [345]), (108, [(0, false, 345), (1, false, 1)], [0]), (109, [(0, false, 345), (1, false, 1)], []), (111, [(0, false, 345), (1, false, 1)], [1])]
def kS_many : zP := [(679, 1, zhq 1 []), (924, 1, zq_lay8), (960, 2, zhq 1 [])]
set_option maxRecDepth 100000 in
theorem kz_X12_many : zdo r_X12_many (zkq [345, 1] 1 jy) :=
  zdo_kq kS_many (S_8, [(679, 1, [1], [0]), (924, 1, [], [345]), (960, 2, [1], [0, 0])]) kt_many fo_X12 rfl (zs_cons rfl (zdo_hv (by decide) (by decide) : zdo r_X12_countBits (zhq 1 [])) (zs_cons rfl zc_X12_lay (zs_cons rfl (zdo_hv (by decide) (by decide) : zdo r_X12_countWorlds (zhq 1 [])) zs_nil))) k_X12_many (kpc_cons rfl (hq_call (rt := 1) (Wr := []) jy_ag (by decide +kernel)) (kpc_cons rfl lay_call (kpc_cons rfl (hq_call (rt := 1) (Wr := []) jy_ag (by decide +kernel)) kpc_nil))) jy_ag (by decide) (by decide) (by decide +kernel)
def kt_layRules : List kE := [(0, [(0, false, 345)], []), (1, [(0, false, 345)], [345]), (4, [(0, false, 345)], []), (5, [(0, false, 345)], [345]), (8, [(0, false, 345)], [0]), (11, [(0, false, 345)], []), (12, [(0, false, 345)], []), (13, [(0, false, 345)], [345]), (14, [(0, false, 345)], [1, 345]), (17, [(0, false, 345)], []), (18, [(0, false, 345)], [345]), (19, [(0, false, 345)], [1, 345]), (22, [(0, false, 345)], []), (23, [(0, false, 345)], [345]), (24, [(0, false, 345)], [1, 345]), (27, [(0, false, 345)], []), (28, [(0, false, 345)], [1]), (29, [(1, false, 1), (0, false, 345)], []), (30, [(1, false, 1), (0, false, 345)], [1]), (31, [(1, false, 1), (0, false, 345)], [1, 1]), (32, [(1, false, 1), (0, false, 345)], [345, 1, 1]), (35, [(1, false, 1), (0, false, 345)], [0, 1, 1]), (36, [(1, false, 1), (0, false, 345)], [1, 1]), (39, [(1, false, 1), (0, false, 345)], []), (40, [(1, false, 1), (0, false, 345)], [345]), (41, [(1, false, 1), (0, false, 345)], [1, 345]), (44, [(1, false, 1), (0, false, 345)], [1]), (47, [(1, false, 1), (0, false, 345)], []), (48, [(1, false, 1), (0, false, 345)], [345]), (51, [(1, false, 1), (0, false, 345)], [365]), (52, [(1, false, 1), (0, false, 345)], [345, 365]), (55, [(1, false, 1), (0, false, 345)], [0, 365]), (56, [(1, false, 1), (0, false, 345)], [1, 0, 365]), (57, [(1, false, 1), (0, false, 345)], []), (58, [(1, false, 1), (0, false, 345)], [345]), (59, [(1, false, 1), (0, false, 345)], [345, 345]), (62, [(1, false, 1), (0, false, 345)], [0, 345]), (63, [(1, false, 1), (0, false, 345)], [1, 0, 345]), (64, [(1, false, 1), (0, false, 345)], [1, 345]), (67, [(1, false, 1), (0, false, 345)], []), (68, [(1, false, 1), (0, false, 345)], [345]), (71, [(1, false, 1), (0, false, 345)], [0]), (74, [(1, false, 1), (0, false, 345)], []), (75, [(1, false, 1), (0, false, 345)], [1]), (78, [(1, false, 1), (0, false, 345)], []), (79, [(1, false, 1), (0, false, 345)], [345]), (80, [(1, false, 1), (0, false, 345)], [1, 345]), (81, [(1, false, 1), (0, false, 345)], [345, 1, 345]), (84, [(1, false, 1), (0, false, 345)], [366, 1, 345]), (85, [(1, false, 1), (0, false, 345)], [1, 366, 1, 345]), (86, [(1, false, 1), (0, false, 345)], [1, 1, 345]), (89, [(1, false, 1), (0, false, 345)], [1]), (90, [(2, false, 1), (1, false, 1), (0, false, 345)], []), (91, [(2, false, 1), (1, false, 1), (0, false, 345)], [345]), (92, [(2, false, 1), (1, false, 1), (0, false, 345)], [1, 345]), (95, [(2, false, 1), (1, false, 1), (0, false, 345)], [345]), (96, [(2, false, 1), (1, false, 1), (0, false, 345)], [1, 345]), (99, [(2, false, 1), (1, false, 1), (0, false, 345)], [345]), (100, [(2, false, 1), (1, false, 1), (0, false, 345)], [345, 345]), (103, [(2, false, 1), (1, false, 1), (0, false, 345)], [0, 345]), (106, [(2, false, 1), (1, false, 1), (0, false, 345)], []), (107, [(2, false, 1), (1, false, 1), (0, false, 345)], [1]), (110, [(2, false, 1), (1, false, 1), (0, false, 345)], []), (111, [(2, false, 1), (1, false, 1), (0, false, 345)], [345]), (114, [(2, false, 1), (1, false, 1), (0, false, 345)], [366]), (115, [(2, false, 1), (1, false, 1), (0, false, 345)], [345, 366]), (118, [(2, false, 1), (1, false, 1), (0, false, 345)], [0, 366]), (119, [(2, false, 1), (1, false, 1), (0, false, 345)], [1, 0, 366]), (120, [(2, false, 1), (1, false, 1), (0, false, 345)], []), (121, [(2, false, 1), (1, false, 1), (0, false, 345)], [345]), (122, [(2, false, 1), (1, false, 1), (0, false, 345)], [345, 345]), (125, [(2, false, 1), (1, false, 1), (0, false, 345)], [0, 345]), (126, [(2, false, 1), (1, false, 1), (0, false, 345)], [1, 0, 345]), (127, [(2, false, 1), (1, false, 1), (0, false, 345)], [1, 345]), (130, [(1, false, 1), (0, false, 345)], []), (133, [(1, false, 1), (0, false, 345)], []), (136, [(1, false, 1), (0, false, 345)], []), (137, [(1, false, 1), (0, false, 345)], [1]), (138, [(1, false, 1), (0, false, 345)], []), (139, [(1, false, 1), (0, false, 345)], [1]), (140, [(1, false, 1), (0, false, 345)], [345, 1]), (143, [(1, false, 1), (0, false, 345)], [0, 1]), (146, [(1, false, 1), (0, false, 345)], []), (147, [(1, false, 1), (0, false, 345)], [345]), (148, [(1, false, 1), (0, false, 345)], [1, 345]), (149, [(1, false, 1), (0, false, 345)], [1, 1, 345]), (150, [(1, false, 1), (0, false, 345)], [1, 345]), (153, [(1, false, 1), (0, false, 345)], []), (154, [(1, false, 1), (0, false, 345)], [345]), (157, [(1, false, 1), (0, false, 345)], [364]), (158, [(1, false, 1), (0, false, 345)], [1, 364]), (159, [(1, false, 1), (0, false, 345)], [0]), (160, [(1, false, 1), (0, false, 345)], [0, 0]), (161, [(1, false, 1), (0, false, 345)], [1]), (164, [(1, false, 1), (0, false, 345)], []), (165, [(1, false, 1), (0, false, 345)], [345]), (168, [(1, false, 1), (0, false, 345)], [364]), (169, [(1, false, 1), (0, false, 345)], [1, 364]), (170, [(1, false, 1), (0, false, 345)], [0]), (171, [(1, false, 1), (0, false, 345)], [0, 0]), (172, [(1, false, 1), (0, false, 345)], [1]), (175, [(1, false, 1), (0, false, 345)], []), (176, [(1, false, 1), (0, false, 345)], [345]), (179, [(1, false, 1), (0, false, 345)], [364]), (180, [(1, false, 1), (0, false, 345)], [1, 364]), (181, [(1, false, 1), (0, false, 345)], [0]), (182, [(1, false, 1), (0, false, 345)], [0, 0]), (183, [(1, false, 1), (0, false, 345)], [1]), (186, [(1, false, 1), (0, false, 345)], []), (187, [(1, false, 1), (0, false, 345)], [345]), (190, [(1, false, 1), (0, false, 345)], [364]), (191, [(1, false, 1), (0, false, 345)], [1, 364]), (192, [(1, false, 1), (0, false, 345)], [0]), (193, [(1, false, 1), (0, false, 345)], [0, 0]), (194, [(1, false, 1), (0, false, 345)], [1]), (197, [(1, false, 1), (0, false, 345)], []), (198, [(1, false, 1), (0, false, 345)], [1]), (201, [(1, false, 1), (0, false, 345)], []), (202, [(1, false, 1), (0, false, 345)], [1]), (203, [(2, false, 1), (1, false, 1), (0, false, 345)], []), (204, [(2, false, 1), (1, false, 1), (0, false, 345)], [345]), (207, [(2, false, 1), (1, false, 1), (0, false, 345)], [367]), (208, [(2, false, 1), (1, false, 1), (0, false, 345)], [1, 367]), (209, [(2, false, 1), (1, false, 1), (0, false, 345)], [1, 1, 367]), (210, [(2, false, 1), (1, false, 1), (0, false, 345)], []), (211, [(2, false, 1), (1, false, 1), (0, false, 345)], [1]), (212, [(3, false, 1), (2, false, 1), (1, false, 1), (0, false, 345)], []), (213, [(3, false, 1), (2, false, 1), (1, false, 1), (0, false, 345)], [1]), (214, [(3, false, 1), (2, false, 1), (1, false, 1), (0, false, 345)], [345, 1]), (217, [(3, false, 1), (2, false, 1), (1, false, 1), (0, false, 345)], [0, 1]), (220, [(3, false, 1), (2, false, 1), (1, false, 1), (0, false, 345)], []), (221, [(3, false, 1), (2, false, 1), (1, false, 1), (0, false, 345)], [345]), (224, [(3, false, 1), (2, false, 1), (1, false, 1), (0, false, 345)], [367]), (225, [(3, false, 1), (2, false, 1), (1, false, 1), (0, false, 345)], [1, 367]), (226, [(3, false, 1), (2, false, 1), (1, false, 1), (0, false, 345)], [1, 367, 1, 367]), (227, [(3, false, 1), (2, false, 1), (1, false, 1), (0, false, 345)], [1, 1, 367]), (228, [(3, false, 1), (2, false, 1), (1, false, 1), (0, false, 345)], [1, 1, 1, 367]), (231, [(3, false, 1), (2, false, 1), (1, false, 1), (0, false, 345)], [1, 1, 367]), (232, [(3, false, 1), (2, false, 1), (1, false, 1), (0, false, 345)], [345, 1, 1, 367]), (233, [(3, false, 1), (2, false, 1), (1, false, 1), (0, false, 345)], [345, 345, 1, 1, 367]), (236, [(3, false, 1), (2, false, 1), (1, false, 1), (0, false, 345)], [362, 345, 1, 1, 367]), (237, [(3, false, 1), (2, false, 1), (1, false, 1), (0, false, 345)], [1, 362, 345, 1, 1, 367]), (238, [(3, false, 1), (2, false, 1), (1, false, 1), (0, false, 345)], [1, 345, 1, 1, 367]), (241, [(3, false, 1), (2, false, 1), (1, false, 1), (0, false, 345)], [1, 1, 1, 367]), (244, [(3, false, 1), (2, false, 1), (1, false, 1), (0, false, 345)], [1, 1, 367]), (245, [(3, false, 1), (2, false, 1), (1, false, 1), (0, false, 345)], [1, 1, 1, 367]), (246, [(3, false, 1), (2, false, 1), (1, false, 1), (0, false, 345)], [1, 1, 1, 1, 367]), (247, [(3, false, 1), (2, false, 1), (1, false, 1), (0, false, 345)], [1, 1, 1, 367]), (250, [(3, false, 1), (2, false, 1), (1, false, 1), (0, false, 345)], [1, 1, 367]), (251, [(3, false, 1), (2, false, 1), (1, false, 1), (0, false, 345)], [1, 1, 1, 367]), (252, [(3, false, 1), (2, false, 1), (1, false, 1), (0, false, 345)], [1, 1, 367]), (253, [(3, false, 1), (2, false, 1), (1, false, 1), (0, false, 345)], []), (256, [(3, false, 1), (2, false, 1), (1, false, 1), (0, false, 345)], []), (259, [(3, false, 1), (2, false, 1), (1, false, 1), (0, false, 345)], []), (262, [(1, false, 1), (3, false, 1), (2, false, 1), (0, false, 345)], []), (265, [(1, false, 1), (0, false, 345)], [])]
def kS_layRules : zP := [(924, 1, zq_lay8), (1083, 2, zhq 2 []), (1092, 2, zhq 0 [(63, 0)]), (1137, 2, zhq 2 [(63, 0)]), (1146, 3, zhq 1 [])]
set_option maxRecDepth 100000 in
theorem kz_X12_layRules : zdo r_X12_layRules (zkq [345] 0 jy) :=
  zdo_kq kS_layRules (S_8, [(924, 1, [], [345]), (1083, 2, [1], [0, 0]), (1092, 2, [], [0, 0]), (1137, 2, [1], [0, 0]), (1146, 3, [1], [0, 0, 0])]) kt_layRules fo_X12 rfl (zs_cons rfl zc_X12_lay (zs_cons rfl (zdo_hv (by decide) (by decide) : zdo r_X12_followsE (zhq 2 [])) (zs_cons rfl (zdo_hv (by decide) (by decide) : zdo r_X12_layE (zhq 0 [(63, 0)])) (zs_cons rfl (zdo_hv (by decide) (by decide) : zdo r_X12_isExtension (zhq 2 [(63, 0)])) (zs_cons rfl (zdo_hv (by decide) (by decide) : zdo r_X12_compareRanks (zhq 1 [])) zs_nil))))) k_X12_layRules (kpc_cons rfl lay_call (kpc_cons rfl (hq_call (rt := 2) (Wr := []) jy_ag (by decide +kernel)) (kpc_cons rfl (hq_call (rt := 0) (Wr := [(63, 0)]) jy_ag (by decide +kernel)) (kpc_cons rfl (hq_call (rt := 2) (Wr := [(63, 0)]) jy_ag (by decide +kernel)) (kpc_cons rfl (hq_call (rt := 1) (Wr := []) jy_ag (by decide +kernel)) kpc_nil))))) jy_ag (by decide) (by decide) (by decide +kernel)
def kt_ruled : List kE := [(0, [(0, false, 345), (1, false, 1), (2, false, 1)], []), (1, [(0, false, 345), (1, false, 1), (2, false, 1)], [345]), (2, [(0, false, 345), (1, false, 1), (2, false, 1)], [1, 345]), (5, [(0, false, 345), (1, false, 1), (2, false, 1)], [1]), (8, [(0, false, 345), (1, false, 1), (2, false, 1)], []), (9, [(0, false, 345), (1, false, 1), (2, false, 1)], [1]), (10, [(0, false, 345), (1, false, 1), (2, false, 1)], []), (11, [(0, false, 345), (1, false, 1), (2, false, 1)], [345]), (14, [(0, false, 345), (1, false, 1), (2, false, 1)], []), (15, [(0, false, 345), (1, false, 1), (2, false, 1)], [1]), (64, [(0, false, 345), (1, false, 1), (2, false, 1)], []), (65, [(0, false, 345), (1, false, 1), (2, false, 1)], [345]), (68, [(0, false, 345), (1, false, 1), (2, false, 1)], [359]), (69, [(0, false, 345), (1, false, 1), (2, false, 1)], [1, 359]), (70, [(0, false, 345), (1, false, 1), (2, false, 1)], [1]), (71, [(0, false, 345), (1, false, 1), (2, false, 1)], []), (72, [(0, false, 345), (1, false, 1), (2, false, 1)], [345]), (75, [(0, false, 345), (1, false, 1), (2, false, 1)], [360]), (76, [(0, false, 345), (1, false, 1), (2, false, 1)], [1, 360]), (77, [(0, false, 345), (1, false, 1), (2, false, 1)], [1]), (78, [(0, false, 345), (1, false, 1), (2, false, 1)], []), (79, [(0, false, 345), (1, false, 1), (2, false, 1)], [345]), (82, [(0, false, 345), (1, false, 1), (2, false, 1)], [361]), (83, [(0, false, 345), (1, false, 1), (2, false, 1)], [1, 361]), (84, [(0, false, 345), (1, false, 1), (2, false, 1)], [1]), (85, [(0, false, 345), (1, false, 1), (2, false, 1)], []), (86, [(0, false, 345), (1, false, 1), (2, false, 1)], [345]), (89, [(0, false, 345), (1, false, 1), (2, false, 1)], [362]), (90, [(0, false, 345), (1, false, 1), (2, false, 1)], [1, 362]), (91, [(0, false, 345), (1, false, 1), (2, false, 1)], [1]), (92, [(0, false, 345), (1, false, 1), (2, false, 1)], []), (93, [(0, false, 345), (1, false, 1), (2, false, 1)], [345]), (96, [(0, false, 345), (1, false, 1), (2, false, 1)], [363]), (97, [(0, false, 345), (1, false, 1), (2, false, 1)], [1, 363]), (98, [(0, false, 345), (1, false, 1), (2, false, 1)], [1]), (99, [(0, false, 345), (1, false, 1), (2, false, 1)], []), (100, [(0, false, 345), (1, false, 1), (2, false, 1)], [345]), (101, [(0, false, 345), (1, false, 1), (2, false, 1)], [1, 345]), (104, [(0, false, 345), (1, false, 1), (2, false, 1)], []), (105, [(0, false, 345), (1, false, 1), (2, false, 1)], [345]), (106, [(0, false, 345), (1, false, 1), (2, false, 1)], [1, 345]), (109, [(0, false, 345), (1, false, 1), (2, false, 1)], [1]), (112, [(0, false, 345), (1, false, 1), (2, false, 1)], []), (113, [(0, false, 345), (1, false, 1), (2, false, 1)], [1]), (116, [(0, false, 345), (1, false, 1), (2, false, 1)], []), (117, [(0, false, 345), (1, false, 1), (2, false, 1)], [1]), (118, [(0, false, 345), (1, false, 1), (2, false, 1)], []), (119, [(0, false, 345), (1, false, 1), (2, false, 1)], [345]), (120, [(0, false, 345), (1, false, 1), (2, false, 1)], [1, 345]), (123, [(0, false, 345), (1, false, 1), (2, false, 1)], [1]), (124, [(0, false, 345), (1, false, 1), (2, false, 1)], []), (125, [(0, false, 345), (1, false, 1), (2, false, 1)], [345]), (126, [(0, false, 345), (1, false, 1), (2, false, 1)], [1, 345]), (129, [(0, false, 345), (1, false, 1), (2, false, 1)], [1]), (130, [(0, false, 345), (1, false, 1), (2, false, 1)], []), (131, [(0, false, 345), (1, false, 1), (2, false, 1)], [345]), (134, [(0, false, 345), (1, false, 1), (2, false, 1)], [367]), (135, [(0, false, 345), (1, false, 1), (2, false, 1)], [1, 367]), (136, [(0, false, 345), (1, false, 1), (2, false, 1)], [1]), (137, [(0, false, 345), (1, false, 1), (2, false, 1)], []), (139, [(0, false, 345), (1, false, 1), (2, false, 1)], [1])]
def kS_ruled : zP := [(1092, 2, zhq 0 [(63, 0)]), (1101, 2, zhq 2 []), (1155, 2, zhq 2 []), (1164, 1, (zkq [345] 0 jy)), (1173, 2, zhq 1 []), (1182, 2, zhq 1 [])]
set_option maxRecDepth 100000 in
theorem kz_X12_ruled : zdo r_X12_ruled (zkq [345, 1, 1] 1 jy) :=
  zdo_kq kS_ruled (S_8, [(1092, 2, [], [0, 0]), (1101, 2, [1], [0, 0]), (1155, 2, [1], [0, 0]), (1164, 1, [], [345]), (1173, 2, [1], [0, 0]), (1182, 2, [1], [0, 0])]) kt_ruled fo_X12 rfl (zs_cons rfl (zdo_hv (by decide) (by decide) : zdo r_X12_layE (zhq 0 [(63, 0)])) (zs_cons rfl (zdo_hv (by decide) (by decide) : zdo r_X12_goes (zhq 2 [])) (zs_cons rfl (zdo_hv (by decide) (by decide) : zdo r_X12_noRule (zhq 2 [])) (zs_cons rfl kz_X12_layRules (zs_cons rfl (zdo_hv (by decide) (by decide) : zdo r_X12_extensionsWith (zhq 1 [])) (zs_cons rfl (zdo_hv (by decide) (by decide) : zdo r_X12_circleOf (zhq 1 [])) zs_nil)))))) k_X12_ruled (kpc_cons rfl (hq_call (rt := 0) (Wr := [(63, 0)]) jy_ag (by decide +kernel)) (kpc_cons rfl (hq_call (rt := 2) (Wr := []) jy_ag (by decide +kernel)) (kpc_cons rfl (hq_call (rt := 2) (Wr := []) jy_ag (by decide +kernel)) (kpc_cons rfl (kq_call (tags := [345]) (rt := 0) (K := jy)) (kpc_cons rfl (hq_call (rt := 1) (Wr := []) jy_ag (by decide +kernel)) (kpc_cons rfl (hq_call (rt := 1) (Wr := []) jy_ag (by decide +kernel)) kpc_nil)))))) jy_ag (by decide) (by decide) (by decide +kernel)
def kt_extensions : List kE := [(0, [(0, false, 345), (1, false, 1)], []), (1, [(0, false, 345), (1, false, 1)], [1]), (2, [(0, false, 345), (1, false, 1)], [0]), (3, [(0, false, 345), (1, false, 1)], [0, 0]), (6, [(0, false, 345), (1, false, 1)], [0, 0, 0]), (9, [(0, false, 345), (1, false, 1)], [1]), (12, [(0, false, 345), (1, false, 1)], []), (14, [(0, false, 345), (1, false, 1)], [1]), (15, [(0, false, 345), (1, false, 1)], []), (16, [(0, false, 345), (1, false, 1)], [345]), (19, [(0, false, 345), (1, false, 1)], []), (20, [(0, false, 345), (1, false, 1)], [1]), (23, [(0, false, 345), (1, false, 1)], []), (24, [(0, false, 345), (1, false, 1)], [345]), (27, [(0, false, 345), (1, false, 1)], [0]), (30, [(0, false, 345), (1, false, 1)], []), (31, [(0, false, 345), (1, false, 1)], [1]), (32, [(0, false, 345), (1, false, 1)], [1, 1]), (35, [(0, false, 345), (1, false, 1)], []), (36, [(0, false, 345), (1, false, 1)], [345]), (39, [(0, false, 345), (1, false, 1)], [0]), (42, [(0, false, 345), (1, false, 1)], []), (43, [(0, false, 345), (1, false, 1)], [345]), (44, [(0, false, 345), (1, false, 1)], [345, 345]), (47, [(0, false, 345), (1, false, 1)], [0, 345]), (50, [(0, false, 345), (1, false, 1)], [0])]
def kS_extensions : zP := [(457, 3, zhq 2 []), (960, 2, zhq 1 []), (1164, 1, (zkq [345] 0 jy))]
set_option maxRecDepth 100000 in
theorem kz_X12_extensions : zdo r_X12_extensions (zkq [345, 1] 1 jy) :=
  zdo_kq kS_extensions (S_8, [(457, 3, [1], [0, 0, 0]), (960, 2, [1], [0, 0]), (1164, 1, [], [345])]) kt_extensions fo_X12 rfl (zs_cons rfl (zdo_hv (by decide) (by decide) : zdo r_X12_in (zhq 2 [])) (zs_cons rfl (zdo_hv (by decide) (by decide) : zdo r_X12_countWorlds (zhq 1 [])) (zs_cons rfl kz_X12_layRules zs_nil))) k_X12_extensions (kpc_cons rfl (hq_call (rt := 2) (Wr := []) jy_ag (by decide +kernel)) (kpc_cons rfl (hq_call (rt := 1) (Wr := []) jy_ag (by decide +kernel)) (kpc_cons rfl (kq_call (tags := [345]) (rt := 0) (K := jy)) kpc_nil))) jy_ag (by decide) (by decide) (by decide +kernel)
def kt_extension : List kE := [(0, [(0, false, 345), (1, false, 1), (2, false, 1)], []), (1, [(0, false, 345), (1, false, 1), (2, false, 1)], [1]), (4, [(0, false, 345), (1, false, 1), (2, false, 1)], []), (5, [(0, false, 345), (1, false, 1), (2, false, 1)], [1]), (6, [(0, false, 345), (1, false, 1), (2, false, 1)], []), (7, [(0, false, 345), (1, false, 1), (2, false, 1)], [1]), (8, [(0, false, 345), (1, false, 1), (2, false, 1)], [0]), (9, [(0, false, 345), (1, false, 1), (2, false, 1)], [0, 0]), (12, [(0, false, 345), (1, false, 1), (2, false, 1)], [0, 0, 0]), (15, [(0, false, 345), (1, false, 1), (2, false, 1)], [1]), (18, [(0, false, 345), (1, false, 1), (2, false, 1)], []), (20, [(0, false, 345), (1, false, 1), (2, false, 1)], [1]), (21, [(0, false, 345), (1, false, 1), (2, false, 1)], []), (22, [(0, false, 345), (1, false, 1), (2, false, 1)], [345]), (25, [(0, false, 345), (1, false, 1), (2, false, 1)], []), (26, [(0, false, 345), (1, false, 1), (2, false, 1)], [1]), (27, [(0, false, 345), (1, false, 1), (2, false, 1)], [1, 1]), (28, [(0, false, 345), (1, false, 1), (2, false, 1)], [1, 1, 1]), (31, [(0, false, 345), (1, false, 1), (2, false, 1)], [1]), (32, [(0, false, 345), (1, false, 1), (2, false, 1)], [345, 1]), (35, [(0, false, 345), (1, false, 1), (2, false, 1)], [0, 1]), (38, [(0, false, 345), (1, false, 1), (2, false, 1)], [1]), (39, [(0, false, 345), (1, false, 1), (2, false, 1)], [345, 1]), (42, [(0, false, 345), (1, false, 1), (2, false, 1)], [0, 1]), (45, [(0, false, 345), (1, false, 1), (2, false, 1)], []), (46, [(0, false, 345), (1, false, 1), (2, false, 1)], [1]), (47, [(0, false, 345), (1, false, 1), (2, false, 1)], []), (48, [(0, false, 345), (1, false, 1), (2, false, 1)], [1]), (49, [(0, false, 345), (1, false, 1), (2, false, 1)], [1, 1]), (52, [(0, false, 345), (1, false, 1), (2, false, 1)], []), (53, [(0, false, 345), (1, false, 1), (2, false, 1)], [345]), (54, [(0, false, 345), (1, false, 1), (2, false, 1)], [345, 345]), (57, [(0, false, 345), (1, false, 1), (2, false, 1)], [365, 345]), (58, [(0, false, 345), (1, false, 1), (2, false, 1)], [1, 365, 345]), (59, [(0, false, 345), (1, false, 1), (2, false, 1)], [1, 345]), (62, [(0, false, 345), (1, false, 1), (2, false, 1)], []), (63, [(0, false, 345), (1, false, 1), (2, false, 1)], [345]), (66, [(0, false, 345), (1, false, 1), (2, false, 1)], [1]), (67, [(0, false, 345), (1, false, 1), (2, false, 1)], []), (68, [(0, false, 345), (1, false, 1), (2, false, 1)], [1]), (71, [(0, false, 345), (1, false, 1), (2, false, 1)], []), (72, [(0, false, 345), (1, false, 1), (2, false, 1)], [345]), (75, [(0, false, 345), (1, false, 1), (2, false, 1)], [365]), (76, [(0, false, 345), (1, false, 1), (2, false, 1)], [1, 365]), (77, [(0, false, 345), (1, false, 1), (2, false, 1)], [1]), (80, [(0, false, 345), (1, false, 1), (2, false, 1)], []), (81, [(0, false, 345), (1, false, 1), (2, false, 1)], [345]), (84, [(0, false, 345), (1, false, 1), (2, false, 1)], [366]), (85, [(0, false, 345), (1, false, 1), (2, false, 1)], [1, 366]), (86, [(0, false, 345), (1, false, 1), (2, false, 1)], [1])]
def kS_extension : zP := [(457, 3, zhq 2 []), (1092, 2, zhq 0 [(63, 0)]), (1164, 1, (zkq [345] 0 jy)), (1191, 1, zhq 1 [])]
set_option maxRecDepth 100000 in
theorem kz_X12_extension : zdo r_X12_extension (zkq [345, 1, 1] 1 jy) :=
  zdo_kq kS_extension (S_8, [(457, 3, [1], [0, 0, 0]), (1092, 2, [], [0, 0]), (1164, 1, [], [345]), (1191, 1, [1], [0])]) kt_extension fo_X12 rfl (zs_cons rfl (zdo_hv (by decide) (by decide) : zdo r_X12_in (zhq 2 [])) (zs_cons rfl (zdo_hv (by decide) (by decide) : zdo r_X12_layE (zhq 0 [(63, 0)])) (zs_cons rfl kz_X12_layRules (zs_cons rfl (zdo_hv (by decide) (by decide) : zdo r_X12_countE (zhq 1 [])) zs_nil)))) k_X12_extension (kpc_cons rfl (hq_call (rt := 2) (Wr := []) jy_ag (by decide +kernel)) (kpc_cons rfl (hq_call (rt := 0) (Wr := [(63, 0)]) jy_ag (by decide +kernel)) (kpc_cons rfl (kq_call (tags := [345]) (rt := 0) (K := jy)) (kpc_cons rfl (hq_call (rt := 1) (Wr := []) jy_ag (by decide +kernel)) kpc_nil)))) jy_ag (by decide) (by decide) (by decide +kernel)
def kt_concluded : List kE := [(0, [(0, false, 345), (1, false, 1), (2, false, 1)], []), (1, [(0, false, 345), (1, false, 1), (2, false, 1)], [345]), (2, [(0, false, 345), (1, false, 1), (2, false, 1)], [1, 345]), (5, [(0, false, 345), (1, false, 1), (2, false, 1)], [1]), (8, [(0, false, 345), (1, false, 1), (2, false, 1)], []), (9, [(0, false, 345), (1, false, 1), (2, false, 1)], [1]), (10, [(0, false, 345), (1, false, 1), (2, false, 1)], []), (11, [(0, false, 345), (1, false, 1), (2, false, 1)], [1]), (12, [(0, false, 345), (1, false, 1), (2, false, 1)], [0]), (13, [(0, false, 345), (1, false, 1), (2, false, 1)], [0, 0]), (16, [(0, false, 345), (1, false, 1), (2, false, 1)], [0, 0, 0]), (19, [(0, false, 345), (1, false, 1), (2, false, 1)], [1]), (22, [(0, false, 345), (1, false, 1), (2, false, 1)], []), (24, [(0, false, 345), (1, false, 1), (2, false, 1)], [1]), (25, [(0, false, 345), (1, false, 1), (2, false, 1)], []), (26, [(0, false, 345), (1, false, 1), (2, false, 1)], [345]), (29, [(0, false, 345), (1, false, 1), (2, false, 1)], []), (30, [(0, false, 345), (1, false, 1), (2, false, 1)], [345]), (33, [(0, false, 345), (1, false, 1), (2, false, 1)], [0]), (36, [(0, false, 345), (1, false, 1), (2, false, 1)], []), (38, [(0, false, 345), (1, false, 1), (2, false, 1)], [1]), (39, [(0, false, 345), (1, false, 1), (2, false, 1)], []), (40, [(0, false, 345), (1, false, 1), (2, false, 1)], [1]), (41, [(0, false, 345), (1, false, 1), (2, false, 1)], [1, 1]), (44, [(0, false, 345), (1, false, 1), (2, false, 1)], []), (45, [(0, false, 345), (1, false, 1), (2, false, 1)], [345]), (48, [(0, false, 345), (1, false, 1), (2, false, 1)], [0]), (51, [(0, false, 345), (1, false, 1), (2, false, 1)], []), (52, [(0, false, 345), (1, false, 1), (2, false, 1)], [345]), (55, [(0, false, 345), (1, false, 1), (2, false, 1)], [0]), (56, [(3, false, 0), (0, false, 345), (1, false, 1), (2, false, 1)], []), (57, [(3, false, 0), (0, false, 345), (1, false, 1), (2, false, 1)], [1]), (59, [(4, false, 1), (3, false, 0), (0, false, 345), (1, false, 1), (2, false, 1)], []), (60, [(4, false, 1), (3, false, 0), (0, false, 345), (1, false, 1), (2, false, 1)], [1]), (62, [(5, false, 1), (4, false, 1), (3, false, 0), (0, false, 345), (1, false, 1), (2, false, 1)], []), (64, [(5, false, 1), (4, false, 1), (3, false, 0), (0, false, 345), (1, false, 1), (2, false, 1)], [1]), (65, [(5, false, 1), (4, false, 1), (3, false, 0), (0, false, 345), (1, false, 1), (2, false, 1)], [0, 1]), (68, [(5, false, 1), (4, false, 1), (3, false, 0), (0, false, 345), (1, false, 1), (2, false, 1)], []), (69, [(5, false, 1), (4, false, 1), (3, false, 0), (0, false, 345), (1, false, 1), (2, false, 1)], [345]), (70, [(5, false, 1), (4, false, 1), (3, false, 0), (0, false, 345), (1, false, 1), (2, false, 1)], [1, 345]), (71, [(5, false, 1), (4, false, 1), (3, false, 0), (0, false, 345), (1, false, 1), (2, false, 1)], [1, 1, 345]), (74, [(5, false, 1), (4, false, 1), (3, false, 0), (0, false, 345), (1, false, 1), (2, false, 1)], [345]), (75, [(5, false, 1), (4, false, 1), (3, false, 0), (0, false, 345), (1, false, 1), (2, false, 1)], [345, 345]), (78, [(5, false, 1), (4, false, 1), (3, false, 0), (0, false, 345), (1, false, 1), (2, false, 1)], [366, 345]), (80, [(5, false, 1), (4, false, 1), (3, false, 0), (0, false, 345), (1, false, 1), (2, false, 1)], [1, 366, 345]), (81, [(5, false, 1), (4, false, 1), (3, false, 0), (0, false, 345), (1, false, 1), (2, false, 1)], [1, 345]), (84, [(5, false, 1), (4, false, 1), (3, false, 0), (0, false, 345), (1, false, 1), (2, false, 1)], [345]), (85, [(5, false, 1), (4, false, 1), (3, false, 0), (0, false, 345), (1, false, 1), (2, false, 1)], [345, 345]), (88, [(5, false, 1), (4, false, 1), (3, false, 0), (0, false, 345), (1, false, 1), (2, false, 1)], [365, 345]), (90, [(5, false, 1), (4, false, 1), (3, false, 0), (0, false, 345), (1, false, 1), (2, false, 1)], [1, 365, 345]), (91, [(5, false, 1), (4, false, 1), (3, false, 0), (0, false, 345), (1, false, 1), (2, false, 1)], [1, 345]), (94, [(5, false, 1), (4, false, 1), (3, false, 0), (0, false, 345), (1, false, 1), (2, false, 1)], []), (96, [(5, false, 1), (4, false, 1), (3, false, 0), (0, false, 345), (1, false, 1), (2, false, 1)], [1]), (97, [(5, false, 1), (4, false, 1), (3, false, 0), (0, false, 345), (1, false, 1), (2, false, 1)], [345, 1]), (98, [(5, false, 1), (4, false, 1), (3, false, 0), (0, false, 345), (1, false, 1), (2, false, 1)], [1, 345, 1]), (101, [(5, false, 1), (4, false, 1), (3, false, 0), (0, false, 345), (1, false, 1), (2, false, 1)], [1, 1]), (104, [(5, false, 1), (4, false, 1), (3, false, 0), (0, false, 345), (1, false, 1), (2, false, 1)], [1]), (105, [(5, false, 1), (4, false, 1), (3, false, 0), (0, false, 345), (1, false, 1), (2, false, 1)], [1, 1]), (108, [(5, false, 1), (4, false, 1), (3, false, 0), (0, false, 345), (1, false, 1), (2, false, 1)], [1]), (109, [(5, false, 1), (4, false, 1), (3, false, 0), (0, false, 345), (1, false, 1), (2, false, 1)], [1, 1]), (110, [(5, false, 1), (4, false, 1), (3, false, 0), (0, false, 345), (1, false, 1), (2, false, 1)], [1]), (112, [(4, false, 1), (5, false, 1), (3, false, 0), (0, false, 345), (1, false, 1), (2, false, 1)], []), (115, [(5, false, 1), (4, false, 1), (3, false, 0), (0, false, 345), (1, false, 1), (2, false, 1)], []), (118, [(5, false, 1), (4, false, 1), (3, false, 0), (0, false, 345), (1, false, 1), (2, false, 1)], []), (119, [(5, false, 1), (4, false, 1), (3, false, 0), (0, false, 345), (1, false, 1), (2, false, 1)], [1]), (120, [(5, false, 1), (4, false, 1), (3, false, 0), (0, false, 345), (1, false, 1), (2, false, 1)], [1, 1]), (123, [(5, false, 1), (4, false, 1), (3, false, 0), (0, false, 345), (1, false, 1), (2, false, 1)], []), (125, [(5, false, 1), (4, false, 1), (3, false, 0), (0, false, 345), (1, false, 1), (2, false, 1)], [1]), (128, [(5, false, 1), (4, false, 1), (3, false, 0), (0, false, 345), (1, false, 1), (2, false, 1)], []), (129, [(5, false, 1), (4, false, 1), (3, false, 0), (0, false, 345), (1, false, 1), (2, false, 1)], [1]), (132, [(5, false, 1), (4, false, 1), (3, false, 0), (0, false, 345), (1, false, 1), (2, false, 1)], []), (133, [(5, false, 1), (4, false, 1), (3, false, 0), (0, false, 345), (1, false, 1), (2, false, 1)], [1]), (136, [(5, false, 1), (4, false, 1), (3, false, 0), (0, false, 345), (1, false, 1), (2, false, 1)], []), (138, [(5, false, 1), (4, false, 1), (3, false, 0), (0, false, 345), (1, false, 1), (2, false, 1)], [1]), (139, [(5, false, 1), (4, false, 1), (3, false, 0), (0, false, 345), (1, false, 1), (2, false, 1)], [0, 1]), (142, [(5, false, 1), (4, false, 1), (3, false, 0), (0, false, 345), (1, false, 1), (2, false, 1)], []), (143, [(5, false, 1), (4, false, 1), (3, false, 0), (0, false, 345), (1, false, 1), (2, false, 1)], [1]), (146, [(5, false, 1), (4, false, 1), (3, false, 0), (0, false, 345), (1, false, 1), (2, false, 1)], []), (147, [(5, false, 1), (4, false, 1), (3, false, 0), (0, false, 345), (1, false, 1), (2, false, 1)], [1])]
def kS_concluded : zP := [(457, 3, zhq 2 []), (669, 2, zhq 2 []), (1083, 2, zhq 2 []), (1092, 2, zhq 0 [(63, 0)]), (1164, 1, (zkq [345] 0 jy))]
set_option maxRecDepth 100000 in
theorem kz_X12_concluded : zdo r_X12_concluded (zkq [345, 1, 1] 1 jy) :=
  zdo_kq kS_concluded (S_8, [(457, 3, [1], [0, 0, 0]), (669, 2, [1], [0, 0]), (1083, 2, [1], [0, 0]), (1092, 2, [], [0, 0]), (1164, 1, [], [345])]) kt_concluded fo_X12 rfl (zs_cons rfl (zdo_hv (by decide) (by decide) : zdo r_X12_in (zhq 2 [])) (zs_cons rfl (zdo_hv (by decide) (by decide) : zdo r_X12_noSentence (zhq 2 [])) (zs_cons rfl (zdo_hv (by decide) (by decide) : zdo r_X12_followsE (zhq 2 [])) (zs_cons rfl (zdo_hv (by decide) (by decide) : zdo r_X12_layE (zhq 0 [(63, 0)])) (zs_cons rfl kz_X12_layRules zs_nil))))) k_X12_concluded (kpc_cons rfl (hq_call (rt := 2) (Wr := []) jy_ag (by decide +kernel)) (kpc_cons rfl (hq_call (rt := 2) (Wr := []) jy_ag (by decide +kernel)) (kpc_cons rfl (hq_call (rt := 2) (Wr := []) jy_ag (by decide +kernel)) (kpc_cons rfl (hq_call (rt := 0) (Wr := [(63, 0)]) jy_ag (by decide +kernel)) (kpc_cons rfl (kq_call (tags := [345]) (rt := 0) (K := jy)) kpc_nil))))) jy_ag (by decide) (by decide) (by decide +kernel)
def kt_layMerge : List kE := [(0, [(0, false, 345)], []), (1, [(0, false, 345)], [345]), (4, [(0, false, 345)], []), (5, [(0, false, 345)], [345]), (8, [(0, false, 345)], [0]), (11, [(0, false, 345)], []), (12, [(0, false, 345)], []), (13, [(0, false, 345)], [345]), (14, [(0, false, 345)], [1, 345]), (17, [(0, false, 345)], []), (18, [(0, false, 345)], [345]), (19, [(0, false, 345)], [1, 345]), (22, [(0, false, 345)], []), (23, [(0, false, 345)], [1]), (24, [(1, false, 1), (0, false, 345)], []), (25, [(1, false, 1), (0, false, 345)], [1]), (27, [(1, false, 1), (0, false, 345)], [1, 1]), (30, [(1, false, 1), (0, false, 345)], []), (31, [(1, false, 1), (0, false, 345)], [345]), (32, [(1, false, 1), (0, false, 345)], [1, 345]), (35, [(1, false, 1), (0, false, 345)], [1]), (36, [(2, false, 1), (1, false, 1), (0, false, 345)], []), (37, [(2, false, 1), (1, false, 1), (0, false, 345)], [1]), (40, [(2, false, 1), (1, false, 1), (0, false, 345)], []), (41, [(2, false, 1), (1, false, 1), (0, false, 345)], [345]), (42, [(2, false, 1), (1, false, 1), (0, false, 345)], [1, 345]), (45, [(2, false, 1), (1, false, 1), (0, false, 345)], [1]), (48, [(2, false, 1), (1, false, 1), (0, false, 345)], []), (49, [(2, false, 1), (1, false, 1), (0, false, 345)], [345]), (50, [(2, false, 1), (1, false, 1), (0, false, 345)], [345, 345]), (53, [(2, false, 1), (1, false, 1), (0, false, 345)], [0, 345]), (54, [(2, false, 1), (1, false, 1), (0, false, 345)], [1, 0, 345]), (55, [(2, false, 1), (1, false, 1), (0, false, 345)], [1, 1, 0, 345]), (56, [(2, false, 1), (1, false, 1), (0, false, 345)], [1, 0, 345]), (57, [(2, false, 1), (1, false, 1), (0, false, 345)], [1, 345]), (60, [(2, false, 1), (1, false, 1), (0, false, 345)], []), (61, [(2, false, 1), (1, false, 1), (0, false, 345)], [345]), (62, [(2, false, 1), (1, false, 1), (0, false, 345)], [1, 345]), (63, [(2, false, 1), (1, false, 1), (0, false, 345)], [1, 1, 345]), (66, [(2, false, 1), (1, false, 1), (0, false, 345)], []), (69, [(1, false, 1), (2, false, 1), (0, false, 345)], []), (72, [(1, false, 1), (0, false, 345)], [])]
def kS_layMerge : zP := [(816, 2, zhq 2 []), (924, 1, zq_lay8), (1365, 2, zhq 1 []), (1374, 3, zhq 0 [(76, 0)])]
set_option maxRecDepth 100000 in
theorem kz_X12_layMerge : zdo r_X12_layMerge (zkq [345] 0 jy) :=
  zdo_kq kS_layMerge (S_8, [(816, 2, [1], [0, 0]), (924, 1, [], [345]), (1365, 2, [1], [0, 0]), (1374, 3, [], [0, 0, 0])]) kt_layMerge fo_X12 rfl (zs_cons rfl (zdo_hv (by decide) (by decide) : zdo r_X12_hasWorld (zhq 2 [])) (zs_cons rfl zc_X12_lay (zs_cons rfl (zdo_hv (by decide) (by decide) : zdo r_X12_bookOf (zhq 1 [])) (zs_cons rfl (zdo_hv (by decide) (by decide) : zdo r_X12_layFars (zhq 0 [(76, 0)])) zs_nil)))) k_X12_layMerge (kpc_cons rfl (hq_call (rt := 2) (Wr := []) jy_ag (by decide +kernel)) (kpc_cons rfl lay_call (kpc_cons rfl (hq_call (rt := 1) (Wr := []) jy_ag (by decide +kernel)) (kpc_cons rfl (hq_call (rt := 0) (Wr := [(76, 0)]) jy_ag (by decide +kernel)) kpc_nil)))) jy_ag (by decide) (by decide) (by decide +kernel)
def kt_parts : List kE := [(0, [(0, false, 345)], []), (1, [(0, false, 345)], [345]), (4, [(0, false, 345)], []), (5, [(0, false, 345)], [345]), (8, [(0, false, 345)], [0]), (9, [(0, false, 345)], [0]), (12, [(0, false, 345)], [1])]
def kS_parts : zP := [(679, 1, zhq 1 []), (1386, 1, (zkq [345] 0 jy))]
set_option maxRecDepth 100000 in
theorem kz_X12_parts : zdo r_X12_parts (zkq [345] 1 jy) :=
  zdo_kq kS_parts (S_8, [(679, 1, [1], [0]), (1386, 1, [], [345])]) kt_parts fo_X12 rfl (zs_cons rfl (zdo_hv (by decide) (by decide) : zdo r_X12_countBits (zhq 1 [])) (zs_cons rfl kz_X12_layMerge zs_nil)) k_X12_parts (kpc_cons rfl (hq_call (rt := 1) (Wr := []) jy_ag (by decide +kernel)) (kpc_cons rfl (kq_call (tags := [345]) (rt := 0) (K := jy)) kpc_nil)) jy_ag (by decide) (by decide) (by decide +kernel)
def kt_far : List kE := [(0, [(0, false, 345), (1, false, 1), (2, false, 1)], []), (1, [(0, false, 345), (1, false, 1), (2, false, 1)], [1]), (2, [(0, false, 345), (1, false, 1), (2, false, 1)], [0]), (3, [(0, false, 345), (1, false, 1), (2, false, 1)], [0, 0]), (6, [(0, false, 345), (1, false, 1), (2, false, 1)], [0, 0, 0]), (9, [(0, false, 345), (1, false, 1), (2, false, 1)], [1]), (12, [(0, false, 345), (1, false, 1), (2, false, 1)], []), (13, [(0, false, 345), (1, false, 1), (2, false, 1)], [1]), (16, [(0, false, 345), (1, false, 1), (2, false, 1)], [1]), (19, [(0, false, 345), (1, false, 1), (2, false, 1)], []), (20, [(0, false, 345), (1, false, 1), (2, false, 1)], [1]), (21, [(0, false, 345), (1, false, 1), (2, false, 1)], []), (22, [(0, false, 345), (1, false, 1), (2, false, 1)], [345]), (25, [(0, false, 345), (1, false, 1), (2, false, 1)], []), (26, [(0, false, 345), (1, false, 1), (2, false, 1)], [345]), (29, [(0, false, 345), (1, false, 1), (2, false, 1)], [0]), (30, [(0, false, 345), (1, false, 1), (2, false, 1)], [0]), (31, [(0, false, 345), (1, false, 1), (2, false, 1)], [1, 0]), (34, [(0, false, 345), (1, false, 1), (2, false, 1)], [1]), (37, [(0, false, 345), (1, false, 1), (2, false, 1)], []), (38, [(0, false, 345), (1, false, 1), (2, false, 1)], [345]), (41, [(0, false, 345), (1, false, 1), (2, false, 1)], [377]), (44, [(0, false, 345), (1, false, 1), (2, false, 1)], [1, 377]), (45, [(0, false, 345), (1, false, 1), (2, false, 1)], [1, 1, 377]), (46, [(0, false, 345), (1, false, 1), (2, false, 1)], [1, 377]), (47, [(0, false, 345), (1, false, 1), (2, false, 1)], [1, 1, 377]), (48, [(0, false, 345), (1, false, 1), (2, false, 1)], [1, 377]), (49, [(0, false, 345), (1, false, 1), (2, false, 1)], [1]), (52, [(0, false, 345), (1, false, 1), (2, false, 1)], []), (54, [(0, false, 345), (1, false, 1), (2, false, 1)], [1])]
def kS_far : zP := [(457, 3, zhq 2 []), (475, 2, zhq 2 []), (727, 1, zhq 2 []), (1386, 1, (zkq [345] 0 jy))]
set_option maxRecDepth 100000 in
theorem kz_X12_far : zdo r_X12_far (zkq [345, 1, 1] 1 jy) :=
  zdo_kq kS_far (S_8, [(457, 3, [1], [0, 0, 0]), (475, 2, [1], [0, 0]), (727, 1, [1], [0]), (1386, 1, [], [345])]) kt_far fo_X12 rfl (zs_cons rfl (zdo_hv (by decide) (by decide) : zdo r_X12_in (zhq 2 [])) (zs_cons rfl (zdo_hv (by decide) (by decide) : zdo r_X12_hasBit (zhq 2 [])) (zs_cons rfl (zdo_hv (by decide) (by decide) : zdo r_X12_noSource (zhq 2 [])) (zs_cons rfl kz_X12_layMerge zs_nil)))) k_X12_far (kpc_cons rfl (hq_call (rt := 2) (Wr := []) jy_ag (by decide +kernel)) (kpc_cons rfl (hq_call (rt := 2) (Wr := []) jy_ag (by decide +kernel)) (kpc_cons rfl (hq_call (rt := 2) (Wr := []) jy_ag (by decide +kernel)) (kpc_cons rfl (kq_call (tags := [345]) (rt := 0) (K := jy)) kpc_nil)))) jy_ag (by decide) (by decide) (by decide +kernel)
def kt_merge : List kE := [(0, [(0, false, 345), (1, false, 1)], []), (1, [(0, false, 345), (1, false, 1)], [345]), (4, [(0, false, 345), (1, false, 1)], []), (5, [(0, false, 345), (1, false, 1)], [1]), (6, [(2, false, 1), (0, false, 345), (1, false, 1)], []), (7, [(2, false, 1), (0, false, 345), (1, false, 1)], [1]), (8, [(2, false, 1), (0, false, 345), (1, false, 1)], [1, 1]), (11, [(2, false, 1), (0, false, 345), (1, false, 1)], []), (12, [(2, false, 1), (0, false, 345), (1, false, 1)], [345]), (15, [(2, false, 1), (0, false, 345), (1, false, 1)], [380]), (16, [(2, false, 1), (0, false, 345), (1, false, 1)], [1, 380]), (17, [(2, false, 1), (0, false, 345), (1, false, 1)], [0, 1, 380]), (18, [(2, false, 1), (0, false, 345), (1, false, 1)], []), (21, [(2, false, 1), (0, false, 345), (1, false, 1)], []), (24, [(2, false, 1), (0, false, 345), (1, false, 1)], []), (25, [(2, false, 1), (0, false, 345), (1, false, 1)], [1]), (26, [(2, false, 1), (0, false, 345), (1, false, 1)], []), (27, [(2, false, 1), (0, false, 345), (1, false, 1)], [1]), (30, [(2, false, 1), (0, false, 345), (1, false, 1)], [1, 1]), (33, [(2, false, 1), (0, false, 345), (1, false, 1)], []), (34, [(2, false, 1), (0, false, 345), (1, false, 1)], [345]), (35, [(2, false, 1), (0, false, 345), (1, false, 1)], [1, 345]), (36, [(2, false, 1), (0, false, 345), (1, false, 1)], [1, 1, 345]), (39, [(2, false, 1), (0, false, 345), (1, false, 1)], []), (40, [(2, false, 1), (0, false, 345), (1, false, 1)], [1]), (43, [(2, false, 1), (0, false, 345), (1, false, 1)], []), (44, [(2, false, 1), (0, false, 345), (1, false, 1)], [1]), (47, [(2, false, 1), (0, false, 345), (1, false, 1)], []), (48, [(2, false, 1), (0, false, 345), (1, false, 1)], [345]), (51, [(2, false, 1), (0, false, 345), (1, false, 1)], [1]), (52, [(3, false, 1), (2, false, 1), (0, false, 345), (1, false, 1)], []), (53, [(3, false, 1), (2, false, 1), (0, false, 345), (1, false, 1)], [1]), (56, [(3, false, 1), (2, false, 1), (0, false, 345), (1, false, 1)], []), (57, [(3, false, 1), (2, false, 1), (0, false, 345), (1, false, 1)], [1]), (59, [(4, false, 1), (3, false, 1), (2, false, 1), (0, false, 345), (1, false, 1)], []), (61, [(4, false, 1), (3, false, 1), (2, false, 1), (0, false, 345), (1, false, 1)], [1]), (62, [(4, false, 1), (3, false, 1), (2, false, 1), (0, false, 345), (1, false, 1)], [1, 1]), (65, [(4, false, 1), (3, false, 1), (2, false, 1), (0, false, 345), (1, false, 1)], []), (66, [(4, false, 1), (3, false, 1), (2, false, 1), (0, false, 345), (1, false, 1)], [345]), (69, [(4, false, 1), (3, false, 1), (2, false, 1), (0, false, 345), (1, false, 1)], [380]), (71, [(4, false, 1), (3, false, 1), (2, false, 1), (0, false, 345), (1, false, 1)], [1, 380]), (72, [(4, false, 1), (3, false, 1), (2, false, 1), (0, false, 345), (1, false, 1)], [0, 1, 380]), (73, [(4, false, 1), (3, false, 1), (2, false, 1), (0, false, 345), (1, false, 1)], []), (76, [(4, false, 1), (3, false, 1), (2, false, 1), (0, false, 345), (1, false, 1)], []), (79, [(4, false, 1), (3, false, 1), (2, false, 1), (0, false, 345), (1, false, 1)], []), (80, [(4, false, 1), (3, false, 1), (2, false, 1), (0, false, 345), (1, false, 1)], [1]), (82, [(4, false, 1), (3, false, 1), (2, false, 1), (0, false, 345), (1, false, 1)], []), (84, [(4, false, 1), (3, false, 1), (2, false, 1), (0, false, 345), (1, false, 1)], [1]), (86, [(4, false, 1), (3, false, 1), (2, false, 1), (0, false, 345), (1, false, 1)], [1, 1]), (89, [(4, false, 1), (3, false, 1), (2, false, 1), (0, false, 345), (1, false, 1)], []), (90, [(4, false, 1), (3, false, 1), (2, false, 1), (0, false, 345), (1, false, 1)], [345]), (93, [(4, false, 1), (3, false, 1), (2, false, 1), (0, false, 345), (1, false, 1)], [379]), (95, [(4, false, 1), (3, false, 1), (2, false, 1), (0, false, 345), (1, false, 1)], [1, 379]), (96, [(4, false, 1), (3, false, 1), (2, false, 1), (0, false, 345), (1, false, 1)], [345, 1, 379]), (99, [(4, false, 1), (3, false, 1), (2, false, 1), (0, false, 345), (1, false, 1)], [378, 1, 379]), (101, [(4, false, 1), (3, false, 1), (2, false, 1), (0, false, 345), (1, false, 1)], [1, 378, 1, 379]), (102, [(4, false, 1), (3, false, 1), (2, false, 1), (0, false, 345), (1, false, 1)], [1, 1, 379]), (103, [(4, false, 1), (3, false, 1), (2, false, 1), (0, false, 345), (1, false, 1)], []), (106, [(4, false, 1), (3, false, 1), (2, false, 1), (0, false, 345), (1, false, 1)], []), (109, [(3, false, 1), (2, false, 1), (0, false, 345), (1, false, 1)], []), (110, [(3, false, 1), (2, false, 1), (0, false, 345), (1, false, 1)], [1]), (113, [(3, false, 1), (2, false, 1), (0, false, 345), (1, false, 1)], []), (114, [(3, false, 1), (2, false, 1), (0, false, 345), (1, false, 1)], [345]), (117, [(3, false, 1), (2, false, 1), (0, false, 345), (1, false, 1)], [380]), (118, [(3, false, 1), (2, false, 1), (0, false, 345), (1, false, 1)], [1, 380]), (120, [(3, false, 1), (2, false, 1), (0, false, 345), (1, false, 1)], [1, 1, 380]), (121, [(3, false, 1), (2, false, 1), (0, false, 345), (1, false, 1)], [1, 380]), (122, [(3, false, 1), (2, false, 1), (0, false, 345), (1, false, 1)], [1, 380, 1, 380]), (123, [(3, false, 1), (2, false, 1), (0, false, 345), (1, false, 1)], [0, 1, 380]), (124, [(3, false, 1), (2, false, 1), (0, false, 345), (1, false, 1)], [0, 0, 1, 380]), (125, [(3, false, 1), (2, false, 1), (0, false, 345), (1, false, 1)], [1, 0, 0, 1, 380]), (127, [(3, false, 1), (2, false, 1), (0, false, 345), (1, false, 1)], [1, 1, 0, 0, 1, 380]), (128, [(3, false, 1), (2, false, 1), (0, false, 345), (1, false, 1)], [1, 0, 0, 1, 380]), (129, [(3, false, 1), (2, false, 1), (0, false, 345), (1, false, 1)], [0, 0, 1, 380]), (130, [(3, false, 1), (2, false, 1), (0, false, 345), (1, false, 1)], [0, 1, 380]), (131, [(3, false, 1), (2, false, 1), (0, false, 345), (1, false, 1)], []), (134, [(2, false, 1), (3, false, 1), (0, false, 345), (1, false, 1)], []), (137, [(2, false, 1), (0, false, 345), (1, false, 1)], [])]
def kS_merge : zP := [(1386, 1, (zkq [345] 0 jy)), (1395, 3, zhq 0 [(77, 0)]), (1404, 1, zhq 1 [])]
set_option maxRecDepth 100000 in
theorem kz_X12_merge : zdo r_X12_merge (zkq [345, 1] 0 jy) :=
  zdo_kq kS_merge (S_8, [(1386, 1, [], [345]), (1395, 3, [], [0, 0, 0]), (1404, 1, [1], [0])]) kt_merge fo_X12 rfl (zs_cons rfl kz_X12_layMerge (zs_cons rfl (zdo_hv (by decide) (by decide) : zdo r_X12_layRow (zhq 0 [(77, 0)])) (zs_cons rfl (zdo_hv (by decide) (by decide) : zdo r_X12_compareRows (zhq 1 [])) zs_nil))) k_X12_merge (kpc_cons rfl (kq_call (tags := [345]) (rt := 0) (K := jy)) (kpc_cons rfl (hq_call (rt := 0) (Wr := [(77, 0)]) jy_ag (by decide +kernel)) (kpc_cons rfl (hq_call (rt := 1) (Wr := []) jy_ag (by decide +kernel)) kpc_nil))) jy_ag (by decide) (by decide) (by decide +kernel)
def kt_merged : List kE := [(0, [(0, false, 345), (1, false, 1)], []), (1, [(0, false, 345), (1, false, 1)], [1]), (2, [(0, false, 345), (1, false, 1)], [0]), (3, [(0, false, 345), (1, false, 1)], [0, 0]), (6, [(0, false, 345), (1, false, 1)], [0, 0, 0]), (9, [(0, false, 345), (1, false, 1)], [1]), (12, [(0, false, 345), (1, false, 1)], []), (14, [(0, false, 345), (1, false, 1)], [1]), (15, [(0, false, 345), (1, false, 1)], []), (16, [(0, false, 345), (1, false, 1)], [345]), (17, [(0, false, 345), (1, false, 1)], [1, 345]), (20, [(0, false, 345), (1, false, 1)], []), (21, [(0, false, 345), (1, false, 1)], [345]), (24, [(0, false, 345), (1, false, 1)], [380]), (25, [(0, false, 345), (1, false, 1)], [1, 380]), (26, [(0, false, 345), (1, false, 1)], [0]), (29, [(0, false, 345), (1, false, 1)], [1]), (30, [(0, false, 345), (1, false, 1)], [345, 1]), (33, [(0, false, 345), (1, false, 1)], [380, 1]), (34, [(0, false, 345), (1, false, 1)], [1, 380, 1]), (35, [(0, false, 345), (1, false, 1)], [0, 1]), (38, [(0, false, 345), (1, false, 1)], [1, 1]), (39, [(0, false, 345), (1, false, 1)], [1]), (40, [(0, false, 345), (1, false, 1)], [345, 1]), (43, [(0, false, 345), (1, false, 1)], [380, 1]), (44, [(0, false, 345), (1, false, 1)], [1, 380, 1]), (45, [(0, false, 345), (1, false, 1)], [0, 1]), (48, [(0, false, 345), (1, false, 1)], [1, 1]), (49, [(0, false, 345), (1, false, 1)], [1]), (50, [(0, false, 345), (1, false, 1)], [345, 1]), (53, [(0, false, 345), (1, false, 1)], [380, 1]), (54, [(0, false, 345), (1, false, 1)], [1, 380, 1]), (55, [(0, false, 345), (1, false, 1)], [0, 1]), (58, [(0, false, 345), (1, false, 1)], [1, 1]), (59, [(0, false, 345), (1, false, 1)], [1])]
def kS_merged : zP := [(457, 3, zhq 2 []), (679, 1, zhq 1 []), (1413, 2, (zkq [345, 1] 0 jy))]
set_option maxRecDepth 100000 in
theorem kz_X12_merged : zdo r_X12_merged (zkq [345, 1] 1 jy) :=
  zdo_kq kS_merged (S_8, [(457, 3, [1], [0, 0, 0]), (679, 1, [1], [0]), (1413, 2, [], [345, 1])]) kt_merged fo_X12 rfl (zs_cons rfl (zdo_hv (by decide) (by decide) : zdo r_X12_in (zhq 2 [])) (zs_cons rfl (zdo_hv (by decide) (by decide) : zdo r_X12_countBits (zhq 1 [])) (zs_cons rfl kz_X12_merge zs_nil))) k_X12_merged (kpc_cons rfl (hq_call (rt := 2) (Wr := []) jy_ag (by decide +kernel)) (kpc_cons rfl (hq_call (rt := 1) (Wr := []) jy_ag (by decide +kernel)) (kpc_cons rfl (kq_call (tags := [345, 1]) (rt := 0) (K := jy)) kpc_nil))) jy_ag (by decide) (by decide) (by decide +kernel)
def kt_mergedWorld : List kE := [(0, [(0, false, 345), (1, false, 1), (2, false, 1)], []), (1, [(0, false, 345), (1, false, 1), (2, false, 1)], [1]), (2, [(0, false, 345), (1, false, 1), (2, false, 1)], [0]), (3, [(0, false, 345), (1, false, 1), (2, false, 1)], [0, 0]), (6, [(0, false, 345), (1, false, 1), (2, false, 1)], [0, 0, 0]), (9, [(0, false, 345), (1, false, 1), (2, false, 1)], [1]), (12, [(0, false, 345), (1, false, 1), (2, false, 1)], []), (14, [(0, false, 345), (1, false, 1), (2, false, 1)], [1]), (15, [(0, false, 345), (1, false, 1), (2, false, 1)], []), (16, [(0, false, 345), (1, false, 1), (2, false, 1)], [345]), (17, [(0, false, 345), (1, false, 1), (2, false, 1)], [1, 345]), (20, [(0, false, 345), (1, false, 1), (2, false, 1)], []), (21, [(0, false, 345), (1, false, 1), (2, false, 1)], [1]), (22, [(3, false, 1), (0, false, 345), (1, false, 1), (2, false, 1)], []), (23, [(3, false, 1), (0, false, 345), (1, false, 1), (2, false, 1)], [1]), (25, [(4, false, 1), (3, false, 1), (0, false, 345), (1, false, 1), (2, false, 1)], []), (27, [(4, false, 1), (3, false, 1), (0, false, 345), (1, false, 1), (2, false, 1)], [1]), (30, [(4, false, 1), (3, false, 1), (0, false, 345), (1, false, 1), (2, false, 1)], [1, 1]), (33, [(4, false, 1), (3, false, 1), (0, false, 345), (1, false, 1), (2, false, 1)], []), (34, [(4, false, 1), (3, false, 1), (0, false, 345), (1, false, 1), (2, false, 1)], [345]), (37, [(4, false, 1), (3, false, 1), (0, false, 345), (1, false, 1), (2, false, 1)], [380]), (39, [(4, false, 1), (3, false, 1), (0, false, 345), (1, false, 1), (2, false, 1)], [1, 380]), (41, [(4, false, 1), (3, false, 1), (0, false, 345), (1, false, 1), (2, false, 1)], [1, 1, 380]), (42, [(4, false, 1), (3, false, 1), (0, false, 345), (1, false, 1), (2, false, 1)], [1, 380]), (43, [(4, false, 1), (3, false, 1), (0, false, 345), (1, false, 1), (2, false, 1)], [0]), (45, [(4, false, 1), (3, false, 1), (0, false, 345), (1, false, 1), (2, false, 1)], [1, 0]), (47, [(4, false, 1), (3, false, 1), (0, false, 345), (1, false, 1), (2, false, 1)], [1, 1, 0]), (48, [(4, false, 1), (3, false, 1), (0, false, 345), (1, false, 1), (2, false, 1)], [1, 0]), (51, [(4, false, 1), (3, false, 1), (0, false, 345), (1, false, 1), (2, false, 1)], [1]), (54, [(4, false, 1), (3, false, 1), (0, false, 345), (1, false, 1), (2, false, 1)], []), (55, [(4, false, 1), (3, false, 1), (0, false, 345), (1, false, 1), (2, false, 1)], [1]), (56, [(4, false, 1), (3, false, 1), (0, false, 345), (1, false, 1), (2, false, 1)], [1, 1]), (59, [(4, false, 1), (3, false, 1), (0, false, 345), (1, false, 1), (2, false, 1)], []), (61, [(4, false, 1), (3, false, 1), (0, false, 345), (1, false, 1), (2, false, 1)], [1]), (62, [(4, false, 1), (3, false, 1), (0, false, 345), (1, false, 1), (2, false, 1)], []), (65, [(4, false, 1), (3, false, 1), (0, false, 345), (1, false, 1), (2, false, 1)], []), (68, [(4, false, 1), (3, false, 1), (0, false, 345), (1, false, 1), (2, false, 1)], []), (71, [(4, false, 1), (3, false, 1), (0, false, 345), (1, false, 1), (2, false, 1)], []), (72, [(4, false, 1), (3, false, 1), (0, false, 345), (1, false, 1), (2, false, 1)], [1])]
def kS_mergedWorld : zP := [(457, 3, zhq 2 []), (475, 2, zhq 2 []), (1413, 2, (zkq [345, 1] 0 jy))]
set_option maxRecDepth 100000 in
theorem kz_X12_mergedWorld : zdo r_X12_mergedWorld (zkq [345, 1, 1] 1 jy) :=
  zdo_kq kS_mergedWorld (S_8, [(457, 3, [1], [0, 0, 0]), (475, 2, [1], [0, 0]), (1413, 2, [], [345, 1])]) kt_mergedWorld fo_X12 rfl (zs_cons rfl (zdo_hv (by decide) (by decide) : zdo r_X12_in (zhq 2 [])) (zs_cons rfl (zdo_hv (by decide) (by decide) : zdo r_X12_hasBit (zhq 2 [])) (zs_cons rfl kz_X12_merge zs_nil))) k_X12_mergedWorld (kpc_cons rfl (hq_call (rt := 2) (Wr := []) jy_ag (by decide +kernel)) (kpc_cons rfl (hq_call (rt := 2) (Wr := []) jy_ag (by decide +kernel)) (kpc_cons rfl (kq_call (tags := [345, 1]) (rt := 0) (K := jy)) kpc_nil))) jy_ag (by decide) (by decide) (by decide +kernel)
def kt_agreed : List kE := [(0, [(0, false, 345), (1, false, 1), (2, false, 1)], []), (1, [(0, false, 345), (1, false, 1), (2, false, 1)], [345]), (2, [(0, false, 345), (1, false, 1), (2, false, 1)], [1, 345]), (5, [(0, false, 345), (1, false, 1), (2, false, 1)], [1]), (8, [(0, false, 345), (1, false, 1), (2, false, 1)], []), (9, [(0, false, 345), (1, false, 1), (2, false, 1)], [1]), (10, [(0, false, 345), (1, false, 1), (2, false, 1)], []), (11, [(0, false, 345), (1, false, 1), (2, false, 1)], [1]), (12, [(0, false, 345), (1, false, 1), (2, false, 1)], [0]), (13, [(0, false, 345), (1, false, 1), (2, false, 1)], [0, 0]), (16, [(0, false, 345), (1, false, 1), (2, false, 1)], [0, 0, 0]), (19, [(0, false, 345), (1, false, 1), (2, false, 1)], [1]), (22, [(0, false, 345), (1, false, 1), (2, false, 1)], []), (24, [(0, false, 345), (1, false, 1), (2, false, 1)], [1]), (25, [(0, false, 345), (1, false, 1), (2, false, 1)], []), (26, [(0, false, 345), (1, false, 1), (2, false, 1)], [345]), (27, [(0, false, 345), (1, false, 1), (2, false, 1)], [1, 345]), (30, [(0, false, 345), (1, false, 1), (2, false, 1)], []), (31, [(0, false, 345), (1, false, 1), (2, false, 1)], [1]), (32, [(3, false, 1), (0, false, 345), (1, false, 1), (2, false, 1)], []), (33, [(3, false, 1), (0, false, 345), (1, false, 1), (2, false, 1)], [1]), (35, [(4, false, 1), (3, false, 1), (0, false, 345), (1, false, 1), (2, false, 1)], []), (37, [(4, false, 1), (3, false, 1), (0, false, 345), (1, false, 1), (2, false, 1)], [1]), (38, [(4, false, 1), (3, false, 1), (0, false, 345), (1, false, 1), (2, false, 1)], [1, 1]), (41, [(4, false, 1), (3, false, 1), (0, false, 345), (1, false, 1), (2, false, 1)], []), (42, [(4, false, 1), (3, false, 1), (0, false, 345), (1, false, 1), (2, false, 1)], [1]), (45, [(4, false, 1), (3, false, 1), (0, false, 345), (1, false, 1), (2, false, 1)], []), (46, [(4, false, 1), (3, false, 1), (0, false, 345), (1, false, 1), (2, false, 1)], [345]), (49, [(4, false, 1), (3, false, 1), (0, false, 345), (1, false, 1), (2, false, 1)], [380]), (51, [(4, false, 1), (3, false, 1), (0, false, 345), (1, false, 1), (2, false, 1)], [1, 380]), (52, [(4, false, 1), (3, false, 1), (0, false, 345), (1, false, 1), (2, false, 1)], [0]), (53, [(4, false, 1), (3, false, 1), (0, false, 345), (1, false, 1), (2, false, 1)], [345, 0]), (56, [(4, false, 1), (3, false, 1), (0, false, 345), (1, false, 1), (2, false, 1)], [346, 0]), (57, [(4, false, 1), (3, false, 1), (0, false, 345), (1, false, 1), (2, false, 1)], [1, 346, 0]), (58, [(4, false, 1), (3, false, 1), (0, false, 345), (1, false, 1), (2, false, 1)], [1, 1, 346, 0]), (59, [(4, false, 1), (3, false, 1), (0, false, 345), (1, false, 1), (2, false, 1)], [1, 346, 0]), (61, [(4, false, 1), (3, false, 1), (0, false, 345), (1, false, 1), (2, false, 1)], [1, 1, 346, 0]), (62, [(4, false, 1), (3, false, 1), (0, false, 345), (1, false, 1), (2, false, 1)], [1, 346, 0]), (63, [(4, false, 1), (3, false, 1), (0, false, 345), (1, false, 1), (2, false, 1)], [0, 0]), (66, [(4, false, 1), (3, false, 1), (0, false, 345), (1, false, 1), (2, false, 1)], [0, 0, 0]), (67, [(4, false, 1), (3, false, 1), (0, false, 345), (1, false, 1), (2, false, 1)], [0, 0]), (68, [(4, false, 1), (3, false, 1), (0, false, 345), (1, false, 1), (2, false, 1)], [0]), (69, [(4, false, 1), (3, false, 1), (0, false, 345), (1, false, 1), (2, false, 1)], [0, 0]), (70, [(4, false, 1), (3, false, 1), (0, false, 345), (1, false, 1), (2, false, 1)], [1]), (73, [(4, false, 1), (3, false, 1), (0, false, 345), (1, false, 1), (2, false, 1)], []), (74, [(4, false, 1), (3, false, 1), (0, false, 345), (1, false, 1), (2, false, 1)], [1]), (77, [(4, false, 1), (3, false, 1), (0, false, 345), (1, false, 1), (2, false, 1)], []), (78, [(4, false, 1), (3, false, 1), (0, false, 345), (1, false, 1), (2, false, 1)], [1]), (79, [(3, false, 1), (4, false, 1), (0, false, 345), (1, false, 1), (2, false, 1)], []), (82, [(4, false, 1), (3, false, 1), (0, false, 345), (1, false, 1), (2, false, 1)], []), (85, [(4, false, 1), (3, false, 1), (0, false, 345), (1, false, 1), (2, false, 1)], []), (86, [(4, false, 1), (3, false, 1), (0, false, 345), (1, false, 1), (2, false, 1)], [1]), (89, [(4, false, 1), (3, false, 1), (0, false, 345), (1, false, 1), (2, false, 1)], []), (90, [(4, false, 1), (3, false, 1), (0, false, 345), (1, false, 1), (2, false, 1)], [1]), (93, [(4, false, 1), (3, false, 1), (0, false, 345), (1, false, 1), (2, false, 1)], []), (94, [(4, false, 1), (3, false, 1), (0, false, 345), (1, false, 1), (2, false, 1)], [1])]
def kS_agreed : zP := [(457, 3, zhq 2 []), (669, 2, zhq 2 []), (1413, 2, (zkq [345, 1] 0 jy))]
set_option maxRecDepth 100000 in
theorem kz_X12_agreed : zdo r_X12_agreed (zkq [345, 1, 1] 1 jy) :=
  zdo_kq kS_agreed (S_8, [(457, 3, [1], [0, 0, 0]), (669, 2, [1], [0, 0]), (1413, 2, [], [345, 1])]) kt_agreed fo_X12 rfl (zs_cons rfl (zdo_hv (by decide) (by decide) : zdo r_X12_in (zhq 2 [])) (zs_cons rfl (zdo_hv (by decide) (by decide) : zdo r_X12_noSentence (zhq 2 [])) (zs_cons rfl kz_X12_merge zs_nil))) k_X12_agreed (kpc_cons rfl (hq_call (rt := 2) (Wr := []) jy_ag (by decide +kernel)) (kpc_cons rfl (hq_call (rt := 2) (Wr := []) jy_ag (by decide +kernel)) (kpc_cons rfl (kq_call (tags := [345, 1]) (rt := 0) (K := jy)) kpc_nil))) jy_ag (by decide) (by decide) (by decide +kernel)
end
section
/-! least, giveUp, drop, view: what they do on each side -/
/-- every word has every bit -/
def zaB (f : Nat → Int64) (n : Nat) : Bool := (List.range n).all (fun x => decide ((f x).toInt = (Int64.ofInt (-1)).toInt))
set_option maxRecDepth 20000 in
theorem zaB_t {f : Nat → Int64} {n : Nat} : zaB f n = true ↔ ∀ x, x < n → (f x).toInt = (Int64.ofInt (-1)).toInt := by
  unfold zaB
  rw [List.all_eq_true]
  exact ⟨fun h x hx => of_decide_eq_true (h x (List.mem_range.mpr hx)), fun h x hx => decide_eq_true (h x (List.mem_range.mp hx))⟩
set_option maxRecDepth 20000 in
theorem zaB_f {f : Nat → Int64} {n x : Nat} (hx : x < n) (h : ¬ (f x).toInt = (Int64.ofInt (-1)).toInt) : zaB f n = false := by
  cases hb : zaB f n with
  | false => rfl
  | true => exact absurd (zaB_t.mp hb x hx) h
def zq_isAll : zQ := zpu (fun a : Nat × Nat => [.ref a.1]) (fun a _ => zB a.1 a.2 = true ∧ a.2 ≤ 64) (fun a A => .int (zb (zaB (zJ A (a.1 + 1)) a.2)))
def in_zal (A : zW) (q n : Nat) : fL_ → List Value → zW → Prop := fun lg vs A' => ∃ t : Int32, f_sub [(1, false, .int t), (0, false, .ref q)] lg ∧ vs = [] ∧ A' = A ∧ (0 ≤ t.toInt ∧ t.toInt ≤ n) ∧ ∀ x, x < t.toInt.toNat → (zJ A (q + 1) x).toInt = (Int64.ofInt (-1)).toInt
set_option maxRecDepth 20000 in
set_option maxHeartbeats 4000000 in
theorem za_X1_isAll : zdo r_X1_isAll zq_isAll := by
  refine zdo_pu [] (fun a A => [(2, in_zal A a.1 a.2)]) 60 fo_X1 rfl zs_nil k_X1_isAll (fun a A hp => ?_) (fun a A hp => ?_)
  · obtain ⟨q, n⟩ := a
    obtain ⟨hB, hn⟩ := hp
    have hB : zB q n = true := hB
    have hn : n ≤ 64 := hn
    refine List.forall_mem_cons.mpr ⟨?_, fun _ h => absurd h List.not_mem_nil⟩
    rintro lg vs A' ⟨t, hs, rfl, rfl, ⟨t0, t1⟩, hz⟩
    have t1 : t.toInt ≤ (n : Int) := t1
    have g := zB_f hB A'
    have l := zB_l hB A'
    have en := e32N hn
    refine ⟨_, 60, hs, fun h => ?_, fun h => ⟨fun h2 => ?_, fun h2 => ?_⟩⟩
    · have h : (Int32.ofNat (zkd A' (rv_ (zfl A' q (kfd fl_X1 13 (zkd A' q)))))).toInt ≤ t.toInt := h
      rw [l, en] at h
      refine ⟨?_, rfl⟩
      show some (Value.int 1) = some (.int (zb (zaB (zJ A' (q + 1)) n)))
      rw [zaB_t.mpr (fun x hx => hz x (by omega))]
      rfl
    · have h : ¬ (Int32.ofNat (zkd A' (rv_ (zfl A' q (kfd fl_X1 13 (zkd A' q)))))).toInt ≤ t.toInt := h
      rw [l, en] at h
      have h2 : ck_cm .eq (lg_cmp (zJ A' (rv_ (zfl A' q (kfd fl_X1 13 (zkd A' q)))) t.toInt.toNat) (Int64.ofInt (-1))).toInt 0 := h2
      rw [g] at h2
      have h2 : (zJ A' (q + 1) t.toInt.toNat).toInt = (Int64.ofInt (-1)).toInt := ck_cm_lg.mp h2
      have hi := i_inc t0 (by omega)
      refine ⟨t + 1, ⟨rfl, rfl, trivial⟩, rfl, rfl, ⟨by omega, by show (t + 1).toInt ≤ (n : Int); omega⟩, fun x hx => ?_⟩
      by_cases ex : x = t.toInt.toNat
      · rw [ex]
        exact h2
      · exact hz x (by omega)
    · have h : ¬ (Int32.ofNat (zkd A' (rv_ (zfl A' q (kfd fl_X1 13 (zkd A' q)))))).toInt ≤ t.toInt := h
      rw [l, en] at h
      have h2 : ¬ ck_cm .eq (lg_cmp (zJ A' (rv_ (zfl A' q (kfd fl_X1 13 (zkd A' q)))) t.toInt.toNat) (Int64.ofInt (-1))).toInt 0 := h2
      rw [g] at h2
      have h2 : ¬ (zJ A' (q + 1) t.toInt.toNat).toInt = (Int64.ofInt (-1)).toInt := fun z => h2 (ck_cm_lg.mpr z)
      refine ⟨?_, rfl⟩
      show some (Value.int 0) = some (.int (zb (zaB (zJ A' (q + 1)) n)))
      rw [zaB_f (show t.toInt.toNat < n by omega) h2]
      rfl
  · refine ⟨0, ⟨rfl, rfl, trivial⟩, rfl, rfl, ⟨by decide, ?_⟩, fun x hx => ?_⟩
    · have e0 : (0 : Int32).toInt = 0 := by decide
      rw [e0]
      omega
    · exact absurd hx (Nat.not_lt_zero x)
theorem m1_w {x : Int64} : x.toInt = (Int64.ofInt (-1)).toInt ↔ ∀ i, i < 64 → x.toBitVec.getLsbD i = true := by
  constructor
  · intro h i hi
    rw [Int64.toInt_inj.mp h]
    exact m1_64 i hi
  · intro h
    refine congrArg Int64.toInt (Int64.toBitVec_inj.mp (BitVec.eq_of_getLsbD_eq (fun i hi => ?_)))
    rw [h i hi, m1_64 i hi]
theorem cN_full {p : Nat → Bool} : ∀ {n : Nat}, cN p n = n ↔ ∀ i, i < n → p i = true
  | 0 => ⟨fun _ i hi => absurd hi (Nat.not_lt_zero i), fun _ => rfl⟩
  | n + 1 => by
    have hle := cN_le (p := p) (n := n)
    have ih := cN_full (p := p) (n := n)
    show cN p n + (if p n = true then 1 else 0) = n + 1 ↔ _
    constructor
    · intro h i hi
      by_cases hn : p n = true
      · rw [if_pos hn] at h
        by_cases e : i = n
        · rw [e]
          exact hn
        · exact ih.mp (by omega) i (by omega)
      · rw [if_neg hn] at h
        omega
    · intro h
      rw [if_pos (h n (Nat.lt_succ_self n)), ih.mpr (fun i hi => h i (by omega))]
/-- a sentence true everywhere: the class's question and the reference's -/
theorem all_eq {f g : Nat → Int64} (h : ∀ x, x < 4 → f x = g x) : zaB f 4 = true ↔ (szA (fun v => cbA v 64) g 4).toInt = 256 := by
  have e1 : szA (fun v => cbA v 64) g 4 = szA bcV f 4 := szA_eq (fun v => bc_cb.symm) (fun x hx => (h x hx).symm)
  have e2 := szA_cN (f := f) (k := 4) (by decide)
  have e3 : 64 * 4 = 256 := rfl
  rw [e3] at e2
  rw [e1, e2, zaB_t]
  constructor
  · intro z
    have e4 : cN (bF f) 256 = 256 := cN_full.mpr (fun i hi => m1_w.mp (z (i / 64) (by omega)) (i % 64) (by omega))
    rw [e4]
    rfl
  · intro z x hx
    have e4 : cN (bF f) 256 = 256 := by omega
    refine m1_w.mpr (fun i hi => ?_)
    have h5 := cN_full.mp e4 (64 * x + i) (by omega)
    rw [bF_at hi] at h5
    exact h5
theorem all_out {f : Nat → Int64} (h : zaB f 4 = false) : ∃ w, w < 256 ∧ ¬ (f (w / 64)).toBitVec.getLsbD (w % 64) = true := Classical.byContradiction (fun z => by
  have h1 : zaB f 4 = true := zaB_t.mpr (fun x hx => m1_w.mpr (fun i hi => Classical.byContradiction (fun y => z ⟨64 * x + i, by omega, by
    rw [show (64 * x + i) / 64 = x by omega, show (64 * x + i) % 64 = i by omega]
    exact y⟩)))
  rw [h] at h1
  cases h1)
/-! least -/
abbrev leA : Type := (Int32 × Int32 × Int32 × Int32) × Int32
abbrev lePs (c s : Int32) : Prop := 0 ≤ s.toInt ∧ s.toInt < c.toInt
def leq (s : Int32) : Nat := 2 + 2 * s.toInt.toNat
def leP (a : leA) (A : zW) : Prop := (zF A 0 1 = .int a.1.1 ∧ a.1.1.toInt ≤ 60) ∧ (zeV A a.1.2.1 ∧ zF A 193 2 = .int a.1.2.2.1 ∧ zF A 193 3 = .int a.1.2.2.2) ∧ zti A ∧ zeS A a.1.2.1 ∧ ∀ i, i < 6 → 0 ≤ (zI A 194 i).toInt ∧ (zI A 194 i).toInt ≤ 9
def lecA (a : leA) : zcuA := (leq a.2, a.1.2)
def leR (a : leA) (A : zW) (v : Int32) (A' : zW) : Prop := (¬ lePs a.1.1 a.2 ∧ v = -1 ∧ A' = A) ∨ (lePs a.1.1 a.2 ∧ zaB (zJ A (leq a.2 + 1)) 4 = true ∧ v = -3 ∧ A' = A) ∨ (lePs a.1.1 a.2 ∧ zaB (zJ A (leq a.2 + 1)) 4 = false ∧ v = zlcV (lecA a) A ∧ A' = zcuW A (leq a.2) (zcuV (lecA a) A))
def zq_leastC : zQ := zs (fun a : leA => [.ref 0, .int a.2]) leP (fun a A rv A' => ∃ v : Int32, rv = some (.int v) ∧ leR a A v A')
theorem le_zlc {a : leA} {A : zW} (hp : leP a A) (hs : lePs a.1.1 a.2) : zlcP (lecA a) A := by
  obtain ⟨⟨hc, hc60⟩, hE, hT, hS, hW⟩ := hp
  obtain ⟨s0, s1⟩ := hs
  exact ⟨⟨⟨zB_s (show a.2.toInt.toNat < 60 by omega), (show 2 + 2 * a.2.toInt.toNat ≠ 199 by omega)⟩, hE, hT⟩, hS, hW⟩
set_option maxRecDepth 20000 in
set_option maxHeartbeats 4000000 in
theorem zc_X11_least : zdo r_X11_least zq_leastC := by
  refine zdo_of _ _ _ [(381, 2, zq_sentenceAt), (801, 1, zq_isAll), (810, 2, zq_leastCut)] (fun _ _ => []) 60 fo_X11 rfl (zs_cons rfl za_X11_sentenceAt (zs_cons rfl za_X1_isAll (zs_cons rfl zc_X2_leastCut zs_nil))) k_X11_least (fun _ _ _ => no_zh) (fun a A hp => ?_)
  have hp0 := hp
  obtain ⟨⟨c, n, t, k⟩, s⟩ := a
  obtain ⟨⟨hc, hc60⟩, hE, hT, hS, hW⟩ := hp
  have hc60 : c.toInt ≤ 60 := hc60
  refine ⟨(s, c), rfl, ⟨hc, hc60⟩, fun h => ?_, fun h => ?_⟩
  · have hs : lePs c s := zat_y h
    have e1 : zat c s (.ref (2 + 2 * s.toInt.toNat)) = .ref (2 + 2 * s.toInt.toNat) := if_pos hs
    have hB := zB_s (show s.toInt.toNat < 60 by have := hs.1; have := hs.2; omega)
    refine ⟨(2 + 2 * s.toInt.toNat, 4), ?_, ⟨hB, (by decide : 4 ≤ 64)⟩, fun h2 => ?_, fun h2 => ?_⟩
    · show [zat c s (.ref (2 + 2 * s.toInt.toNat))] = _
      rw [e1]
    · have h2 : (zb (zaB (zJ A (leq s + 1)) 4)).toInt = 0 := h2
      refine ⟨lecA ((c, n, t, k), s), ?_, le_zlc hp0 hs, ?_⟩
      · show [Value.ref 193, zat c s (.ref (2 + 2 * s.toInt.toNat))] = [.ref 193, .ref (leq s)]
        rw [e1]
        rfl
      · exact ⟨_, rfl, Or.inr (Or.inr ⟨hs, zb_f h2, rfl, rfl⟩)⟩
    · have h2 : ¬ (zb (zaB (zJ A (leq s + 1)) 4)).toInt = 0 := h2
      exact ⟨-3, rfl, Or.inr (Or.inl ⟨hs, zb_t h2, rfl, rfl⟩)⟩
  · have h : zat c s (.ref (2 + 2 * s.toInt.toNat)) = .null := h
    exact ⟨-1, rfl, Or.inl ⟨fun z => zat_n (fun z => by cases z) h z, rfl, rfl⟩⟩
/-- the reference's -/
abbrev lmmA : Type := (Int32 × laA) × Int32
def lmmP (a : lmmA) (A : zW) : Prop := (zF A 343 1 = .int a.1.1 ∧ a.1.1.toInt ≤ 60) ∧ laP a.1.2 A ∧ mwr A a.1.2.1.toInt.toNat
def lmR (a : lmmA) (A : zW) (v : Int32) (A' : zW) : Prop := (¬ lePs a.1.1 a.2 ∧ v = -1 ∧ A' = A) ∨ (lePs a.1.1 a.2 ∧ (szA (fun v => cbA v 64) (zsw A a.2.toInt.toNat) 4).toInt = 256 ∧ v = -3 ∧ A' = A) ∨ (lePs a.1.1 a.2 ∧ ¬ (szA (fun v => cbA v 64) (zsw A a.2.toInt.toNat) 4).toInt = 256 ∧ laQ a.1.2 A A' ∧ v = encM (lmV (a.1.2, a.2.toInt.toNat, Int32.ofInt 0) A'))
def zq_leastMM : zQ := zs (fun a : lmmA => [.ref 343, .int a.2]) lmmP (fun a A rv A' => ∃ v : Int32, rv = some (.int v) ∧ lmR a A v A')
set_option maxRecDepth 20000 in
set_option maxHeartbeats 4000000 in
theorem zc_X12_least : zdo r_X12_least zq_leastMM := by
  refine zdo_of _ _ _ [(669, 2, q_noSentence), (690, 2, zq_countAt), (1032, 3, zq_leastM)] (fun _ _ => []) 60 fo_X12 rfl (zs_cons rfl za_X12_noSentence (zs_cons rfl za_X12_countAt (zs_cons rfl zc_X12_leastCut zs_nil))) k_X12_least (fun _ _ _ => no_zh) (fun a A hp => ?_)
  obtain ⟨⟨c, n, t, k⟩, s⟩ := a
  obtain ⟨⟨hc, hc60⟩, hla, hw⟩ := hp
  have hc60 : c.toInt ≤ 60 := hc60
  refine ⟨(s, c), rfl, hc, fun h => ?_, fun h => ?_⟩
  · have hs : lePs c s := Classical.not_not.mp (zb_n h)
    have hs6 : s.toInt < 60 := by
      have := hs.2
      omega
    have es : s = Int32.ofNat s.toInt.toNat := n32_of (by have := hs.1; omega)
    refine ⟨s, rfl, ⟨hs.1, hs6⟩, fun h2 => ?_, fun h2 => ?_⟩
    · have h2 : ¬ (szA (fun v => cbA v 64) (zsw A s.toInt.toNat) 4).toInt = (Int32.ofInt 256).toInt := h2
      rw [e256] at h2
      refine ⟨((n, t, k), s.toInt.toNat, Int32.ofInt 0), ?_, ⟨hla, (show s.toInt.toNat < 60 by have := hs.1; omega), hw⟩, ?_⟩
      · show [Value.ref 343, .int s, .int (Int32.ofInt 0)] = [.ref 343, .int (Int32.ofNat s.toInt.toNat), .int (Int32.ofInt 0)]
        rw [← es]
      · rintro rv A' ⟨hq, rfl⟩
        exact ⟨_, rfl, Or.inr (Or.inr ⟨hs, h2, hq, rfl⟩)⟩
    · have h2 : ¬ ¬ (szA (fun v => cbA v 64) (zsw A s.toInt.toNat) 4).toInt = (Int32.ofInt 256).toInt := h2
      rw [e256] at h2
      exact ⟨-3, rfl, Or.inr (Or.inl ⟨hs, Classical.not_not.mp h2, rfl, rfl⟩)⟩
  · have h := zb_y h
    exact ⟨-1, rfl, Or.inl ⟨h, rfl, rfl⟩⟩
/-! giveUp -/
def guR (a : leA) (A : zW) (v : Int32) (A' : zW) : Prop := ∃ A1, leR a A v A1 ∧ A' = if 0 < v.toInt then zabF A1 v (zF A1 193 3) a.1.2.1.toInt.toNat else A1
def zq_giveUpC : zQ := zs (fun a : leA => [.ref 0, .int a.2]) leP (fun a A rv A' => ∃ v : Int32, rv = some (.int v) ∧ guR a A v A')
theorem leR_J {a : leA} {A A' : zW} {v : Int32} (h : leR a A v A') : A' = A ∨ ∃ q V, A' = zcuW A q V := by
  rcases h with ⟨-, -, h⟩ | ⟨-, -, -, h⟩ | ⟨-, -, -, h⟩
  · exact Or.inl h
  · exact Or.inl h
  · exact Or.inr ⟨_, _, h⟩
set_option maxRecDepth 20000 in
theorem zc_X11_giveUp : zdo r_X11_giveUp zq_giveUpC := by
  refine zdo_of _ _ _ [(822, 2, zq_leastC), (831, 2, zq_abandonC)] (fun _ _ => []) 60 fo_X11 rfl (zs_cons rfl zc_X11_least (zs_cons rfl zc_X2_abandon zs_nil)) k_X11_giveUp (fun _ _ _ => no_zh) (fun a A hp => ?_)
  obtain ⟨⟨c, n, t, k⟩, s⟩ := a
  refine ⟨((c, n, t, k), s), rfl, hp, ?_⟩
  rintro rv A1 ⟨v, rfl, hR⟩
  have hE : zeV A1 n := by
    rcases leR_J hR with rfl | ⟨q, V, rfl⟩
    · exact hp.2.1.1
    · exact hp.2.1.1
  refine ⟨fun h => ?_, fun h => ?_⟩
  · have h : v.toInt ≤ 0 := h
    refine ⟨v, rfl, A1, hR, ?_⟩
    rw [if_neg (by omega)]
  · have h : ¬ v.toInt ≤ 0 := h
    refine ⟨(v, n), rfl, hE, ?_⟩
    refine ⟨v, rfl, A1, hR, ?_⟩
    rw [if_pos (by omega)]
def gmR (a : lmmA) (A : zW) (v : Int32) (A' : zW) : Prop := ∃ A1, lmR a A v A1 ∧ A' = if v.toInt < 0 then A1 else zov (zgF A1 v a.1.2.2.2 a.1.2.1.toInt.toNat)
def zq_giveUpM : zQ := zs (fun a : lmmA => [.ref 343, .int a.2]) lmmP (fun a A rv A' => ∃ v : Int32, rv = some (.int v) ∧ gmR a A v A')
set_option maxRecDepth 20000 in
theorem zc_X12_giveUp : zdo r_X12_giveUp zq_giveUpM := by
  refine zdo_of _ _ _ [(1041, 2, zq_leastMM), (1050, 2, zq_giveAll8)] (fun _ _ => []) 60 fo_X12 rfl (zs_cons rfl zc_X12_least (zs_cons rfl zc_X12_giveAll zs_nil)) k_X12_giveUp (fun _ _ _ => no_zh) (fun a A hp => ?_)
  obtain ⟨⟨c, n, t, k⟩, s⟩ := a
  refine ⟨((c, n, t, k), s), rfl, hp, ?_⟩
  rintro rv A1 ⟨v, rfl, hR⟩
  have hA : (zF A1 343 8 = .int n ∧ 0 ≤ n.toInt ∧ n.toInt ≤ 12) ∧ zF A1 343 16 = .int k := by
    rcases hR with ⟨-, -, rfl⟩ | ⟨-, -, -, rfl⟩ | ⟨-, -, h, -⟩
    · exact ⟨hp.2.1.1, hp.2.1.2.2.1.2⟩
    · exact ⟨hp.2.1.1, hp.2.1.2.2.1.2⟩
    · exact ⟨h.2.1.1, h.2.1.2.2.1.2⟩
  refine ⟨fun h => ?_, fun h => ?_⟩
  · have h : v.toInt < 0 := h
    refine ⟨v, rfl, A1, hR, ?_⟩
    rw [if_pos h]
  · have h : ¬ v.toInt < 0 := h
    refine ⟨(v, n, k), rfl, hA, ?_⟩
    refine ⟨v, rfl, A1, hR, ?_⟩
    rw [if_neg h]
/-! drop -/
abbrev drA : Type := Int32 × Int32 × Int32
abbrev drPs (n e : Int32) : Prop := 0 ≤ e.toInt ∧ e.toInt < n.toInt
def drPt (u : Int32) : Prop := u.toInt = -9 ∨ (0 ≤ u.toInt ∧ u.toInt < 100)
def drQ (n e u : Int32) (V : Value) (G : zW) (A : zW) (rv : Option Value) (A' : zW) : Prop := (¬ drPs n e ∧ rv = some (.int (-1)) ∧ A' = A) ∨ (drPs n e ∧ ¬ drPt u ∧ rv = some (.int (-2)) ∧ A' = A) ∨ (drPs n e ∧ drPt u ∧ rv = some V ∧ A' = G)
def zq_dropC : zQ := zs (fun a : drA => [.ref 0, .int a.2.1, .int a.2.2]) (fun a A => zeV A a.1) (fun a A => drQ a.1 a.2.1 a.2.2 (zF A (rv_ (zR A 195 a.2.1.toInt.toNat)) 6) (zuF A (rv_ (zR A 195 a.2.1.toInt.toNat)) 6 (.int a.2.2)) A)
set_option maxRecDepth 20000 in
set_option maxHeartbeats 4000000 in
theorem zc_X11_drop : zdo r_X11_drop zq_dropC := by
  refine zdo_of _ _ _ [(603, 2, zq_entryAt), (505, 1, q_isTime)] (fun _ _ => []) 60 fo_X11 rfl (zs_cons rfl za_X2_entryAt (zs_cons rfl za_X11_isTime zs_nil)) k_X11_drop (fun _ _ _ => no_zh) (fun a A hp => ?_)
  obtain ⟨n, e, u⟩ := a
  obtain ⟨hn, hE⟩ := hp
  have hE : ∀ e : Nat, (e : Int) < n.toInt → ∃ j : Nat, zR A 195 e = .ref j ∧ 385 ≤ j ∧ (zK A j).1 = 4 := hE
  refine ⟨(e, n), rfl, hn, fun h => ?_, fun h => ?_⟩
  · have hs : drPs n e := zat_y h
    obtain ⟨j, g1, g2, g3⟩ := hE e.toInt.toNat (by have := hs.1; have := hs.2; omega)
    have e1 : zat n e (zR A 195 e.toInt.toNat) = .ref j := by
      unfold zat
      rw [if_pos (show 0 ≤ e.toInt ∧ e.toInt < n.toInt from hs), g1]
    have ej : rv_ (zR A 195 e.toInt.toNat) = j := by rw [g1]; rfl
    have fin : drPt u → drQ n e u (zF A (rv_ (zR A 195 e.toInt.toNat)) 6) (zuF A (rv_ (zR A 195 e.toInt.toNat)) 6 (.int u)) A (some (zfl A (rv_ (zat n e (zR A 195 e.toInt.toNat))) (kfd fl_X11 220 (zkd A (rv_ (zat n e (zR A 195 e.toInt.toNat))))))) (zuF A (rv_ (zat n e (zR A 195 e.toInt.toNat))) (kpd pl_X11 220 (zkd A (rv_ (zat n e (zR A 195 e.toInt.toNat))))) (.int u)) := fun hu => by
      rw [e1, ej]
      refine Or.inr (Or.inr ⟨hs, hu, ?_, ?_⟩)
      · show some (zfl A j (kfd fl_X11 220 (zkd A j))) = some (zF A j 6)
        rw [zkd_d g2, g3, zfl_d g2]
        rfl
      · show zuF A j (kpd pl_X11 220 (zkd A j)) (.int u) = zuF A j 6 (.int u)
        rw [zkd_d g2, g3]
        rfl
    have z0 : zc (rv_ (zat n e (zR A 195 e.toInt.toNat))) (kpd pl_X11 220 (zkd A (rv_ (zat n e (zR A 195 e.toInt.toNat))))) = 0 := by
      rw [e1]
      exact zc_d g2
    refine ⟨fun h2 => ?_, fun h2 => ?_⟩
    · have h2 : u.toInt = (Int32.ofInt (-9)).toInt := h2
      rw [em9] at h2
      exact ⟨z0, fin (Or.inl h2)⟩
    · have h2 : ¬ u.toInt = (Int32.ofInt (-9)).toInt := h2
      rw [em9] at h2
      refine ⟨u, rfl, trivial, fun h3 => ?_, fun h3 => ?_⟩
      · exact ⟨z0, fin (Or.inr (zb_y h3))⟩
      · have h3 := zb_n (Classical.not_not.mp h3)
        exact Or.inr (Or.inl ⟨hs, fun z => by
          rcases z with z | z
          · exact h2 z
          · exact h3 z, rfl, rfl⟩)
  · have h : zat n e (zR A 195 e.toInt.toNat) = .null := h
    refine Or.inl ⟨fun z => ?_, rfl, rfl⟩
    have z : drPs n e := z
    obtain ⟨j, g1, -⟩ := hE e.toInt.toNat (by have := z.1; have := z.2; omega)
    exact zat_n (by rw [g1]; exact fun z => by cases z) h z
def zq_dropM : zQ := zs (fun a : drA => [.ref 343, .int a.2.1, .int a.2.2]) (fun a A => zF A 343 8 = .int a.1 ∧ 0 ≤ a.1.toInt ∧ a.1.toInt ≤ 12) (fun a A => drQ a.1 a.2.1 a.2.2 (.int (zI A 353 a.2.1.toInt.toNat)) (zov (zuI A 353 a.2.1.toInt.toNat a.2.2)) A)
set_option maxRecDepth 20000 in
set_option maxHeartbeats 4000000 in
theorem zc_X12_drop : zdo r_X12_drop zq_dropM := by
  refine zdo_of _ _ _ [(933, 2, q_noEntry), (457, 3, zq_in), (741, 1, zq_otherView)] (fun _ _ => []) 60 fo_X12 rfl (zs_cons rfl za_X12_noEntry (zs_cons rfl za_X12_in (zs_cons rfl za_X12_otherView zs_nil))) k_X12_drop (fun _ _ _ => no_zh) (fun a A hp => ?_)
  obtain ⟨n, e, u⟩ := a
  obtain ⟨hn, n0, n1⟩ := hp
  have e0 := ze0
  have e99 := ze99
  have eu := Int32.toInt_toInt64 u
  refine ⟨(e, n), rfl, hn, fun h => ?_, fun h => ?_⟩
  · have hs : drPs n e := Classical.not_not.mp (zb_n h)
    refine ⟨fun h2 => ?_, fun h2 => ?_⟩
    · have h2 : u.toInt = (Int32.ofInt (-9)).toInt := h2
      rw [em9] at h2
      exact ⟨(), rfl, trivial, Or.inr (Or.inr ⟨hs, Or.inl h2, rfl, rfl⟩)⟩
    · have h2 : ¬ u.toInt = (Int32.ofInt (-9)).toInt := h2
      rw [em9] at h2
      refine ⟨(u.toInt64, Int64.ofNat 0, Int64.ofInt 99), rfl, trivial, fun h3 => ?_, fun h3 => ?_⟩
      · have h3 : (Int64.ofNat 0).toInt ≤ u.toInt64.toInt ∧ u.toInt64.toInt ≤ (Int64.ofInt 99).toInt := zb_y h3
        have hu : drPt u := Or.inr ⟨by omega, by omega⟩
        exact ⟨(), rfl, trivial, Or.inr (Or.inr ⟨hs, hu, rfl, rfl⟩)⟩
      · have h3 : ¬ ((Int64.ofNat 0).toInt ≤ u.toInt64.toInt ∧ u.toInt64.toInt ≤ (Int64.ofInt 99).toInt) := zb_n (Classical.not_not.mp h3)
        have no : ¬ drPt u := fun z => by
          rcases z with z | z
          · exact h2 z
          · exact h3 ⟨by omega, by omega⟩
        exact Or.inr (Or.inl ⟨hs, no, rfl, rfl⟩)
  · exact Or.inl ⟨zb_y h, rfl, rfl⟩
/-! view -/
def vwC (A : zW) (t k : Int32) : zW := zuF (zuF A 193 2 (.int t)) 193 3 (.int k)
def vwM (A : zW) (t k : Int32) : zW := zov (zuF (zuF A 343 15 (.int t)) 343 16 (.int k))
def vwPt (t k : Int32) : Prop := (0 ≤ t.toInt ∧ t.toInt < 100) ∧ (0 ≤ k.toInt ∧ k.toInt < 100)
def vwQc (a : Int32 × Int32 × Int32) (A : zW) (rv : Option Value) (A' : zW) : Prop := (¬ vwPt a.2.1 a.2.2 ∧ rv = some (.int (-2)) ∧ A' = A) ∨ (vwPt a.2.1 a.2.2 ∧ rv = some (.int (icV (Int32.ofNat (vwN (cvP (vwC A a.2.1 a.2.2) a.2.1 a.2.2) a.1.toInt.toNat)))) ∧ A' = vwC A a.2.1 a.2.2)
def zq_viewC : zQ := zs (fun a : Int32 × Int32 × Int32 => [.ref 0, .int a.2.1, .int a.2.2]) (fun a A => zeV A a.1) vwQc
set_option maxRecDepth 20000 in
set_option maxHeartbeats 4000000 in
theorem zc_X11_view : zdo r_X11_view zq_viewC := by
  refine zdo_of _ _ _ [(505, 1, q_isTime), (579, 1, zq_inViewC), (589, 1, zq_ibc)] (fun _ _ => []) 60 fo_X11 rfl (zs_cons rfl za_X11_isTime (zs_cons rfl zc_X2_inView (zs_cons rfl za_J6_ibc zs_nil))) k_X11_view (fun _ _ _ => no_zh) (fun a A hp => ?_)
  obtain ⟨n, t, k⟩ := a
  obtain ⟨⟨hn, n0, n1⟩, hE⟩ := hp
  have hn : zF A 193 1 = .int n := hn
  refine ⟨t, rfl, trivial, fun h => ?_, fun h => ?_⟩
  · exact Or.inl ⟨fun z => zb_n h z.1, rfl, rfl⟩
  have ht : 0 ≤ t.toInt ∧ t.toInt < 100 := zb_y h
  refine ⟨k, rfl, trivial, fun h => ?_, fun h => ?_⟩
  rotate_left
  · exact Or.inl ⟨fun z => zb_n (Classical.not_not.mp h) z.2, rfl, rfl⟩
  have hk : 0 ≤ k.toInt ∧ k.toInt < 100 := zb_y h
  have hE' : zeV (vwC A t k) n := by
    refine ⟨⟨?_, n0, n1⟩, hE⟩
    unfold vwC
    rw [zuF_x, if_neg (by decide), zuF_x, if_neg (by decide)]
    exact hn
  have h2 : zF (vwC A t k) 193 2 = .int t := by
    unfold vwC
    rw [zuF_x, if_neg (by decide), zuF_x, if_pos ⟨rfl, rfl⟩]
  have h3 : zF (vwC A t k) 193 3 = .int k := by
    unfold vwC
    rw [zuF_x, if_pos ⟨rfl, rfl⟩]
  refine ⟨rfl, rfl, (n, t, k), rfl, ⟨hE', h2, h3⟩, ?_⟩
  exact ⟨_, rfl, trivial, Or.inr ⟨⟨ht, hk⟩, rfl, rfl⟩⟩
def vwPm (a : Int32 × Int32 × Int32) (A : zW) : Prop := (zF A 343 8 = .int a.1 ∧ 0 ≤ a.1.toInt ∧ a.1.toInt ≤ 12) ∧ sei A a.1.toInt.toNat ∧ ∃ l : Int32, zF A 343 17 = .int l ∧ (¬ l.toInt = 0 → lwOK A (zJ A 354) (2 ^ a.1.toInt.toNat))
def vwQm (a : Int32 × Int32 × Int32) (A : zW) (rv : Option Value) (A' : zW) : Prop := (¬ vwPt a.2.1 a.2.2 ∧ rv = some (.int (-2)) ∧ A' = A) ∨ (vwPt a.2.1 a.2.2 ∧ laQ a (vwM A a.2.1 a.2.2) A' ∧ rv = some (.int (cbA (Int32.ofNat (vwN (mvP A' a.2.1 a.2.2) a.1.toInt.toNat)).toInt64 64)))
def zq_viewMM : zQ := zs (fun a : Int32 × Int32 × Int32 => [.ref 343, .int a.2.1, .int a.2.2]) vwPm vwQm
theorem vwM_F {A : zW} {t k : Int32} {q i : Nat} (h : ¬ (q = 343 ∧ (i = 15 ∨ i = 16 ∨ i = 19 ∨ i = 33 ∨ i = 55))) : zF (vwM A t k) q i = zF A q i := by
  unfold vwM zov
  rw [zuF_x, if_neg (fun z => h ⟨z.1, by omega⟩), zuF_x, if_neg (fun z => h ⟨z.1, by omega⟩), zuF_x, if_neg (fun z => h ⟨z.1, by omega⟩), zuF_x, if_neg (fun z => h ⟨z.1, by omega⟩), zuF_x, if_neg (fun z => h ⟨z.1, by omega⟩)]
theorem vwM_la {a : Int32 × Int32 × Int32} {A : zW} (hp : vwPm a A) : laP a (vwM A a.2.1 a.2.2) := by
  obtain ⟨⟨hn, n0, n1⟩, hs, l, hl, hlw⟩ := hp
  obtain ⟨n, t, k⟩ := a
  refine ⟨⟨(vwM_F (by omega)).trans hn, n0, n1⟩, hs, ⟨?_, ?_⟩, ⟨l, (vwM_F (by omega)).trans hl, hlw⟩, Int32.ofInt 0, ?_, fun z => absurd (by decide) z⟩
  · show zF (vwM A t k) 343 15 = .int t
    unfold vwM zov
    rw [zuF_x, if_neg (by decide), zuF_x, if_neg (by decide), zuF_x, if_neg (by decide), zuF_x, if_neg (by decide), zuF_x, if_pos ⟨rfl, rfl⟩]
  · show zF (vwM A t k) 343 16 = .int k
    unfold vwM zov
    rw [zuF_x, if_neg (by decide), zuF_x, if_neg (by decide), zuF_x, if_neg (by decide), zuF_x, if_pos ⟨rfl, rfl⟩]
  · show zF (vwM A t k) 343 19 = .int (Int32.ofInt 0)
    unfold vwM zov
    rw [zuF_x, if_neg (by decide), zuF_x, if_neg (by decide), zuF_x, if_pos ⟨rfl, rfl⟩]
def in_vm12 (a : Int32 × Int32 × Int32) (A : zW) : fL_ → List Value → zW → Prop := fun lg vs A' => f_sub [(0, false, .ref 343), (1, false, .int a.2.1), (2, false, .int a.2.2)] lg ∧ vs = [] ∧ A' = A ∧ 0 ≤ a.2.1.toInt ∧ a.2.1.toInt < 100
def in_vm27 (a : Int32 × Int32 × Int32) (A : zW) : fL_ → List Value → zW → Prop := fun lg vs A' => f_sub [(0, false, .ref 343), (1, false, .int a.2.1), (2, false, .int a.2.2)] lg ∧ vs = [] ∧ A' = A ∧ vwPt a.2.1 a.2.2
set_option maxRecDepth 20000 in
set_option maxHeartbeats 4000000 in
theorem zc_X12_view : zdo r_X12_view zq_viewMM := by
  refine zdo_of _ _ _ [(457, 3, zq_in), (741, 1, zq_otherView), (924, 1, zq_lay8), (679, 1, zq_countBits)] (fun a A => [(12, in_vm12 a A), (27, in_vm27 a A)]) 60 fo_X12 rfl (zs_cons rfl za_X12_in (zs_cons rfl za_X12_otherView (zs_cons rfl zc_X12_lay (zs_cons rfl za_X12_countBits zs_nil)))) k_X12_view (fun a A hp => ?_) (fun a A hp => ?_)
  · obtain ⟨n, t, k⟩ := a
    refine List.forall_mem_cons.mpr ⟨?_, List.forall_mem_cons.mpr ⟨?_, fun _ h => absurd h List.not_mem_nil⟩⟩
    · rintro lg vs A' ⟨hs, rfl, rfl, ht⟩
      have e0 := ze0
      have e99 := ze99
      have ek := Int32.toInt_toInt64 k
      refine ⟨_, 60, hs, (k.toInt64, Int64.ofNat 0, Int64.ofInt 99), rfl, trivial, fun h => ?_, fun h => ?_⟩
      rotate_left
      · have h : ¬ ((Int64.ofNat 0).toInt ≤ k.toInt64.toInt ∧ k.toInt64.toInt ≤ (Int64.ofInt 99).toInt) := zb_n (Classical.not_not.mp h)
        have no : ¬ vwPt t k := fun z => h ⟨by have := z.2.1; omega, by have := z.2.2; omega⟩
        exact Or.inl ⟨no, rfl, rfl⟩
      have hk : (Int64.ofNat 0).toInt ≤ k.toInt64.toInt ∧ k.toInt64.toInt ≤ (Int64.ofInt 99).toInt := zb_y h
      exact ⟨⟨rfl, rfl, rfl, trivial⟩, rfl, rfl, ht, by show 0 ≤ k.toInt; omega, by show k.toInt < 100; omega⟩
    · rintro lg vs A' ⟨hs, rfl, rfl, good⟩
      refine ⟨_, 60, hs, rfl, rfl, (), rfl, trivial, ?_⟩
      refine ⟨(n, t, k), rfl, vwM_la hp, ?_⟩
      rintro rv A2 ⟨rfl, hQ⟩
      refine ⟨_, rfl, trivial, ?_⟩
      refine Or.inr ⟨good, hQ, ?_⟩
      show some (Value.int (cbA (iv (zF A2 343 20)).toInt64 64)) = _
      rw [hQ.2.2.2]
      rfl
  · obtain ⟨n, t, k⟩ := a
    have e0 := ze0
    have e99 := ze99
    have et := Int32.toInt_toInt64 t
    refine ⟨(t.toInt64, Int64.ofNat 0, Int64.ofInt 99), rfl, trivial, fun h => ?_, fun h => ?_⟩
    · have h : ¬ ((Int64.ofNat 0).toInt ≤ t.toInt64.toInt ∧ t.toInt64.toInt ≤ (Int64.ofInt 99).toInt) := zb_n h
      have no : ¬ vwPt t k := fun z => h ⟨by have := z.1.1; omega, by have := z.1.2; omega⟩
      exact Or.inl ⟨no, rfl, rfl⟩
    have ht : (Int64.ofNat 0).toInt ≤ t.toInt64.toInt ∧ t.toInt64.toInt ≤ (Int64.ofInt 99).toInt := zb_y h
    exact ⟨⟨rfl, rfl, rfl, trivial⟩, rfl, rfl, by show 0 ≤ t.toInt; omega, by show t.toInt < 100; omega⟩
end
section
/-! the pairs: least, giveUp, drop, view -/
def S_N : List (Nat × Nat) := S_M0 ++ [(46, 0), (50, 0)]
def S_R8 : List (Nat × Nat) := S_N ++ S_L8
theorem sM_N : ∀ y ∈ S_M0, y ∈ S_N := by decide +kernel
theorem sN_R : ∀ y ∈ S_N, y ∈ S_R8 := by decide +kernel
theorem sM_R : ∀ y ∈ S_M0, y ∈ S_R8 := by decide +kernel
theorem sN_Y : ∀ y ∈ S_N, y ∈ S_Y := by decide +kernel
section
variable {S : List (Nat × Nat)} {A A' B : zW} {n t k c : Int32}
theorem agj.sJ {q : Nat} {f : Nat → Int64} (hs : ¬ (zn lp_sh q, 0) ∈ S) : agj S (zsJ A q f) A := ⟨agl.sJ, fun p i hp hm => zsJ_ne (fun e => by
  subst e
  exact hs hm)⟩
theorem agj_cu {q V : Nat} (hs : ¬ (6, 0) ∈ S) : agj S (zcuW A q V) A := agj.tr (agj.sJ (q := 200) (by rw [show zn lp_sh 200 = 6 by decide +kernel]; exact hs)) (agj.sJ (q := 202) (by rw [show zn lp_sh 202 = 6 by decide +kernel]; exact hs))
theorem agj_ab {set : Int32} {v : Value} {e : Nat} (hs : ∀ t, ¬ (t, 6) ∈ S) (h : ∀ i, i < e → 385 ≤ rv_ (zR A 195 i)) : agj S (zabF A set v e) A := by
  obtain ⟨a1, a2, a3, a4, a5, a6, a7⟩ := zabF_k (set := set) (v := v) h
  refine ⟨⟨fun q i hq _ => a1 q i hq, fun q i _ _ => ⟨a3 q i, a2 q i⟩, by rw [a6]; exact Nat.le_refl _, fun j ci ty h1 h2 hK => ⟨by rw [a5]; exact hK, fun i hm => a7 j i (fun e => ?_)⟩⟩, fun q i _ _ => a4 q i⟩
  subst e
  exact hs ty hm
theorem laP_m {a : laA} (h : laP a A) (g : agj S_R8 A' A) : laP a A' := by
  obtain ⟨⟨hn, n0⟩, hs, ⟨ht, hk⟩, ⟨l, l1, l2⟩, v, v1, v2⟩ := h
  have F : ∀ q i, q < 385 → (zn lp_sh q, i) ∈ S_R8 → zF A' q i = zF A q i := g.1.1
  have eJ : zJ A' 354 = zJ A 354 := funext (fun i => g.2 354 i (by decide) (by decide +kernel))
  refine ⟨⟨(F 343 8 (by decide) (by decide +kernel)).trans hn, n0⟩, sei_m (g.sub sM_R) hs, ⟨(F 343 15 (by decide) (by decide +kernel)).trans ht, (F 343 16 (by decide) (by decide +kernel)).trans hk⟩, ⟨l, (F 343 17 (by decide) (by decide +kernel)).trans l1, fun z => ?_⟩, v, (F 343 19 (by decide) (by decide +kernel)).trans v1, fun z => ?_⟩
  · rw [eJ]
    exact lwOK_m (g.sub sM_R) (l2 z)
  · rw [mvP_m (g.sub sM_R)]
    exact (F 343 20 (by decide) (by decide +kernel)).trans (v2 z)
theorem mwr_m {m : Nat} (h : mwr A m) (g : agj S_N A' A) : mwr A' m := fun e he => by
  rw [(g.1.2.1 349 e (by decide) (by decide +kernel)).1, (g.1.2.1 345 _ (by decide) (by decide +kernel)).1]
  exact h e he
theorem zmw_m {set : Int32} (g : agj S_N A' A) : ∀ {m : Nat}, zmw A' set m = zmw A set m
  | 0 => rfl
  | m + 1 => by
    show zmw A' set m + (if zbi set m = true then zI A' 345 (zI A' 349 m).toInt.toNat else 0) = zmw A set m + (if zbi set m = true then zI A 345 (zI A 349 m).toInt.toNat else 0)
    rw [zmw_m g, (g.1.2.1 349 m (by decide) (by decide +kernel)).1, (g.1.2.1 345 _ (by decide) (by decide +kernel)).1]
end
/-- both sides' state, opened -/
def O8 (A : zW) (n m q t k c : Int32) : Prop := (jE A n) ∧ (jR A m) ∧ (jC A q) ∧ (jT A) ∧ (jV A) ∧ (jH A n m) ∧ (jL A) ∧ (jyy A n t k c) ∧ (zF A 193 2 = .int t) ∧ (zF A 193 3 = .int k) ∧ (zF A 0 1 = .int c) ∧ (0 ≤ c.toInt) ∧ (∀ i : Nat, (i : Int) < c.toInt → ∀ x, x < 4 → zJ A (2 + 2 * i + 1) x = zsw A i x)
theorem O8.e {A : zW} {n m q t k c : Int32} (o : O8 A n m q t k c) : jE A n := o.1
theorem O8.r {A : zW} {n m q t k c : Int32} (o : O8 A n m q t k c) : jR A m := o.2.1
theorem O8.cl {A : zW} {n m q t k c : Int32} (o : O8 A n m q t k c) : jC A q := o.2.2.1
theorem O8.tr {A : zW} {n m q t k c : Int32} (o : O8 A n m q t k c) : jT A := o.2.2.2.1
theorem O8.v {A : zW} {n m q t k c : Int32} (o : O8 A n m q t k c) : jV A := o.2.2.2.2.1
theorem O8.h {A : zW} {n m q t k c : Int32} (o : O8 A n m q t k c) : jH A n m := o.2.2.2.2.2.1
theorem O8.l {A : zW} {n m q t k c : Int32} (o : O8 A n m q t k c) : jL A := o.2.2.2.2.2.2.1
theorem O8.y {A : zW} {n m q t k c : Int32} (o : O8 A n m q t k c) : jyy A n t k c := o.2.2.2.2.2.2.2.1
theorem O8.vt {A : zW} {n m q t k c : Int32} (o : O8 A n m q t k c) : zF A 193 2 = .int t := o.2.2.2.2.2.2.2.2.1
theorem O8.vk {A : zW} {n m q t k c : Int32} (o : O8 A n m q t k c) : zF A 193 3 = .int k := o.2.2.2.2.2.2.2.2.2.1
theorem O8.c0 {A : zW} {n m q t k c : Int32} (o : O8 A n m q t k c) : zF A 0 1 = .int c := o.2.2.2.2.2.2.2.2.2.2.1
theorem O8.cp {A : zW} {n m q t k c : Int32} (o : O8 A n m q t k c) : 0 ≤ c.toInt := o.2.2.2.2.2.2.2.2.2.2.2.1
theorem O8.w {A : zW} {n m q t k c : Int32} (o : O8 A n m q t k c) : ∀ i : Nat, (i : Int) < c.toInt → ∀ x, x < 4 → zJ A (2 + 2 * i + 1) x = zsw A i x := o.2.2.2.2.2.2.2.2.2.2.2.2
theorem O8.n {A : zW} {n m q t k c : Int32} (o : O8 A n m q t k c) : 0 ≤ n.toInt ∧ n.toInt ≤ 12 := o.y.1.1.1.2
theorem J8.o {B : Nat → Nat} {w : lW} {tys : List (ClassId × FieldType)} (hJ : J8 B w) (hw : ck_wo tys cw_TT cw_SG w.1 w.2) : ∃ (A : zW) (n m q t k c : Int32), zA A w.1 w.2 ∧ O8 A n m q t k c := by
  obtain ⟨⟨J6w, A, hA, n, m, q, g1, g2, g3, g4, g5, g6, g7⟩, h8⟩ := hJ
  obtain ⟨n', t, k, c, hy⟩ := j8_on J6w.1.b hw h8 hA
  obtain ⟨c2, hc, hc', c0, c60⟩ := j7_c J6w hA hw
  obtain ⟨c3, hc3, hw3⟩ := j7_w J6w hA
  obtain ⟨⟨⟨a1, -⟩, a2, a3, a4⟩, -⟩ := id hy.1
  have en : n' = n := by
    have h2 := g1.2.1
    rw [a1] at h2
    injection h2
  have ec : c2 = c := by
    rw [a4] at hc'
    injection hc' with z
    exact z.symm
  have ec3 : c3 = c2 := by
    rw [hc] at hc3
    injection hc3 with z
    exact z.symm
  subst en
  subst ec
  subst ec3
  obtain ⟨t', k', b1, b2, b3, b4⟩ := id g5
  have et : t' = t := by
    rw [a2] at b2
    injection b2 with z
    exact z.symm
  have ek : k' = k := by
    rw [a3] at b4
    injection b4 with z
    exact z.symm
  subst et
  subst ek
  exact ⟨A, n', m, q, t', k', c3, hA, g1, g2, g3, g4, g5, g6, g7, hy, b1, b3, hc, c0, fun i hi x hx => hw3 i hi (by omega) x hx⟩
section
variable {A A' A1 B0 B1 : zW} {n m q t k c s v v2 : Int32}
theorem O8.zeV (o : O8 A n m q t k c) : zeV A n := ⟨o.e.1, fun e he => by
  obtain ⟨j, b0, ⟨b1, b2, b3⟩, -⟩ := o.e.2.2 e he
  exact ⟨j, b0, b1, by rw [b3]⟩⟩
theorem O8.le (o : O8 A n m q t k c) : leP ((c, n, t, k), s) A := by
  obtain ⟨⟨-, -, -, hm, -⟩, hr, -⟩ := o.y
  refine ⟨⟨o.c0, o.y.1.2.1.2⟩, ⟨o.zeV, o.vt, o.vk⟩, jM_ti hm o.n.1 o.n.2, ⟨o.e.1, fun e he => ?_⟩, fun i hi => ?_⟩
  · obtain ⟨j, b0, ⟨b1, b2, b3⟩, c0, c1, c2, c3, c4, c5, c6⟩ := o.e.2.2 e he
    exact ⟨j, zI A 349 e, b0, b1, by rw [b3], c2, c6⟩
  · rw [o.tr i hi]
    have := hr i hi
    omega
theorem O8.mwr (o : O8 A n m q t k c) : mwr A n.toInt.toNat := fun e he => by
  obtain ⟨j, -, -, -, -, -, -, -, -, c6, c7⟩ := o.e.2.2 e (by omega)
  have := o.y.2.1 (zI A 349 e).toInt.toNat (by omega)
  omega
theorem O8.lm (o : O8 A n m q t k c) (g : agj S_R8 A' A) : lmmP ((c, n, t, k), s) A' := by
  refine ⟨⟨?_, o.y.1.2.1.2⟩, laP_m (jy_la o.y) g, mwr_m o.mwr (g.sub sN_R)⟩
  rw [g.1.1 343 1 (by decide) (by decide +kernel)]
  exact o.y.1.1.2.2.2
/-- the two's least cuts -/
theorem O8.lc (o : O8 A n m q t k c) {p i : Nat} {way : Int32} (hw : ∀ x, x < 4 → zJ A (p + 1) x = fwW A i way x) (g : agj S_N A' A) (hL : lwOK A' (zJ A' 354) (2 ^ n.toInt.toNat)) : lstF (zlcF (p, n, t, k) A) (costC A n.toInt.toNat) 4096 = lmV ((n, t, k), i, way) A' := by
  obtain ⟨⟨-, -, -, hm, hg⟩, hr, -⟩ := o.y
  have gM := g.sub sM_N
  have efw : ∀ x, fwW A' i way x = fwW A i way x := fun x => by
    unfold fwW
    rw [g.2 344 _ (by decide) (by decide +kernel)]
  refine lc_same (s := i) (way := way) o.n.1 o.n.2 ?_ hL (fun w hw2 => ?_) (fun w hw2 => ?_) (fun S hS => ?_)
  · rw [mvP_m gM]
    exact jv_eq o.e hg
  · unfold zouF outM zhW
    rw [hbB_b (by omega), hw (w / 64) (by omega), efw, Bool.not_eq_true', Bool.not_eq_true]
  · rw [jM_tr hm o.n.1 o.n.2 hw2]
    have es : seb A' w = seb A w := funext (fun e => by
      unfold seb
      rw [sew_m gM])
    unfold trN
    rw [es]
  · unfold costC costM
    have e1 : zcw A (Int32.ofNat S) n.toInt.toNat = zmw A (Int32.ofNat S) n.toInt.toNat := zcw_eq (fun e he => by
      obtain ⟨j, b0, ⟨b1, b2, b3⟩, c0, c1, c2, c3, c4, c5, c6⟩ := o.e.2.2 e (by omega)
      have es : zsr A e = zI A 349 e := by
        unfold zsr
        rw [b0]
        show iv (zF A j 2) = _
        rw [c2]
        rfl
      rw [es]
      exact o.tr _ (by omega))
    rw [e1, zmw_m g]
/-- there is one if a world is out -/
theorem O8.some (o : O8 A n m q t k c) {p i : Nat} {way : Int32} (hw : ∀ x, x < 4 → zJ A (p + 1) x = fwW A i way x) (g : agj S_N A' A) (hL : lwOK A' (zJ A' 354) (2 ^ n.toInt.toNat)) (ho : zaB (zJ A (p + 1)) 4 = false) : ∃ b, lmV ((n, t, k), i, way) A' = some b := by
  obtain ⟨w, w1, w2⟩ := all_out ho
  have hm := p2_le n.toInt.toNat (by have := o.n; omega)
  have efw : ∀ x, fwW A' i way x = fwW A i way x := fun x => by
    unfold fwW
    rw [g.2 344 _ (by decide) (by decide +kernel)]
  obtain ⟨T, t1, t2⟩ := cut_ex (out := outM A' i way) (tr := trN A' n.toInt.toNat) (view := vwN (mvP A' t k) n.toInt.toNat) w1 (by
    unfold outM
    rw [efw, ← hw (w / 64) (by omega)]
    exact w2)
  have hT : T < 2 ^ n.toInt.toNat := Nat.lt_of_le_of_lt t1 vwN_lt
  exact lstF_some hT ((icN_iff hL vwN_lt hT).mpr t2)
/-- least, on both sides -/
theorem O8.same (o : O8 A n m q t k c) (hl : leR ((c, n, t, k), s) A v A1) (g : agj S_R8 B0 A) (hm : lmR ((c, n, t, k), s) B0 v2 B1) : v = v2 ∧ ((v.toInt < 0 ∧ A1 = A ∧ B1 = B0) ∨ (0 ≤ v.toInt ∧ A1 = zcuW A (leq s) (zcuV (leq s, n, t, k) A) ∧ laQ (n, t, k) B0 B1)) := by
  have hwd : lePs c s → ∀ x, x < 4 → zJ A (leq s + 1) x = zsw A s.toInt.toNat x := fun hs x hx => o.w s.toInt.toNat (by have := hs.1; have := hs.2; omega) x hx
  have ez : ∀ x, zsw B0 s.toInt.toNat x = zsw A s.toInt.toNat x := fun x => g.2 344 _ (by decide) (by decide +kernel)
  have hall : lePs c s → (zaB (zJ A (leq s + 1)) 4 = true ↔ (szA (fun v => cbA v 64) (zsw B0 s.toInt.toNat) 4).toInt = 256) := fun hs => all_eq (fun x hx => by rw [ez, hwd hs x hx])
  rcases hl with ⟨h1, rfl, rfl⟩ | ⟨h1, h2, rfl, rfl⟩ | ⟨h1, h2, rfl, rfl⟩
  · rcases hm with ⟨k1, rfl, rfl⟩ | ⟨k1, k2, rfl, rfl⟩ | ⟨k1, k2, k3, rfl⟩
    · exact ⟨rfl, Or.inl ⟨by decide, rfl, rfl⟩⟩
    · exact absurd k1 h1
    · exact absurd k1 h1
  · rcases hm with ⟨k1, rfl, rfl⟩ | ⟨k1, k2, rfl, rfl⟩ | ⟨k1, k2, k3, rfl⟩
    · exact absurd h1 k1
    · exact ⟨rfl, Or.inl ⟨by decide, rfl, rfl⟩⟩
    · exact absurd ((hall h1).mp h2) k2
  · rcases hm with ⟨k1, rfl, rfl⟩ | ⟨k1, k2, rfl, rfl⟩ | ⟨k1, k2, k3, rfl⟩
    · exact absurd h1 k1
    · have h3 := (hall h1).mpr k2
      rw [h2] at h3
      cases h3
    · have hw : ∀ x, x < 4 → zJ A (leq s + 1) x = fwW A s.toInt.toNat (Int32.ofInt 0) x := fun x hx => by
        unfold fwW
        rw [if_pos (show (Int32.ofInt 0).toInt = 0 by decide)]
        exact hwd h1 x hx
      have gN : agj S_N B1 A := agj.tr (g.sub sN_R) (k3.1.sub sN_Y)
      have e1 := o.lc hw gN k3.2.2.1
      obtain ⟨b, hb⟩ := o.some hw gN k3.2.2.1 h2
      have hb4 : b < 4096 := by
        have h := (lstF_eq (p := fun S => icN B1 (vwN (mvP B1 t k) n.toInt.toNat) S s.toInt.toNat (Int32.ofInt 0) n.toInt.toNat) (p' := fun S => icN B1 (vwN (mvP B1 t k) n.toInt.toNat) S s.toInt.toNat (Int32.ofInt 0) n.toInt.toNat) (c := costM B1 n.toInt.toNat) (c' := costM B1 n.toInt.toNat) (n := 2 ^ n.toInt.toNat) (fun _ _ => rfl) (fun _ _ _ _ _ _ => Iff.rfl)).2 b hb
        have hm := p2_le n.toInt.toNat (by have := o.n; omega)
        omega
      have ev : zlcV (lecA ((c, n, t, k), s)) A = Int32.ofNat b := by
        show (encL (costC A n.toInt.toNat) (lstF (zlcF (leq s, n, t, k) A) (costC A n.toInt.toNat) 4096)).1 = _
        rw [e1, hb]
        rfl
      refine ⟨?_, Or.inr ⟨?_, rfl, k3⟩⟩
      · rw [ev]
        show _ = encM (lmV ((n, t, k), s.toInt.toNat, Int32.ofInt 0) B1)
        rw [hb]
        rfl
      · rw [ev, n32_t hb4]
        omega
end
theorem sY_x : ∀ (t : Nat), ¬ (t, 6) ∈ S_R8 := fun t h => by
  have h2 : ∀ x ∈ S_R8, x.2 ≠ 6 := by decide
  exact h2 _ h rfl
set_option maxRecDepth 20000 in
theorem pk8_least {B : Nat → Nat} : ∀ (w w1 w2 : lW) (rv1 rv2 : Option Value) (s : Int32), J8 B w → fLr r_X11_least [.ref (B 0), .int s] w rv1 w1 → fLr r_X12_least [.ref (B 343), .int s] w1 rv2 w2 → rv1 = rv2 := by
  intro w w1 w2 rv1 rv2 s hJ h1 h2
  have hb := hJ.1.1.1.b
  have hb1 : bI B w1 := hb.keep h1 (by decide)
  obtain ⟨tys, hw, -⟩ := h1.2.2.2.2.1
  obtain ⟨A, n, m, q, t, k, c, hA, o⟩ := hJ.o hw
  obtain ⟨A1, u1, hA1, hv1, v, e1, hR⟩ := zrun zc_X11_least h1 hA (zargs hb (by decide) (s := [.int s]) ⟨rfl, trivial⟩) (K := fun rv A' => ∃ v : Int32, rv = some (.int v) ∧ leR ((c, n, t, k), s) A v A') ⟨((c, n, t, k), s), rfl, o.le, fun _ _ h => h⟩
  have g : agj S_R8 A1 A := by
    rcases leR_J hR with rfl | ⟨p, V, rfl⟩
    · exact agj.rf
    · exact agj_cu (by decide)
  obtain ⟨A2, u2, hA2, hv2, v2, e2, hM⟩ := zrun zc_X12_least h2 hA1 (zargs hb1 (by decide) (s := [.int s]) ⟨rfl, trivial⟩) (K := fun rv A' => ∃ v : Int32, rv = some (.int v) ∧ lmR ((c, n, t, k), s) A1 v A') ⟨((c, n, t, k), s), rfl, o.lm g, fun _ _ h => h⟩
  obtain ⟨rfl, -⟩ := o.same hR g hM
  exact (zv_int hv1 e1).trans (zv_int hv2 e2).symm
/-! what is given up -/
theorem jE.ne {A : zW} {n : Int32} (h : jE A n) (h12 : n.toInt ≤ 12) {e i : Nat} (he : (e : Int) < n.toInt) (hi : (i : Int) < n.toInt) (hj : rv_ (zR A 195 e) = rv_ (zR A 195 i)) : e = i := by
  obtain ⟨j, b0, -, c0, -⟩ := h.2.2 e he
  obtain ⟨j', b0', -, c0', -⟩ := h.2.2 i hi
  rw [b0, b0'] at hj
  have hj : j = j' := hj
  subst hj
  rw [c0] at c0'
  injection c0' with z
  exact n32_i (by omega) (by omega) z
set_option maxRecDepth 20000 in
theorem zab_6 {A : zW} {n set : Int32} {v : Value} (hE : jE A n) (h12 : n.toInt ≤ 12) : ∀ {m : Nat}, (m : Int) ≤ n.toInt → ∀ e : Nat, (e : Int) < n.toInt → zF (zabF A set v m) (rv_ (zR A 195 e)) 6 = if e < m ∧ zbi set e = true then v else zF A (rv_ (zR A 195 e)) 6
  | 0, _, e, _ => by
    rw [if_neg (fun z => absurd z.1 (Nat.not_lt_zero e))]
    rfl
  | m + 1, hm, e, he => by
    have ih := zab_6 (A := A) (set := set) (v := v) hE h12 (m := m) (by omega) e he
    show zF (if zbi set m = true then zuF (zabF A set v m) (rv_ (zR A 195 m)) 6 v else zabF A set v m) (rv_ (zR A 195 e)) 6 = _
    by_cases hb : zbi set m = true
    · rw [if_pos hb, zuF_x]
      by_cases ej : e = m
      · rw [if_pos ⟨by rw [ej], rfl⟩, if_pos ⟨by omega, by rw [ej]; exact hb⟩]
      · rw [if_neg (fun z => ej (hE.ne h12 he (by omega) z.1)), ih]
        by_cases d : e < m ∧ zbi set e = true
        · rw [if_pos d, if_pos ⟨by omega, d.2⟩]
        · rw [if_neg d, if_neg (fun z => d ⟨by omega, z.2⟩)]
    · rw [if_neg hb, ih]
      by_cases d : e < m ∧ zbi set e = true
      · rw [if_pos d, if_pos ⟨by omega, d.2⟩]
      · rw [if_neg d, if_neg (fun z => by
          by_cases ej : e = m
          · rw [ej] at z
            exact hb z.2
          · exact d ⟨by omega, z.2⟩)]
/-- slots of both sides without what is given up -/
def S_Z : List (Nat × Nat) := S_M0 ++ [(29, 0), (28, 0), (46, 0)]
theorem sZ_Y : ∀ y ∈ S_Z, y ∈ S_Y := by decide +kernel
theorem sM_Z : ∀ y ∈ S_M0, y ∈ S_Z := by decide +kernel
theorem zov_F {A : zW} {q i : Nat} (h : ¬ (q = 343 ∧ (i = 19 ∨ i = 33 ∨ i = 55))) : zF (zov A) q i = zF A q i := by
  unfold zov
  rw [zuF_x, if_neg (fun z => h ⟨z.1, by omega⟩), zuF_x, if_neg (fun z => h ⟨z.1, by omega⟩), zuF_x, if_neg (fun z => h ⟨z.1, by omega⟩)]
theorem zov_19 {A : zW} : zF (zov A) 343 19 = .int (Int32.ofInt 0) := by
  unfold zov
  rw [zuF_x, if_neg (by decide), zuF_x, if_neg (by decide), zuF_x, if_pos ⟨rfl, rfl⟩]
/-- both sides' given up alike again -/
theorem jy_back {A C : zW} {n t k c : Int32} (hy : jyy A n t k c) (hF : ∀ i, i ≠ 19 → i ≠ 33 → i ≠ 55 → i ≠ 17 → i ≠ 20 → (17, i) ∈ S_Z → zF C 343 i = zF A 343 i) (h348 : ∀ e, zI C 348 e = zI A 348 e) (h344 : ∀ e, zJ C 344 e = zJ A 344 e) (h196 : ∀ e, zI C 196 e = zI A 196 e) (h345 : ∀ e, zI C 345 e = zI A 345 e) (h195 : ∀ e, zR C 195 e = zR A 195 e) (hN : zN A ≤ zN C) (hK : ∀ j, 385 ≤ j → j < zN A → zK A j = (4, 7) → zK C j = (4, 7)) (h6 : ∀ e : Nat, (e : Int) < n.toInt → zF C (rv_ (zR A 195 e)) 6 = .int (zI C 353 e)) (hr : ∀ e : Nat, (e : Int) < n.toInt → (zI C 353 e).toInt = -9 ∨ 0 ≤ (zI C 353 e).toInt) (hL : jLay C n t k) : jyy C n t k c := by
  obtain ⟨⟨⟨⟨a1, a0⟩, a2, a3, a4⟩, b, hs, hm, hg⟩, ht, -⟩ := hy
  have esw : ∀ e x, sew C e x = sew A e x := fun e x => by
    unfold sew ses
    rw [h348, h344]
  refine ⟨⟨⟨⟨(hF 8 (by decide) (by decide) (by decide) (by decide) (by decide) (by decide)).trans a1, a0⟩, (hF 15 (by decide) (by decide) (by decide) (by decide) (by decide) (by decide)).trans a2, (hF 16 (by decide) (by decide) (by decide) (by decide) (by decide) (by decide)).trans a3, (hF 1 (by decide) (by decide) (by decide) (by decide) (by decide) (by decide)).trans a4⟩, b, fun e he => ?_, fun w hw => ?_, fun e he => ?_⟩, fun i hi => ?_, hL⟩
  · rw [h348]
    exact hs e he
  · have es : seb C w = seb A w := funext (fun e => by
      unfold seb
      rw [esw])
    unfold trN
    rw [h196, es]
    exact hm w hw
  · obtain ⟨⟨j, b0, ⟨b1, b2, b3⟩, b4⟩, -⟩ := hg e he
    have h := h6 e he
    rw [b0] at h
    rw [h195]
    exact ⟨⟨j, b0, ⟨b1, by omega, hK j b1 b2 b3⟩, h⟩, hr e he⟩
  · rw [h345]
    exact ht i hi
/-- laid rows stay right as long as sentences do -/
theorem jLay_off {A C : zW} {n t k : Int32} (h : ∃ l : Int32, zF A 343 17 = .int l ∧ (¬ l.toInt = 0 → lwOK A (zJ A 354) (2 ^ n.toInt.toNat))) (h17 : zF C 343 17 = zF A 343 17) (h354 : ∀ e, zJ C 354 e = zJ A 354 e) (h348 : ∀ e, zI C 348 e = zI A 348 e) (h344 : ∀ e, zJ C 344 e = zJ A 344 e) (h19 : zF C 343 19 = .int (Int32.ofInt 0)) : jLay C n t k := by
  obtain ⟨l, h1, h2⟩ := h
  refine ⟨⟨l, h17.trans h1, fun z S hS q hq i hi => ?_⟩, Int32.ofInt 0, h19, fun z => absurd (by decide) z⟩
  have esw : ∀ e x, sew C e x = sew A e x := fun e x => by
    unfold sew ses
    rw [h348, h344]
  rw [h354, h2 z S hS q hq i hi]
  constructor
  · intro y e he
    rw [esw]
    exact y e he
  · intro y e he
    rw [← esw]
    exact y e he
set_option maxRecDepth 20000 in
theorem pk8_giveUp {B : Nat → Nat} : ∀ (w w1 w2 : lW) (rv1 rv2 : Option Value) (s : Int32), J8 B w → fLr r_X11_giveUp [.ref (B 0), .int s] w rv1 w1 → fLr r_X12_giveUp [.ref (B 343), .int s] w1 rv2 w2 → rv1 = rv2 ∧ j8 w2 := by
  intro w w1 w2 rv1 rv2 s hJ h1 h2
  have hb := hJ.1.1.1.b
  have hb1 : bI B w1 := hb.keep h1 (by decide)
  obtain ⟨tys, hw, -⟩ := h1.2.2.2.2.1
  obtain ⟨A, n, m, q, t, k, c, hA, o⟩ := hJ.o hw
  obtain ⟨A1, u1, hA1, hv1, v, e1, A0, hR, eA1⟩ := zrun zc_X11_giveUp h1 hA (zargs hb (by decide) (s := [.int s]) ⟨rfl, trivial⟩) (K := fun rv A' => ∃ v : Int32, rv = some (.int v) ∧ guR ((c, n, t, k), s) A v A') ⟨((c, n, t, k), s), rfl, o.le, fun _ _ h => h⟩
  have eA1 : A1 = if 0 < v.toInt then zabF A0 v (zF A0 193 3) n.toInt.toNat else A0 := eA1
  have g0 : agj S_R8 A0 A := by
    rcases leR_J hR with rfl | ⟨p, V, rfl⟩
    · exact agj.rf
    · exact agj_cu (by decide)
  have e0R : ∀ e, zR A0 195 e = zR A 195 e := fun e => by
    rcases leR_J hR with rfl | ⟨p, V, rfl⟩ <;> rfl
  have h385 : ∀ i, i < n.toInt.toNat → 385 ≤ rv_ (zR A0 195 i) := fun i hi => by
    obtain ⟨j, b0, b1, -⟩ := o.zeV.2 i (by omega)
    rw [e0R, b0]
    exact b1
  have g : agj S_R8 A1 A := by
    rw [eA1]
    split
    · exact g0.tr (agj_ab sY_x h385)
    · exact g0
  obtain ⟨A2, u2, hA2, hv2, v2, e2, B1, hM, eA2⟩ := zrun zc_X12_giveUp h2 hA1 (zargs hb1 (by decide) (s := [.int s]) ⟨rfl, trivial⟩) (K := fun rv A' => ∃ v : Int32, rv = some (.int v) ∧ gmR ((c, n, t, k), s) A1 v A') ⟨((c, n, t, k), s), rfl, o.lm g, fun _ _ h => h⟩
  have eA2 : A2 = if v2.toInt < 0 then B1 else zov (zgF B1 v2 k n.toInt.toNat) := eA2
  obtain ⟨rfl, hc⟩ := o.same hR g hM
  refine ⟨(zv_int hv1 e1).trans (zv_int hv2 e2).symm, A2, hA2, ?_⟩
  rcases hc with ⟨v0, rfl, rfl⟩ | ⟨v0, a0, hq⟩
  · rw [if_neg (by omega)] at eA1
    rw [if_pos v0] at eA2
    rw [eA2, eA1]
    exact ⟨n, t, k, c, o.y⟩
  · rw [if_neg (by omega)] at eA2
    have h12 := o.n.2
    obtain ⟨gq, hla, -⟩ := hq
    obtain ⟨z1, z2, z3, z4, z5, z6, z7⟩ := zgF_k (A := B1) (set := v) (k := k) (e := n.toInt.toNat)
    -- what the class has given up
    have c6 : ∀ e : Nat, (e : Int) < n.toInt → zF A1 (rv_ (zR A 195 e)) 6 = if zbi v e = true then .int k else zF A (rv_ (zR A 195 e)) 6 := fun e he => by
      have hEz : jE A0 n := by
        rw [a0]
        exact o.e
      have f0 : ∀ q i, zF A0 q i = zF A q i := fun q i => by rw [a0]; rfl
      rw [eA1]
      by_cases hp : 0 < v.toInt
      · rw [if_pos hp]
        have h := zab_6 (set := v) (v := zF A0 193 3) hEz h12 (m := n.toInt.toNat) (by omega) e he
        rw [e0R, f0, f0, o.vk] at h
        rw [f0, o.vk, h]
        by_cases d : zbi v e = true
        · rw [if_pos ⟨by omega, d⟩, if_pos d]
        · rw [if_neg (fun z => d z.2), if_neg d]
      · rw [if_neg hp, f0]
        have ev : v = Int32.ofNat 0 := Int32.toInt_inj.mp (by
          rw [n32_t (by decide)]
          omega)
        rw [if_neg (by rw [ev, n32_zbi (by omega), Nat.zero_testBit]; exact Bool.false_ne_true)]
    have gZ : agj S_Z A1 A := by
      rw [eA1]
      have ga : agj S_Z A0 A := by
        rw [a0]
        exact agj_cu (by decide)
      have sx : ∀ (t : Nat), ¬ (t, 6) ∈ S_Z := fun t h => by
        have h2 : ∀ x ∈ S_Z, x.2 ≠ 6 := by decide
        exact h2 _ h rfl
      split
      · exact ga.tr (agj_ab sx h385)
      · exact ga
    have gB : agj S_Z B1 A := gZ.tr (gq.sub sZ_Y)
    have hN1 : zN A ≤ zN A1 := g.1.2.2.1
    have hN2 : zN A1 ≤ zN B1 := gq.1.2.2.1
    have i353 : ∀ e : Nat, zI B1 353 e = zI A 353 e := fun e => (gB.1.2.1 353 e (by decide) (by decide +kernel)).1
    rw [eA2]
    refine ⟨n, t, k, c, jy_back o.y (fun i h1 h2 h3 h4 h5 hm => ?_) (fun e => ?_) (fun e => ?_) (fun e => ?_) (fun e => ?_) (fun e => ?_) ?_ (fun j j1 j2 j3 => ?_) (fun e he => ?_) (fun e he => ?_) ?_⟩
    · rw [zov_F (by omega), z3]
      exact gB.1.1 343 i (by decide) (by rw [show zn lp_sh 343 = 17 by decide +kernel]; exact hm)
    · show zI (zgF B1 v k n.toInt.toNat) 348 e = _
      rw [z2 348 e (by decide)]
      exact (gB.1.2.1 348 e (by decide) (by decide +kernel)).1
    · show zJ (zgF B1 v k n.toInt.toNat) 344 e = _
      rw [z5]
      exact gB.2 344 e (by decide) (by decide +kernel)
    · show zI (zgF B1 v k n.toInt.toNat) 196 e = _
      rw [z2 196 e (by decide)]
      exact (gB.1.2.1 196 e (by decide) (by decide +kernel)).1
    · show zI (zgF B1 v k n.toInt.toNat) 345 e = _
      rw [z2 345 e (by decide)]
      exact (gB.1.2.1 345 e (by decide) (by decide +kernel)).1
    · show zR (zgF B1 v k n.toInt.toNat) 195 e = _
      rw [z4]
      exact (gB.1.2.1 195 e (by decide) (by decide +kernel)).2
    · show zN A ≤ zN (zgF B1 v k n.toInt.toNat)
      rw [z7]
      omega
    · show zK (zgF B1 v k n.toInt.toNat) j = _
      rw [z6]
      exact (gB.1.2.2.2 j 4 7 j1 j2 j3).1
    · obtain ⟨⟨j, b0, ⟨b1, b2, b3⟩, b4⟩, -⟩ := o.y.1.2.2.2.2 e he
      have h := c6 e he
      rw [b0] at h ⊢
      have hK1 : zK A1 j = (4, 7) := (gZ.1.2.2.2 j 4 7 b1 b2 b3).1
      rw [zov_F (by
        rintro ⟨z, -⟩
        have z : j = 343 := z
        omega), z3]
      show zF B1 j 6 = .int (zI (zgF B1 v k n.toInt.toNat) 353 e)
      rw [(gq.1.2.2.2 j 4 7 b1 (by omega) hK1).2 6 (by decide), z1, i353]
      have h : zF A1 j 6 = if zbi v e = true then .int k else zF A j 6 := h
      rw [h, b4]
      by_cases d : zbi v e = true
      · rw [if_pos d, if_pos ⟨by omega, d⟩]
      · rw [if_neg d, if_neg (fun z => d z.2)]
    · show (zI (zgF B1 v k n.toInt.toNat) 353 e).toInt = -9 ∨ 0 ≤ (zI (zgF B1 v k n.toInt.toNat) 353 e).toInt
      rw [z1, i353]
      split
      · exact Or.inr o.y.1.2.1.1
      · exact (o.y.1.2.2.2.2 e he).2
    · refine jLay_off hla.2.2.2.1 ?_ (fun e => ?_) (fun e => ?_) (fun e => ?_) zov_19
      · rw [zov_F (by omega), z3]
      · exact z5 354 e
      · exact z2 348 e (by decide)
      · exact z5 344 e
/-! drop -/
set_option maxRecDepth 20000 in
theorem pk8_drop {B : Nat → Nat} : ∀ (w w1 w2 : lW) (rv1 rv2 : Option Value) (e u : Int32), J8 B w → fLr r_X11_drop [.ref (B 0), .int e, .int u] w rv1 w1 → fLr r_X12_drop [.ref (B 343), .int e, .int u] w1 rv2 w2 → rv1 = rv2 ∧ j8 w2 := by
  intro w w1 w2 rv1 rv2 e u hJ h1 h2
  have hb := hJ.1.1.1.b
  have hb1 : bI B w1 := hb.keep h1 (by decide)
  obtain ⟨tys, hw, -⟩ := h1.2.2.2.2.1
  obtain ⟨A, n, m, q, t, k, c, hA, o⟩ := hJ.o hw
  obtain ⟨A1, u1, hA1, hv1, hQ1⟩ := zrun zc_X11_drop h1 hA (zargs hb (by decide) (s := [.int e, .int u]) ⟨rfl, rfl, trivial⟩) (K := drQ n e u (zF A (rv_ (zR A 195 e.toInt.toNat)) 6) (zuF A (rv_ (zR A 195 e.toInt.toNat)) 6 (.int u)) A) ⟨(n, e, u), rfl, o.zeV, fun _ _ h => h⟩
  have hpre : zF A1 343 8 = .int n ∧ 0 ≤ n.toInt ∧ n.toInt ≤ 12 := by
    rcases hQ1 with ⟨-, -, rfl⟩ | ⟨-, -, -, rfl⟩ | ⟨d1, -, -, rfl⟩
    · exact o.y.1.1.1
    · exact o.y.1.1.1
    · obtain ⟨j, b0, b1, -⟩ := o.zeV.2 e.toInt.toNat (by have := d1.1; have := d1.2; omega)
      refine ⟨?_, o.n⟩
      rw [b0]
      show zF (zuF A j 6 (.int u)) 343 8 = _
      rw [zuF_ne (by omega)]
      exact o.y.1.1.1.1
  obtain ⟨A2, u2, hA2, hv2, hQ2⟩ := zrun zc_X12_drop h2 hA1 (zargs hb1 (by decide) (s := [.int e, .int u]) ⟨rfl, rfl, trivial⟩) (K := drQ n e u (.int (zI A1 353 e.toInt.toNat)) (zov (zuI A1 353 e.toInt.toNat u)) A1) ⟨(n, e, u), rfl, hpre, fun _ _ h => h⟩
  rcases hQ1 with ⟨d1, e1, rfl⟩ | ⟨d1, d2, e1, rfl⟩ | ⟨d1, d2, e1, eA1⟩
  · rcases hQ2 with ⟨k1, e3, rfl⟩ | ⟨k1, k2, e3, rfl⟩ | ⟨k1, k2, e3, eA2⟩
    · exact ⟨(zv_int hv1 e1).trans (zv_int hv2 e3).symm, _, hA2, n, t, k, c, o.y⟩
    · exact absurd k1 d1
    · exact absurd k1 d1
  · rcases hQ2 with ⟨k1, e3, rfl⟩ | ⟨k1, k2, e3, rfl⟩ | ⟨k1, k2, e3, eA2⟩
    · exact absurd d1 k1
    · exact ⟨(zv_int hv1 e1).trans (zv_int hv2 e3).symm, _, hA2, n, t, k, c, o.y⟩
    · exact absurd k2 d2
  · rcases hQ2 with ⟨k1, e3, rfl⟩ | ⟨k1, k2, e3, rfl⟩ | ⟨k1, k2, e3, eA2⟩
    · exact absurd d1 k1
    · exact absurd d2 k2
    · have he : (e.toInt.toNat : Int) < n.toInt := by have := d1.1; have := d1.2; omega
      have h12 := o.n.2
      obtain ⟨⟨j, b0, ⟨b1, b2, b3⟩, b4⟩, -⟩ := o.y.1.2.2.2.2 e.toInt.toNat he
      have ei : zI A1 353 e.toInt.toNat = zI A 353 e.toInt.toNat := by rw [eA1]; rfl
      have ej : rv_ (zR A 195 e.toInt.toNat) = j := by rw [b0]; rfl
      rw [ej] at e1 eA1
      rw [b4] at e1
      rw [ei] at e3
      refine ⟨(zv_int hv1 e1).trans (zv_int hv2 e3).symm, A2, hA2, n, t, k, c, ?_⟩
      have f343 : ∀ i, zF A1 343 i = zF A 343 i := fun i => by
        rw [eA1]
        exact zuF_ne (by omega)
      rw [eA2]
      refine jy_back o.y (fun i h1 h2 h3 h4 h5 hm => ?_) (fun x => ?_) (fun x => ?_) (fun x => ?_) (fun x => ?_) (fun x => ?_) ?_ (fun j j1 j2 j3 => ?_) (fun x hx => ?_) (fun x hx => ?_) ?_
      · rw [zov_F (by omega)]
        exact f343 i
      · show zI (zuI A1 353 e.toInt.toNat u) 348 x = _
        rw [zuI_ne (by decide), eA1]
        rfl
      · show zJ A1 344 x = _
        rw [eA1]
        rfl
      · show zI (zuI A1 353 e.toInt.toNat u) 196 x = _
        rw [zuI_ne (by decide), eA1]
        rfl
      · show zI (zuI A1 353 e.toInt.toNat u) 345 x = _
        rw [zuI_ne (by decide), eA1]
        rfl
      · show zR A1 195 x = _
        rw [eA1]
        rfl
      · show zN A ≤ zN A1
        rw [eA1]
        exact Nat.le_refl _
      · show zK A1 j = _
        rw [eA1]
        exact j3
      · obtain ⟨⟨j2, c0, ⟨c1, c2, c3⟩, c4⟩, -⟩ := o.y.1.2.2.2.2 x hx
        have hj2 : rv_ (zR A 195 x) = j2 := by rw [c0]; rfl
        rw [hj2, zov_F (by
          rintro ⟨z, -⟩
          omega)]
        show zF A1 j2 6 = .int (zI (zuI A1 353 e.toInt.toNat u) 353 x)
        rw [zuI_x, eA1, zuF_x]
        by_cases d : x = e.toInt.toNat
        · have hjj : j2 = j := by rw [← hj2, ← ej, d]
          rw [if_pos ⟨hjj, rfl⟩, if_pos ⟨rfl, d⟩]
        · rw [if_neg (fun z => d (o.e.ne h12 hx he (by rw [hj2, ej]; exact z.1))), if_neg (fun z => d z.2)]
          exact c4
      · show (zI (zuI A1 353 e.toInt.toNat u) 353 x).toInt = -9 ∨ 0 ≤ (zI (zuI A1 353 e.toInt.toNat u) 353 x).toInt
        rw [zuI_x]
        by_cases d : x = e.toInt.toNat
        · rw [if_pos ⟨rfl, d⟩]
          rcases d2 with z | z
          · exact Or.inl z
          · exact Or.inr z.1
        · rw [if_neg (fun z => d z.2), eA1]
          exact (o.y.1.2.2.2.2 x hx).2
      · refine jLay_off o.y.2.2.1 ?_ (fun x => ?_) (fun x => ?_) (fun x => ?_) zov_19
        · rw [zov_F (by omega)]
          exact f343 17
        · show zJ A1 354 x = _
          rw [eA1]
          rfl
        · show zI (zuI A1 353 e.toInt.toNat u) 348 x = _
          rw [zuI_ne (by decide), eA1]
          rfl
        · show zJ A1 344 x = _
          rw [eA1]
          rfl
/-! view -/
set_option maxRecDepth 20000 in
theorem pk8_view {B : Nat → Nat} : ∀ (w w1 w2 : lW) (rv1 rv2 : Option Value) (t' k' : Int32), J8 B w → fLr r_X11_view [.ref (B 0), .int t', .int k'] w rv1 w1 → fLr r_X12_view [.ref (B 343), .int t', .int k'] w1 rv2 w2 → rv1 = rv2 ∧ j8 w2 := by
  intro w w1 w2 rv1 rv2 t' k' hJ h1 h2
  have hb := hJ.1.1.1.b
  have hb1 : bI B w1 := hb.keep h1 (by decide)
  obtain ⟨tys, hw, -⟩ := h1.2.2.2.2.1
  obtain ⟨A, n, m, q, t, k, c, hA, o⟩ := hJ.o hw
  obtain ⟨A1, u1, hA1, hv1, hQ1⟩ := zrun zc_X11_view h1 hA (zargs hb (by decide) (s := [.int t', .int k']) ⟨rfl, rfl, trivial⟩) (K := vwQc (n, t', k') A) ⟨(n, t', k'), rfl, o.zeV, fun _ _ h => h⟩
  have gC : agj S_8 (vwC A t' k') A := agj.tr (agj.nF (by decide) (by decide +kernel)) (agj.nF (by decide) (by decide +kernel))
  have hyC : jyy (vwC A t' k') n t k c := ⟨o.y.1.ag (gC.sub sB_8), o.y.2.1.ag gC, o.y.2.2.ag gC⟩
  have hpm : ∀ C : zW, jyy C n t k c → vwPm (n, t', k') C := fun C hy => ⟨(jy_la hy).1, (jy_la hy).2.1, (jy_la hy).2.2.2.1⟩
  have hpre : vwPm (n, t', k') A1 := by
    rcases hQ1 with ⟨-, -, rfl⟩ | ⟨-, -, rfl⟩
    · exact hpm _ o.y
    · exact hpm _ hyC
  obtain ⟨A2, u2, hA2, hv2, hQ2⟩ := zrun zc_X12_view h2 hA1 (zargs hb1 (by decide) (s := [.int t', .int k']) ⟨rfl, rfl, trivial⟩) (K := vwQm (n, t', k') A1) ⟨(n, t', k'), rfl, hpre, fun _ _ h => h⟩
  rcases hQ1 with ⟨d1, e1, rfl⟩ | ⟨d1, e1, eA1⟩
  · rcases hQ2 with ⟨k1, e3, rfl⟩ | ⟨k1, k2, e3⟩
    · exact ⟨(zv_int hv1 e1).trans (zv_int hv2 e3).symm, _, hA2, n, t, k, c, o.y⟩
    · exact absurd k1 d1
  · rcases hQ2 with ⟨k1, e3, rfl⟩ | ⟨k1, k2, e3⟩
    · exact absurd d1 k1
    · have k2 : laQ (n, t', k') (vwM A1 t' k') A2 := k2
      have e1 : u1 = some (.int (icV (Int32.ofNat (vwN (cvP (vwC A t' k') t' k') n.toInt.toNat)))) := e1
      have e3 : u2 = some (.int (cbA (Int32.ofNat (vwN (mvP A2 t' k') n.toInt.toNat)).toInt64 64)) := e3
      have eA1 : A1 = vwC A t' k' := eA1
      obtain ⟨gq, hla, -⟩ := k2
      have i0 : ∀ q i, zI (vwM A1 t' k') q i = zI A q i := fun q i => by rw [eA1]; rfl
      have eP : mvP A2 t' k' = mvP A t' k' := by
        rw [mvP_ag gq]
        funext e
        unfold mvP
        rw [i0, i0, i0, i0]
      have eC : vwN (cvP (vwC A t' k') t' k') n.toInt.toNat = vwN (cvP A t' k') n.toInt.toNat := vwN_eq (fun e he => by
        obtain ⟨j, b0, b1, -⟩ := o.zeV.2 e (by omega)
        have hj : rv_ (zR A 195 e) ≠ 193 := by
          rw [b0]
          show j ≠ 193
          omega
        unfold cvP
        show decide ((iv (zF (vwC A t' k') (rv_ (zR A 195 e)) 3)).toInt ≤ t'.toInt ∧ t'.toInt ≤ (iv (zF (vwC A t' k') (rv_ (zR A 195 e)) 4)).toInt ∧ (iv (zF (vwC A t' k') (rv_ (zR A 195 e)) 5)).toInt ≤ k'.toInt ∧ ((iv (zF (vwC A t' k') (rv_ (zR A 195 e)) 6)).toInt = -9 ∨ k'.toInt < (iv (zF (vwC A t' k') (rv_ (zR A 195 e)) 6)).toInt)) = _
        have hf : ∀ i, zF (vwC A t' k') (rv_ (zR A 195 e)) i = zF A (rv_ (zR A 195 e)) i := fun i => by
          unfold vwC
          rw [zuF_ne hj, zuF_ne hj]
        rw [hf, hf, hf, hf])
      have eV : vwN (cvP A t' k') n.toInt.toNat = vwN (mvP A t' k') n.toInt.toNat := jv_eq o.e o.y.1.2.2.2.2
      have hlt : vwN (mvP A t' k') n.toInt.toNat < 4096 := Nat.lt_of_lt_of_le vwN_lt (p2_le _ (by have := o.n; omega))
      rw [eC, eV, ic_cb hlt] at e1
      rw [eP] at e3
      refine ⟨(zv_int hv1 e1).trans (zv_int hv2 e3).symm, A2, hA2, n, t', k', c, ?_⟩
      have hyM : jyb (vwM A1 t' k') n t' k' c := by
        have hl := vwM_la (hpm A1 (by rw [eA1]; exact hyC))
        obtain ⟨⟨⟨⟨a1, a0⟩, a2, a3, a4⟩, b, hs, hm, hg⟩, -⟩ := hyC
        refine ⟨⟨hl.1, hl.2.2.1.1, hl.2.2.1.2, ?_⟩, ⟨d1.2.1, b.2⟩, ?_, ?_, ?_⟩
        · rw [vwM_F (by omega), eA1]
          exact a4
        · rw [eA1]
          exact hs
        · rw [eA1]
          exact hm
        · rw [eA1]
          intro e he
          obtain ⟨⟨j, b0, b1, b4⟩, h2⟩ := hg e he
          refine ⟨⟨j, b0, b1, ?_⟩, h2⟩
          rw [vwM_F (by
            rintro ⟨z, -⟩
            omega)]
          exact b4
      refine ⟨hyM.ag (gq.sub sB_Y), fun i hi => ?_, hla.2.2.2⟩
      rw [(gq.1.2.1 345 i (by decide) (by decide +kernel)).1, i0]
      exact o.y.2.1 i hi
end
section
/-! trust -/
set_option maxRecDepth 20000 in
theorem pk8_trust {B : Nat → Nat} : ∀ (w w1 w2 : lW) (rv1 rv2 : Option Value) (u x : Int32), J8 B w → fLr r_X11_trust [.ref (B 0), .int u, .int x] w rv1 w1 → fLr r_X12_trust [.ref (B 343), .int u, .int x] w1 rv2 w2 → j8 w2 := by
  intro w w1 w2 rv1 rv2 u x hJ h1 h2
  have hb := hJ.1.1.1.b
  have hb1 : bI B w1 := hb.keep h1 (by decide)
  obtain ⟨A, hA, n, t, k, c, hy⟩ := kp8 h1 hJ.2 (by decide) (by decide +kernel)
  obtain ⟨A2, u2, hA2, hv2, hQ2⟩ := zrun za_X12_trust h2 hA (zargs hb1 (by decide) (s := [.int u, .int x]) ⟨rfl, rfl, trivial⟩) (K := fun rv A' => zhdQ (ztrV u x) (zI A 345 u.toInt.toNat) (ztr_H u x A) A rv A') ⟨(u, x), rfl, trivial, fun _ _ h => h⟩
  unfold zhdQ at hQ2
  cases hV : ztrV u x with
  | some v =>
    rw [hV] at hQ2
    obtain ⟨-, e4⟩ := hQ2
    refine ⟨A2, hA2, ?_⟩
    rw [e4]
    exact ⟨n, t, k, c, hy⟩
  | none =>
    rw [hV] at hQ2
    obtain ⟨-, e4⟩ := hQ2
    have e4 : A2 = zuF (zov (zuI A 345 u.toInt.toNat x)) 343 43 (.int (Int32.ofInt 0)) := e4
    obtain ⟨hu, hx⟩ := ztr_g hV
    have gB : agj S_B A2 A := by
      rw [e4]
      exact agj.tr (agj.tr (agj.nI (by decide) (by decide +kernel)) (agj_ov (by decide))) (agj.nF (by decide) (by decide +kernel))
    have f2 : ∀ i, i ≠ 43 → zF A2 343 i = zF (zov A) 343 i := fun i hi => by
      rw [e4, zuF_x, if_neg (fun z => hi z.2)]
      rfl
    refine ⟨A2, hA2, n, t, k, c, hy.1.ag gB, fun i hi => ?_, jLay_off hy.2.2.1 ?_ (fun e => ?_) (ses_b gB) (fun e => ?_) ?_⟩
    · rw [e4]
      show 1 ≤ (zI (zuI A 345 u.toInt.toNat x) 345 i).toInt ∧ (zI (zuI A 345 u.toInt.toNat x) 345 i).toInt ≤ 9
      rw [zuI_x]
      split
      · exact hx
      · exact hy.2.1 i hi
    · rw [f2 17 (by decide), zov_F (by omega)]
    · rw [e4]
      rfl
    · rw [e4]
      rfl
    · rw [f2 19 (by decide)]
      exact zov_19
/-! a sentence more -/
def S_W : List (Nat × Nat) := [(17, 8), (17, 15), (17, 16), (49, 0), (51, 0), (52, 0), (53, 0), (54, 0), (29, 0), (28, 0), (7, 6), (46, 0), (17, 17), (17, 19), (17, 20), (55, 0)]
theorem jyy_more {A A' : zW} {n t k c c' : Int32} (hy : jyy A n t k c) (g : agj S_W A' A) (hc : zF A' 343 1 = .int c') (h1 : c.toInt ≤ c'.toInt) (h2 : c'.toInt ≤ 60) (hJ : ∀ i, i < 4 * c.toInt.toNat → zJ A' 344 i = zJ A 344 i) : jyy A' n t k c' := by
  obtain ⟨⟨⟨⟨a1, a0⟩, a2, a3, a4⟩, b, hs, hm, hg⟩, ht, ⟨l, l1, l2⟩, v, v1, v2⟩ := hy
  have F : ∀ q i, q < 385 → (zn lp_sh q, i) ∈ S_W → zF A' q i = zF A q i := g.1.1
  have I : ∀ q i, q < 385 → (zn lp_sh q, 0) ∈ S_W → zI A' q i = zI A q i := fun q i a b => (g.1.2.1 q i a b).1
  have i348 : ∀ e, zI A' 348 e = zI A 348 e := fun e => I 348 e (by decide) (by decide +kernel)
  have esw : ∀ e : Nat, (e : Int) < n.toInt → ∀ x, x < 4 → sew A' e x = sew A e x := fun e he x hx => by
    have h := hs e he
    unfold sew ses
    rw [i348, hJ _ (by omega)]
  have emv : mvP A' t k = mvP A t k := funext (fun e => by
    unfold mvP
    rw [I 350 e (by decide) (by decide +kernel), I 351 e (by decide) (by decide +kernel), I 352 e (by decide) (by decide +kernel), I 353 e (by decide) (by decide +kernel)])
  have eJ : zJ A' 354 = zJ A 354 := funext (fun i => g.2 354 i (by decide) (by decide +kernel))
  have hN := g.1.2.2.1
  refine ⟨⟨⟨⟨(F 343 8 (by decide) (by decide +kernel)).trans a1, a0⟩, (F 343 15 (by decide) (by decide +kernel)).trans a2, (F 343 16 (by decide) (by decide +kernel)).trans a3, hc⟩, ⟨b.1, h2⟩, fun e he => ?_, fun w hw => ?_, fun e he => ?_⟩, fun i hi => ?_, ⟨l, (F 343 17 (by decide) (by decide +kernel)).trans l1, fun z S hS q hq i hi => ?_⟩, v, (F 343 19 (by decide) (by decide +kernel)).trans v1, fun z => ?_⟩
  · rw [i348]
    have h := hs e he
    omega
  · unfold trN
    rw [I 196 w (by decide) (by decide +kernel), hm w hw]
    unfold trN
    refine congrArg Int32.ofNat (vwN_eq (fun e he => ?_))
    unfold seb
    rw [esw e (by omega) _ (by omega)]
  · obtain ⟨⟨j, b0, ⟨b1, b2, b3⟩, b4⟩, h2⟩ := hg e he
    obtain ⟨d1, d2⟩ := g.1.2.2.2 j 4 7 b1 b2 b3
    rw [(g.1.2.1 195 e (by decide) (by decide +kernel)).2, I 353 e (by decide) (by decide +kernel)]
    exact ⟨⟨j, b0, ⟨b1, by omega, d1⟩, (d2 6 (by decide)).trans b4⟩, h2⟩
  · rw [I 345 i (by decide) (by decide +kernel)]
    exact ht i hi
  · have hlt : ∀ e, S.testBit e = true → (e : Int) < n.toInt := fun e he => by
      have h : e < n.toInt.toNat := Nat.lt_of_not_le (fun z => by
        rw [Nat.testBit_lt_two_pow (Nat.lt_of_lt_of_le hS (Nat.pow_le_pow_right (by decide) z))] at he
        cases he)
      omega
    rw [eJ, l2 z S hS q hq i hi]
    constructor
    · intro y e he
      rw [esw e (hlt e he) q hq]
      exact y e he
    · intro y e he
      rw [← esw e (hlt e he) q hq]
      exact y e he
  · rw [emv]
    exact (F 343 20 (by decide) (by decide +kernel)).trans (v2 z)
/-- out of what the reference's sentences have come to -/
theorem j8_more {B : Nat → Nat} {w w1 w2 : lW} {rt1 rt2 : Nat} {Wr1 Wr2 : List (Nat × Nat)} {T1 T2 : fT} {cc1 cc2 : ByteArray} {As1 As2 : List Value} {rv1 rv2 : Option Value} {c0 c2 : Int32} {g g2 : Nat → Int64} (hJ : J8 B w) (h1 : fLr (fq cw_TT cw_SG rt1 Wr1 T1 cc1) As1 w rv1 w1) (h2 : fLr (fq cw_TT cw_SG rt2 Wr2 T2 cc2) As2 w1 rv2 w2) (k1 : bs_K.all (fun x => !(Wr1.contains x)) = true) (k2 : bs_K.all (fun x => !(Wr2.contains x)) = true) (a1 : nW S_8 Wr1 = true) (a2 : nW S_W Wr2 = true) (hc : oF B 343 12 1 (.int c0) w1) (hg : aJ B 344 240 g w1) (hc2 : oF B 343 12 1 (.int c2) w2) (hg2 : aJ B 344 240 g2 w2) (hle : c0.toInt ≤ c2.toInt) (h60 : c2.toInt ≤ 60) (hgg : ∀ u, u < 4 * c0.toInt.toNat → g2 u = g u) : j8 w2 := by
  have hb := hJ.1.1.1.b
  have hb1 : bI B w1 := hb.keep h1 k1
  have hb2 : bI B w2 := hb1.keep h2 k2
  obtain ⟨A, hA, n, t, k, c, hy⟩ := kp8 h1 hJ.2 k1 a1
  obtain ⟨X, hN, hA2⟩ := z_fr h2 hA k2
  have e1 := zo_F hA hb1 (by decide) (by decide +kernel) hc
  have ec : c = c0 := by
    have h := hy.1.1.2.2.2
    rw [e1] at h
    injection h with z
    exact z.symm
  subst ec
  refine ⟨_, hA2, n, t, k, c2, jyy_more hy (agj.hv a2 hN) (zo_F hA2 hb2 (by decide) (by decide +kernel) hc2) hle h60 (fun i hi => ?_)⟩
  rw [za_J hA2 hb2 (by decide) hg2 i, za_J hA hb1 (by decide) hg i]
  exact hgg i hi
set_option maxRecDepth 20000 in
theorem pk8_read {B : Nat → Nat} : ∀ (w w1 w2 : lW) (rv1 rv2 : Option Value) (k lane i n : Int32), J8 B w → fLr r_X11_read [.ref (B 0), .int k, .int lane, .int i, .int n] w rv1 w1 → fLr r_X12_read [.ref (B 343), .int k, .int lane, .int i, .int n] w1 rv2 w2 → j8 w2 := by
  intro w w1 w2 rv1 rv2 k lane i n hJ h1 h2
  have hJ8 := hJ
  have hJ := hJ8.1.1
  have e6 := pk6_read w w1 w2 rv1 rv2 k lane i n hJ h1 h2
  obtain ⟨h4, c, W, g, hc, hW, hg, hE⟩ := hJ
  have hb := h4.b
  have hb1 : bI B w1 := hb.keep h1 (by decide)
  obtain ⟨tys, hw, -⟩ := h1.2.2.2.2.1
  have e2 := pk2_read w w1 w2 rv1 rv2 k lane i n h4.1 h1 h2
  obtain ⟨c0, hc0, hm⟩ := h4.1.2
  have ec : c0 = c := hc0.uni hc
  subst ec
  obtain ⟨l, s, z, y, r, f, al, as, ar, az, ay, af, hj⟩ := sh_of h4.1.1 hw
  have hr := rng_0 hb hw hc
  have hm1 := hm.keep hb h1 bl_343 bt_343 (by decide)
  have hg1 := hg.keep hb h1 bl_344 bt_344 (by decide) (by decide)
  have P2 : rm_P (B, c0, y, z, f, k, lane, i, n) w1 := ⟨⟨hb1, hm1, az.keep hb h1 bl_381 bt_381 (by decide) (by decide), ay.keep hb h1 bl_382 bt_382 (by decide) (by decide), af.keep hb h1 bl_383 bt_383 (by decide) (by decide)⟩, hr, fun k hk => by rcases hj k hk with z | z <;> omega⟩
  obtain ⟨c2, g2, b4, b5, b6⟩ := s7_X12_read ((B, c0, y, z, f, k, lane, i, n), g) w1 w2 rv2 h2 ⟨P2, hg1⟩
  have hb2 : bI B w2 := hb1.keep h2 (by decide)
  obtain ⟨tysz, -, hwz⟩ := h2.2.2.2.2.1
  obtain ⟨AZ, hAZ⟩ := zA_ini hb2.1 hwz hb2.2
  obtain ⟨cz, -, hz, -, hz60⟩ := j7_c e6.2 hAZ hwz
  have ez : cz = c2 := by
    have h := zo_F hAZ hb2 (by decide) (by decide +kernel) b4
    rw [hz] at h
    injection h
  subst ez
  refine j8_more hJ8 h1 h2 (by decide) (by decide) (by decide +kernel) (by decide +kernel) hm1 hg1 b4 b5 ?_ hz60 (fun u hu => ?_)
  · rcases b6 with ⟨z, -⟩ | ⟨z, -⟩ <;> omega
  · rcases b6 with ⟨-, z⟩ | ⟨-, z, -⟩
    · exact z u
    · exact z u (Or.inl hu)
set_option maxRecDepth 20000 in
theorem pk8_make {B : Nat → Nat} : ∀ (w w1 w2 : lW) (rv1 rv2 : Option Value) (how a b : Int32), J8 B w → fLr r_X11_make [.ref (B 0), .int how, .int a, .int b] w rv1 w1 → fLr r_X12_make [.ref (B 343), .int how, .int a, .int b] w1 rv2 w2 → j8 w2 := by
  intro w w1 w2 rv1 rv2 how a b hJ h1 h2
  have hJ8 := hJ
  have hJ := hJ8.1.1
  have e6 := pk6_make w w1 w2 rv1 rv2 how a b hJ h1 h2
  obtain ⟨h4, c, W, g, hc, hW, hg, hE⟩ := hJ
  have hb := h4.b
  have hb1 : bI B w1 := hb.keep h1 (by decide)
  obtain ⟨tys, hw, -⟩ := h1.2.2.2.2.1
  have e2 := pk2_make w w1 w2 rv1 rv2 how a b h4.1 h1 h2
  obtain ⟨c0, hc0, hm⟩ := h4.1.2
  have ec : c0 = c := hc0.uni hc
  subst ec
  have hr := rng_0 hb hw hc
  have hm1 := hm.keep hb h1 bl_343 bt_343 (by decide)
  obtain ⟨cT, hT⟩ := hg.keep hb h1 bl_344 bt_344 (by decide) (by decide)
  obtain ⟨fs, hp, hl, hv⟩ := id hm1
  obtain ⟨fs2, hp2, -, hA⟩ := hm1.ref hb1 bl_343 (show _ = some (2, 0, 344) from rfl) (k' := 2)
  have e : fs = fs2 := congrArg Prod.snd (Sum.inr.inj (Option.some.inj (hp.symm.trans hp2)))
  subst e
  obtain ⟨v2, c2, g2, -, ⟨fs', p1, p2, p3⟩, p4, q2, b6⟩ := (s7_X12_make _ _ _ _ _ _ h2).2 ((B 343, fs, c0), (B 344, cT, g), how, a, b) rfl ⟨hp, ⟨hv, hA, hl⟩, hT, hr⟩
  have b4 : oF B 343 12 1 (.int c2) w2 := ⟨fs', p1, p2, p3⟩
  have hb2 : bI B w2 := hb1.keep h2 (by decide)
  obtain ⟨tysz, -, hwz⟩ := h2.2.2.2.2.1
  obtain ⟨AZ, hAZ⟩ := zA_ini hb2.1 hwz hb2.2
  obtain ⟨cz, -, hz, -, hz60⟩ := j7_c e6.2 hAZ hwz
  have ez : cz = c2 := by
    have h := zo_F hAZ hb2 (by decide) (by decide +kernel) b4
    rw [hz] at h
    injection h
  subst ez
  refine j8_more hJ8 h1 h2 (by decide) (by decide) (by decide +kernel) (by decide +kernel) hm1 (hg.keep hb h1 bl_344 bt_344 (by decide) (by decide)) b4 p4 ?_ hz60 (fun u hu => ?_)
  · rcases b6 with ⟨z, -⟩ | ⟨z, -⟩ <;> omega
  · rcases b6 with ⟨-, z⟩ | ⟨-, z, -⟩
    · exact z u
    · exact z u (Or.inl hu)
/-! an entry more -/
theorem agj.sI {S : List (Nat × Nat)} {A : zW} {q : Nat} {f : Nat → Int32} (hs : ¬ (zn lp_sh q, 0) ∈ S) : agj S (zsI A q f) A :=
  ⟨⟨fun _ _ _ _ => rfl, fun p i hp hm => ⟨zsI_ne (fun e => by
    subst e
    exact hs hm), rfl⟩, Nat.le_refl _, fun _ _ _ _ _ h => ⟨h, fun _ _ => rfl⟩⟩, fun _ _ _ _ => rfl⟩
theorem agj_znE {S : List (Nat × Nat)} {A : zW} {D : Nat → Value} {s u f t k : Int32} (h : ¬ (13, 1) ∈ S ∧ ¬ (28, 0) ∈ S ∧ ¬ (29, 0) ∈ S) (hN : 385 ≤ zN A) : agj S (znE A D s u f t k) A := by
  have g0 : agj S (zent (zuN A 4 7 D) (zN A) (iv (zF A 193 1)) s u f t k) A := by
    unfold zent
    exact ((((((((agj.new hN).dF (Nat.le_refl _) hN).dF (Nat.le_refl _) hN).dF (Nat.le_refl _) hN).dF (Nat.le_refl _) hN).dF (Nat.le_refl _) hN).dF (Nat.le_refl _) hN).dF (Nat.le_refl _) hN)
  unfold znE zkp
  exact agj.tr (agj.tr (agj.tr g0 (agj.sI (by rw [show zn lp_sh 196 = 29 by decide +kernel]; exact h.2.2))) (agj.nR (by decide) (by rw [show zn lp_sh 195 = 28 by decide +kernel]; exact h.2.1))) (agj.nF (by decide) (by rw [show zn lp_sh 193 = 13 by decide +kernel]; exact h.1))
/-- the worlds that the class notes of a new entry -/
theorem znE_196 {A : zW} {D : Nat → Value} {n s u f t k : Int32} {w : Nat} (hN : 385 ≤ zN A) (hn : zF A 193 1 = .int n) (hw : w < 256) : zI (znE A D s u f t k) 196 w = if zhW (zJ A (2 + 2 * s.toInt.toNat + 1)) w = true then zI A 196 w ||| (Int32.ofInt 1 <<< (n &&& 31)) else zI A 196 w := by
  unfold znE zkp
  rw [zI_uF, zI_uR, zsI_at]
  unfold ztr
  rw [znE_c hN hn]
  by_cases c : zhW (zJ A (2 + 2 * s.toInt.toNat + 1)) w = true
  · rw [if_pos ⟨hw, c⟩, if_pos c]
    rfl
  · rw [if_neg (fun z => c z.2), if_neg c]
    rfl
theorem znE_J {A : zW} {D : Nat → Value} {s u f t k : Int32} {q i : Nat} : zJ (znE A D s u f t k) q i = zJ A q i := rfl
/-- the reference's new entry closes the gap -/
theorem jy_plus {Y : zW} {n t k c s u f t' k' : Int32} {jn : Nat} (h8 : zF Y 343 8 = .int n) (n0 : 0 ≤ n.toInt) (n12 : n.toInt < 12) (h15 : zF Y 343 15 = .int t) (h16 : zF Y 343 16 = .int k) (hc : zF Y 343 1 = .int c) (hk : 0 ≤ k.toInt ∧ c.toInt ≤ 60) (hs : jS Y n c) (hsc : 0 ≤ s.toInt ∧ s.toInt < c.toInt) (hg : jG Y n) (hj : zR Y 195 n.toInt.toNat = .ref jn) (hj1 : 385 ≤ jn ∧ jn < zN Y ∧ zK Y jn = (4, 7)) (hj6 : zF Y jn 6 = .int (Int32.ofInt (-9))) (hM : ∀ w, w < 256 → zI Y 196 w = Int32.ofNat (trN Y n.toInt.toNat w + (if (zJ Y 344 (4 * s.toInt.toNat + w / 64)).toBitVec.getLsbD (w % 64) = true then 2 ^ n.toInt.toNat else 0))) (ht : jTr Y) : jyy (zae Y s u f t' k') (n + 1) t k c := by
  have hi := n_inc n0 (by omega)
  have hi2 : (n + 1).toInt.toNat = n.toInt.toNat + 1 := by omega
  have hz := fun e => zae_at (A := Y) (s := s) (u := u) (f := f) (t := t') (k := k') h8 e
  have J344 : ∀ q i, zJ (zae Y s u f t' k') q i = zJ Y q i := fun q i => rfl
  have esw : ∀ e, e ≠ n.toInt.toNat → ∀ x, sew (zae Y s u f t' k') e x = sew Y e x := fun e he x => by
    unfold sew ses
    rw [(hz e).1, if_neg he, J344]
  have esn : ∀ x, sew (zae Y s u f t' k') n.toInt.toNat x = zJ Y 344 (4 * s.toInt.toNat + x) := fun x => by
    unfold sew ses
    rw [(hz n.toInt.toNat).1, if_pos rfl, J344]
  refine ⟨⟨⟨⟨zae_8 h8, by omega, by omega⟩, (zae_F (by omega)).trans h15, (zae_F (by omega)).trans h16, (zae_F (by omega)).trans hc⟩, hk, fun e he => ?_, fun w hw => ?_, fun e he => ?_⟩, fun i hi => ?_, ⟨Int32.ofInt 0, ?_, fun z => absurd (by decide) z⟩, Int32.ofInt 0, ?_, fun z => absurd (by decide) z⟩
  · rw [(hz e).1]
    by_cases ee : e = n.toInt.toNat
    · rw [if_pos ee]
      exact hsc
    · rw [if_neg ee]
      exact hs e (by omega)
  · rw [zae_I (by omega), hM w hw, hi2]
    refine congrArg Int32.ofNat ?_
    show _ = vwN (seb (zae Y s u f t' k') w) n.toInt.toNat + (if seb (zae Y s u f t' k') w n.toInt.toNat = true then 2 ^ n.toInt.toNat else 0)
    have e1 : vwN (seb (zae Y s u f t' k') w) n.toInt.toNat = trN Y n.toInt.toNat w := vwN_eq (fun e he => by
      unfold seb
      rw [esw e (by omega)])
    rw [e1]
    unfold seb
    rw [esn]
  · rw [zae_R, (hz e).2.2.2.2.2, zae_N]
    by_cases ee : e = n.toInt.toNat
    · rw [if_pos ee, ee]
      refine ⟨⟨jn, hj, ⟨hj1.1, hj1.2.1, by rw [zae_K]; exact hj1.2.2⟩, ?_⟩, Or.inl (by decide)⟩
      rw [zae_F (by
        rintro ⟨z, -⟩
        omega)]
      exact hj6
    · rw [if_neg ee]
      obtain ⟨⟨j, b0, ⟨b1, b2, b3⟩, b4⟩, h2⟩ := hg e (by omega)
      refine ⟨⟨j, b0, ⟨b1, b2, by rw [zae_K]; exact b3⟩, ?_⟩, h2⟩
      rw [zae_F (by
        rintro ⟨z, -⟩
        omega)]
      exact b4
  · rw [zae_I (by omega)]
    exact ht i hi
  · unfold zae zov
    rw [zuF_x, if_neg (by decide), zuF_x, if_neg (by decide), zuF_x, if_neg (by decide), zuF_x, if_pos ⟨rfl, rfl⟩]
  · unfold zae
    exact zov_19
/-- what is true where, with the new one, over the class's words -/
theorem jM_plus {A Y : zW} {n : Int32} {s : Nat} {T : Nat → Int32} (n0 : 0 ≤ n.toInt) (n12 : n.toInt < 12) (hM : jM A n) (hT : ∀ w, w < 256 → T w = if zhW (zJ A (2 + 2 * s + 1)) w = true then zI A 196 w ||| (Int32.ofInt 1 <<< (n &&& 31)) else zI A 196 w) (hw : ∀ x, x < 4 → zJ A (2 + 2 * s + 1) x = zJ Y 344 (4 * s + x)) (ht : ∀ w, trN Y n.toInt.toNat w = trN A n.toInt.toNat w) : ∀ w, w < 256 → T w = Int32.ofNat (trN Y n.toInt.toNat w + (if (zJ Y 344 (4 * s + w / 64)).toBitVec.getLsbD (w % 64) = true then 2 ^ n.toInt.toNat else 0)) := fun w hw2 => by
  have en : n = Int32.ofNat n.toInt.toNat := n32_of (by omega)
  have ez : zhW (zJ A (2 + 2 * s + 1)) w = (zJ Y 344 (4 * s + w / 64)).toBitVec.getLsbD (w % 64) := by
    unfold zhW
    rw [hbB_b (by omega), hw (w / 64) (by omega)]
  have e1 := n32_1 n.toInt.toNat (by omega)
  rw [← en] at e1
  rw [hT w hw2, ez, ht, hM w hw2]
  by_cases c : (zJ Y 344 (4 * s + w / 64)).toBitVec.getLsbD (w % 64) = true
  · rw [if_pos c, if_pos c, e1, n32_or, or_p2 (show trN A n.toInt.toNat w < 2 ^ n.toInt.toNat from vwN_lt)]
  · rw [if_neg c, if_neg c, Nat.add_zero]
set_option maxRecDepth 20000 in
theorem pk8_hold {B : Nat → Nat} : ∀ (w w1 w2 : lW) (rv1 rv2 : Option Value) (s u f t' k' : Int32), J8 B w → fLr r_X11_hold [.ref (B 0), .int s, .int u, .int f, .int t', .int k'] w rv1 w1 → fLr r_X12_hold [.ref (B 343), .int s, .int u, .int f, .int t', .int k'] w1 rv2 w2 → j8 w2 := by
  intro w w1 w2 rv1 rv2 s u f t' k' hJ h1 h2
  have hb := hJ.1.1.1.b
  have hb1 : bI B w1 := hb.keep h1 (by decide)
  obtain ⟨tys, hw, -⟩ := h1.2.2.2.2.1
  obtain ⟨A, n, m, q, t, k, c, hA, ob⟩ := hJ.o hw
  have hN : 385 ≤ zN A := hA.2.1.2.2
  have c60 : c.toInt ≤ 60 := ob.y.1.2.1.2
  have hc' : zF A 343 1 = .int c := ob.y.1.1.2.2.2
  obtain ⟨A1, u1, hA1, hv1, hQ1⟩ := zrun za_X11_hold h1 hA (zargs hb (by decide) (s := [.int s, .int u, .int f, .int t', .int k']) ⟨rfl, rfl, rfl, rfl, rfl, trivial⟩) (K := fun rv A' => zhd_Q ((c, n), s, u, f, t', k') A rv A') ⟨((c, n), s, u, f, t', k'), rfl, ⟨⟨ob.c0, c60⟩, ob.e.1, hN⟩, fun _ _ h => h⟩
  have hQ1 : zhdQ (zhdV c n s u f t' k') n (fun A' => ∃ D, A' = znE A D s u f t' k') A u1 A1 := hQ1
  have hpre : zF A1 343 1 = .int c ∧ zF A1 343 8 = .int n ∧ 0 ≤ n.toInt ∧ n.toInt ≤ 12 := by
    unfold zhdQ at hQ1
    split at hQ1
    · rw [hQ1.2]
      exact ⟨hc', ob.e.2.1, ob.n⟩
    · obtain ⟨-, D, rfl⟩ := hQ1
      exact ⟨(znE_F hN (by decide) (by decide)).trans hc', (znE_F hN (by decide) (by decide)).trans ob.e.2.1, ob.n⟩
  obtain ⟨A2, u2, hA2, hv2, hQ2⟩ := zrun za_X12_hold h2 hA1 (zargs hb1 (by decide) (s := [.int s, .int u, .int f, .int t', .int k']) ⟨rfl, rfl, rfl, rfl, rfl, trivial⟩) (K := fun rv A' => zhm_Q ((c, n), s, u, f, t', k') A1 rv A') ⟨((c, n), s, u, f, t', k'), rfl, hpre, fun _ _ h => h⟩
  have hQ2 : zhdQ (zhdV c n s u f t' k') n (fun A' => A' = zae A1 s u f t' k') A1 u2 A2 := hQ2
  unfold zhdQ at hQ1 hQ2
  cases hV : zhdV c n s u f t' k' with
  | some v =>
    rw [hV] at hQ1 hQ2
    obtain ⟨-, e2⟩ := hQ1
    obtain ⟨-, e4⟩ := hQ2
    refine ⟨A2, hA2, n, t, k, c, ?_⟩
    rw [e4, e2]
    exact ob.y
  | none =>
    rw [hV] at hQ1 hQ2
    obtain ⟨-, D, e2⟩ := hQ1
    obtain ⟨-, e4⟩ := hQ2
    have e4 : A2 = zae A1 s u f t' k' := e4
    obtain ⟨⟨hsc, hu⟩, -, hn⟩ := zhd_g hV
    have n0 := ob.n.1
    have a1 : zF A 193 1 = .int n := ob.e.1.1
    refine ⟨A2, hA2, n + 1, t, k, c, ?_⟩
    rw [e4, e2]
    refine jy_plus (jn := zN A) ((znE_F hN (by decide) (by decide)).trans ob.e.2.1) n0 hn ((znE_F hN (by decide) (by decide)).trans ob.y.1.1.2.1) ((znE_F hN (by decide) (by decide)).trans ob.y.1.1.2.2.1) ((znE_F hN (by decide) (by decide)).trans hc') ob.y.1.2.1 (fun e he => ?_) hsc (fun e he => ?_) ?_ ⟨hN, ?_, znE_Kn⟩ ?_ (jM_plus n0 hn ob.y.1.2.2.2.1 (fun w hw2 => znE_196 hN a1 hw2) (fun x hx => ?_) (fun w => ?_)) (fun i hi => ?_)
    · rw [znE_I (by decide)]
      exact ob.y.1.2.2.1 e he
    · obtain ⟨⟨j, b0, ⟨b1, b2, b3⟩, b4⟩, h6⟩ := ob.y.1.2.2.2.2 e he
      rw [znE_R hN a1, if_neg (fun z => by omega), znE_I (by decide), znE_N]
      exact ⟨⟨j, b0, ⟨b1, by omega, (znE_K (by omega)).trans b3⟩, (znE_d (by omega) b1).trans b4⟩, h6⟩
    · rw [znE_R hN a1, if_pos ⟨rfl, rfl⟩]
    · rw [znE_N]
      omega
    · rw [znE_n hN]
      unfold zent
      rw [zuF_x, if_pos ⟨rfl, rfl⟩]
    · exact ob.w s.toInt.toNat (by omega) x hx
    · unfold trN
      refine vwN_eq (fun e he => ?_)
      unfold seb sew ses
      rw [znE_I (by decide)]
      rfl
    · rw [znE_I (by decide)]
      exact ob.y.2.1 i hi
end
section
/-! news, on both sides, with what is given up -/
def nwE (A : zW) (s : Int32) : zW := zE2 A (leq s)
def nwV (A : zW) (n t k s : Int32) : Int32 := zlcV (122, n, t, k) (nwE A s)
def nwG (A : zW) (n t k s : Int32) : zW := zabF (zcuW (nwE A s) 122 (zcuV (122, n, t, k) (nwE A s))) (nwV A n t k s) (zF A 193 3) n.toInt.toNat
def nwP : znwA → zW → Prop := fun ((c, n, t, k), s, _) A => leP ((c, n, t, k), s) A ∧ 385 ≤ zN A
def nwQ : znwA → zW → Option Value → zW → Prop := fun ((c, n, t, k), s, u) A rv A' => zhdQ (znwV c n s u (znw_e A s)) n (fun A' => ∃ D, A' = znE (nwG A n t k s) D s u t (Int32.ofInt 99) k) A rv A'
def zq_newsC : zQ := zs (znw_F 0) nwP nwQ
theorem zB_122 : zB 122 4 = true := by decide +kernel
theorem nwG_k {A : zW} {n t k s : Int32} (hE : zeV A n) : (∀ q i, q < 385 → zF (nwG A n t k s) q i = zF A q i) ∧ (∀ q i, zR (nwG A n t k s) q i = zR A q i) ∧ (∀ q i, zI (nwG A n t k s) q i = zI A q i) ∧ (∀ q, zK (nwG A n t k s) q = zK A q) ∧ zN (nwG A n t k s) = zN A ∧ ∀ q i, q ≠ 123 → q ≠ 200 → q ≠ 202 → zJ (nwG A n t k s) q i = zJ A q i := by
  obtain ⟨a1, a2, a3, a4, a5, a6, -⟩ := zabF_k (A := zcuW (nwE A s) 122 (zcuV (122, n, t, k) (nwE A s))) (set := nwV A n t k s) (v := zF A 193 3) (e := n.toInt.toNat) (fun i hi => by
    obtain ⟨j, b0, b1, -⟩ := hE.2 i (by omega)
    have h : zR (zcuW (nwE A s) 122 (zcuV (122, n, t, k) (nwE A s))) 195 i = .ref j := b0
    rw [h]
    exact b1)
  refine ⟨fun q i hq => a1 q i hq, fun q i => a2 q i, fun q i => a3 q i, fun q => a5 q, a6, fun q i h1 h2 h3 => ?_⟩
  refine (a4 q i).trans ?_
  unfold zcuW
  rw [zsJ_ne h3, zsJ_ne h2]
  unfold nwE zE2 ztn zbe
  rw [zsJ_ne h1, zsJ_ne h1]
set_option maxRecDepth 20000 in
set_option maxHeartbeats 8000000 in
theorem zc_X11_news : zdo r_X11_news zq_newsC := by
  refine zdo_of _ _ _ [(381, 2, zq_sentenceAt), (487, 1, q_isSource), (840, 1, zq_isEmpty), (513, 1, zq_isFullE), (729, 3, zq_inWay1), (810, 2, zq_leastCut), (831, 2, zq_abandonC), (542, 7, zq_Entry), (549, 3, zq_keepE)] (fun _ _ => []) 100 fo_X11 rfl (zs_cons rfl za_X11_sentenceAt (zs_cons rfl za_X11_isSource (zs_cons rfl za_X1_isEmpty (zs_cons rfl za_X2_isFull (zs_cons rfl za_X11_inWay1 (zs_cons rfl zc_X2_leastCut (zs_cons rfl zc_X2_abandon (zs_cons rfl za_X4_init (zs_cons rfl za_X2_keep zs_nil))))))))) k_X11_news (fun _ _ _ => no_zh) (fun a A hp => ?_)
  obtain ⟨⟨c, n, t, k⟩, s, u⟩ := a
  obtain ⟨hle, hN⟩ := hp
  have hN : 385 ≤ zN A := hN
  obtain ⟨⟨hc, hc60⟩, ⟨hV, hvt, hvk⟩, hT, hS, hW⟩ := id hle
  have hvt : zF A 193 2 = .int t := hvt
  have hvk : zF A 193 3 = .int k := hvk
  have hV : zeV A n := hV
  have hE := hV.1
  have hn : zF A 193 1 = .int n := hE.1
  have hc60 : c.toInt ≤ 60 := hc60
  have no : ∀ v : Int32, znwV c n s u (znw_e A s) = some v → nwQ ((c, n, t, k), s, u) A (some (.int v)) A := fun v h => (zhd_no h : zhdQ (znwV c n s u (znw_e A s)) n (fun A' => ∃ D, A' = znE (nwG A n t k s) D s u t (Int32.ofInt 99) k) A (some (.int v)) A)
  refine ⟨(s, c), rfl, ⟨hc, hc60⟩, fun h => ?_, fun h => ?_⟩
  · exact no _ (znw_1 (fun z => zat_n (fun z => by cases z) h z.1))
  have hs : 0 ≤ s.toInt ∧ s.toInt < c.toInt := zat_y h
  have e1 : zat c s (.ref (2 + 2 * s.toInt.toNat)) = .ref (2 + 2 * s.toInt.toNat) := if_pos hs
  have hB := zB_s (show s.toInt.toNat < 60 by omega)
  refine ⟨u, rfl, trivial, fun h => ?_, fun h => ?_⟩
  rotate_left
  · exact no _ (znw_1 (fun z => zb_n (Classical.not_not.mp h) z.2))
  have hu := zb_y h
  refine ⟨(2 + 2 * s.toInt.toNat, 4), ?_, ⟨hB, (by decide : 4 ≤ 64)⟩, fun h => ?_, fun h => ?_⟩
  · show [zat c s (.ref (2 + 2 * s.toInt.toNat))] = _
    rw [e1]
  rotate_left
  · exact no _ (znw_3 ⟨hs, hu⟩ (zb_t h))
  have he : znw_e A s = false := zb_f h
  refine ⟨n, rfl, hE, fun h => ?_, fun h => ?_⟩
  rotate_left
  · exact no _ (znw_4 ⟨hs, hu⟩ he (zb_y h))
  have hn12 := Classical.not_not.mp (zb_n h)
  refine ⟨(2 + 2 * s.toInt.toNat, Int32.ofInt 1), ?_, ⟨hB, (by decide : (Int32.ofInt 1).toInt = 1)⟩, ?_⟩
  · show [Value.ref 0, zat c s (.ref (2 + 2 * s.toInt.toNat)), .int (Int32.ofInt 1)] = _
    rw [e1]
  refine ⟨(122, n, t, k), rfl, ⟨⟨⟨zB_122, (by decide : 122 ≠ 199)⟩, ⟨hV, hvt, hvk⟩, hT⟩, hS, hW⟩, ?_⟩
  refine ⟨(nwV A n t k s, n), rfl, hV, ?_⟩
  intro D
  obtain ⟨f1, f2, f3, f5, f6, f7⟩ := nwG_k (t := t) (k := k) (s := s) hV
  have hN3 : 385 ≤ zN (nwG A n t k s) := by
    rw [f6]
    exact hN
  have hn3 : zF (nwG A n t k s) 193 1 = .int n := (f1 193 1 (by decide)).trans hn
  have hvt3 : zF (nwG A n t k s) 193 2 = .int t := (f1 193 2 (by decide)).trans hvt
  have hvk3 : zF (nwG A n t k s) 193 3 = .int k := (f1 193 3 (by decide)).trans hvk
  have hE3 : zcE (nwG A n t k s) n := ⟨hn3, hE.2⟩
  refine ⟨(zN (nwG A n t k s), n, s, u, t, Int32.ofInt 99, k), ?_, ⟨hN3, ?_⟩, ?_⟩
  · show [Value.ref (zN (nwG A n t k s)), zF (zuN (nwG A n t k s) 4 7 D) 193 1, .int s, .int u, zF (zuN (nwG A n t k s) 4 7 D) 193 2, .int (Int32.ofInt 99), zF (zuN (nwG A n t k s) 4 7 D) 193 3] = [.ref (zN (nwG A n t k s)), .int n, .int s, .int u, .int t, .int (Int32.ofInt 99), .int k]
    rw [zuN_f (znN hN3 (by decide)), zuN_f (znN hN3 (by decide)), zuN_f (znN hN3 (by decide)), hn3, hvt3, hvk3]
  · show (zK (zuN (nwG A n t k s) 4 7 D) (zN (nwG A n t k s))).1 = 4
    rw [zuN_k]
  have en : iv (zF (nwG A n t k s) 193 1) = n := by
    rw [hn3]
    rfl
  have hE4 := hE3.new (D := D) (s := s) (u := u) (f := t) (t := Int32.ofInt 99) (k := k) hN3
  rw [en] at hE4
  refine ⟨(zN (nwG A n t k s), 2 + 2 * s.toInt.toNat, n, n), ?_, ⟨hE4, hn12, hN3, ?_, zent_0, hB⟩, ?_⟩
  · show [Value.ref 193, Value.ref (zN (nwG A n t k s)), zat c s (.ref (2 + 2 * s.toInt.toNat))] = _
    rw [e1]
  · show (zK (zuN (nwG A n t k s) 4 7 D) (zN (nwG A n t k s))).1 = 4
    rw [zuN_k]
  · show zhdQ (znwV c n s u (znw_e A s)) n (fun A' => ∃ D, A' = znE (nwG A n t k s) D s u t (Int32.ofInt 99) k) A (some (.int n)) (zkp (zent (zuN (nwG A n t k s) 4 7 D) (zN (nwG A n t k s)) n s u t (Int32.ofInt 99) k) (zN (nwG A n t k s)) (2 + 2 * s.toInt.toNat))
    rw [znw_n ⟨hs, hu⟩ he hn12]
    refine ⟨rfl, D, ?_⟩
    unfold znE
    rw [en]
/-- the reference's -/
def nmG (B1 : zW) (n t k s : Int32) : zW := zov (zgF B1 (encM (lmV ((n, t, k), s.toInt.toNat, Int32.ofInt 1) B1)) k n.toInt.toNat)
def nmP : znwA → zW → Prop := fun ((c, n, t, k), s, _) A => lmmP ((c, n, t, k), s) A
def nmQ : znwA → zW → Option Value → zW → Prop := fun ((c, n, t, k), s, u) A rv A' => zhdQ (znwV c n s u (znm_e A s)) n (fun A' => ∃ B1, laQ (n, t, k) A B1 ∧ A' = zae (nmG B1 n t k s) s u t (Int32.ofInt 99) k) A rv A'
def zq_newsMM : zQ := zs (znw_F 343) nmP nmQ
set_option maxRecDepth 20000 in
set_option maxHeartbeats 8000000 in
theorem zc_X12_news : zdo r_X12_news zq_newsMM := by
  refine zdo_of _ _ _ [(669, 2, q_noSentence), (727, 1, q_noSource), (690, 2, zq_countAt), (1032, 3, zq_leastM), (1050, 2, zq_giveAll8), (912, 6, zq_addEntry)] (fun _ _ => []) 100 fo_X12 rfl (zs_cons rfl za_X12_noSentence (zs_cons rfl za_X12_noSource (zs_cons rfl za_X12_countAt (zs_cons rfl zc_X12_leastCut (zs_cons rfl zc_X12_giveAll (zs_cons rfl za_X12_addEntry zs_nil)))))) k_X12_news (fun _ _ _ => no_zh) (fun a A hp => ?_)
  obtain ⟨⟨c, n, t, k⟩, s, u⟩ := a
  obtain ⟨⟨hc, hc60⟩, hla, hw⟩ := id hp
  have hc60 : c.toInt ≤ 60 := hc60
  have hn : zF A 343 8 = .int n := hla.1.1
  have n0 : 0 ≤ n.toInt := hla.1.2.1
  have n1 : n.toInt ≤ 12 := hla.1.2.2
  have e12 : (Int32.ofInt 12).toInt = 12 := by decide
  have no : ∀ v : Int32, znwV c n s u (znm_e A s) = some v → nmQ ((c, n, t, k), s, u) A (some (.int v)) A := fun v h => (zhd_no h : zhdQ (znwV c n s u (znm_e A s)) n (fun A' => ∃ B1, laQ (n, t, k) A B1 ∧ A' = zae (nmG B1 n t k s) s u t (Int32.ofInt 99) k) A (some (.int v)) A)
  refine ⟨(s, c), rfl, hc, fun h => ?_, fun h => ?_⟩
  · exact no _ (znw_1 (fun z => zb_y h z.1))
  have hs : 0 ≤ s.toInt ∧ s.toInt < c.toInt := Classical.not_not.mp (zb_n (Classical.not_not.mp h))
  have es : s = Int32.ofNat s.toInt.toNat := n32_of (by omega)
  refine ⟨u, rfl, trivial, fun h => ?_, fun h => ?_⟩
  rotate_left
  · exact no _ (znw_1 (fun z => zb_y h z.2))
  have hu := Classical.not_not.mp (zb_n h)
  refine ⟨s, rfl, ⟨hs.1, show s.toInt < 60 by omega⟩, fun h => ?_, fun h => ?_⟩
  rotate_left
  · exact no _ (znw_3 ⟨hs, hu⟩ (decide_eq_true (Classical.not_not.mp h)))
  have he : znm_e A s = false := decide_eq_false h
  refine ⟨fun h => ?_, fun h => ?_⟩
  rotate_left
  · have h : ¬ ¬ (iv (zF A 343 8)).toInt = (Int32.ofInt 12).toInt := h
    rw [hn] at h
    have h : ¬ ¬ n.toInt = (Int32.ofInt 12).toInt := h
    exact no _ (znw_4 ⟨hs, hu⟩ he (by omega))
  have h : ¬ (iv (zF A 343 8)).toInt = (Int32.ofInt 12).toInt := h
  rw [hn] at h
  have h : ¬ n.toInt = (Int32.ofInt 12).toInt := h
  refine ⟨((n, t, k), s.toInt.toNat, Int32.ofInt 1), ?_, ⟨hla, (show s.toInt.toNat < 60 by omega), hw⟩, ?_⟩
  · show [Value.ref 343, .int s, .int (Int32.ofInt 1)] = [.ref 343, .int (Int32.ofNat s.toInt.toNat), .int (Int32.ofInt 1)]
    rw [← es]
  rintro rv B1 ⟨hq, rfl⟩
  have hq : laQ (n, t, k) A B1 := hq
  obtain ⟨gq, ⟨⟨q8, -⟩, -, ⟨q15, q16⟩, -⟩, -⟩ := id hq
  have q8 : zF B1 343 8 = .int n := q8
  have q15 : zF B1 343 15 = .int t := q15
  have q16 : zF B1 343 16 = .int k := q16
  refine ⟨(encM (lmV ((n, t, k), s.toInt.toNat, Int32.ofInt 1) B1), n, k), rfl, ⟨⟨q8, n0, n1⟩, q16⟩, ?_⟩
  obtain ⟨z1, z2, z3, -⟩ := zgF_k (A := B1) (set := encM (lmV ((n, t, k), s.toInt.toNat, Int32.ofInt 1) B1)) (k := k) (e := n.toInt.toNat)
  have y8 : zF (nmG B1 n t k s) 343 8 = .int n := by
    unfold nmG
    rw [zov_F (by omega), z3]
    exact q8
  have y15 : zF (nmG B1 n t k s) 343 15 = .int t := by
    unfold nmG
    rw [zov_F (by omega), z3]
    exact q15
  have y16 : zF (nmG B1 n t k s) 343 16 = .int k := by
    unfold nmG
    rw [zov_F (by omega), z3]
    exact q16
  refine ⟨(s, u, t, Int32.ofInt 99, k), ?_, trivial, ?_⟩
  · show [Value.ref 343, .int s, .int u, zF (nmG B1 n t k s) 343 15, .int (Int32.ofInt 99), zF (nmG B1 n t k s) 343 16] = _
    rw [y15, y16]
  · show zhdQ (znwV c n s u (znm_e A s)) n (fun A' => ∃ B1, laQ (n, t, k) A B1 ∧ A' = zae (nmG B1 n t k s) s u t (Int32.ofInt 99) k) A (some (.int (iv (zF (nmG B1 n t k s) 343 8) + Int32.ofInt 1 - Int32.ofInt 1))) (zae (nmG B1 n t k s) s u t (Int32.ofInt 99) k)
    rw [znw_n ⟨hs, hu⟩ he (by omega), y8]
    refine ⟨?_, B1, hq, rfl⟩
    show some (Value.int (n + 1 - 1)) = some (.int n)
    rw [Int32.add_sub_cancel]
/-! the pair -/
theorem O8.turn {A : zW} {n m q t k c : Int32} (o : O8 A n m q t k c) (s : Int32) : O8 (nwE A s) n m q t k c := by
  have g : agj S_8 (nwE A s) A := agj.tr (agj.sJ (q := 123) (by decide +kernel)) (agj.sJ (q := 123) (by decide +kernel))
  refine ⟨o.e, o.r, o.cl, o.tr, o.v, o.h, o.l, ⟨o.y.1.ag (g.sub sB_8), o.y.2.1.ag g, o.y.2.2.ag g⟩, o.vt, o.vk, o.c0, o.cp, fun i hi x hx => ?_⟩
  have h60 := o.y.1.2.1.2
  have h := o.w i hi x hx
  unfold nwE zE2 ztn zbe
  rw [zsJ_ne (by omega), zsJ_ne (by omega), h]
  show zJ A 344 (4 * i + x) = zJ (zsJ (zsJ A 123 _) 123 _) 344 (4 * i + x)
  rw [zsJ_ne (by decide), zsJ_ne (by decide)]
theorem nwE_w {A : zW} {n m q t k c s : Int32} (o : O8 A n m q t k c) (hs : lePs c s) {x : Nat} (hx : x < 4) : zJ (nwE A s) (122 + 1) x = fwW (nwE A s) s.toInt.toNat (Int32.ofInt 1) x ∧ zJ (nwE A s) (122 + 1) x = zJ A (leq s + 1) x ^^^ Int64.ofInt (-1) := by
  have hb : leq s + 1 ≠ 123 := by
    have h60 := o.y.1.2.1.2
    have := hs.1
    have := hs.2
    unfold leq
    omega
  have h1 : zJ (nwE A s) (122 + 1) x = zJ A (leq s + 1) x ^^^ Int64.ofInt (-1) := by
    unfold nwE zE2 ztn
    rw [zsJ_at, if_pos hx]
    unfold zbe
    rw [zsJ_at, if_pos hx]
    rfl
  have h2 : zJ (nwE A s) 344 (4 * s.toInt.toNat + x) = zJ A 344 (4 * s.toInt.toNat + x) := by
    unfold nwE zE2 ztn zbe
    rw [zsJ_ne (by decide), zsJ_ne (by decide)]
  refine ⟨?_, h1⟩
  have h5 : zJ A (leq s + 1) x = zsw A s.toInt.toNat x := o.w s.toInt.toNat (by have := hs.1; have := hs.2; omega) x hx
  rw [h1, h5]
  unfold fwW
  rw [if_neg (by decide), h2]
  rfl
set_option maxRecDepth 20000 in
theorem pk8_news {B : Nat → Nat} : ∀ (w w1 w2 : lW) (rv1 rv2 : Option Value) (s u : Int32), J8 B w → fLr r_X11_news [.ref (B 0), .int s, .int u] w rv1 w1 → fLr r_X12_news [.ref (B 343), .int s, .int u] w1 rv2 w2 → j8 w2 := by
  intro w w1 w2 rv1 rv2 s u hJ h1 h2
  have hb := hJ.1.1.1.b
  have hb1 : bI B w1 := hb.keep h1 (by decide)
  obtain ⟨tys, hw, -⟩ := h1.2.2.2.2.1
  obtain ⟨A, n, m, q, t, k, c, hA, o⟩ := hJ.o hw
  have hN : 385 ≤ zN A := hA.2.1.2.2
  obtain ⟨f1, f2, f3, f5, f6, f7⟩ := nwG_k (t := t) (k := k) (s := s) o.zeV
  have hN3 : 385 ≤ zN (nwG A n t k s) := by
    rw [f6]
    exact hN
  obtain ⟨A1, u1, hA1, hv1, hQ1⟩ := zrun zc_X11_news h1 hA (zargs hb (by decide) (s := [.int s, .int u]) ⟨rfl, rfl, trivial⟩) (K := fun rv A' => nwQ ((c, n, t, k), s, u) A rv A') ⟨((c, n, t, k), s, u), rfl, ⟨o.le, hN⟩, fun _ _ h => h⟩
  have hQ1 : zhdQ (znwV c n s u (znw_e A s)) n (fun A' => ∃ D, A' = znE (nwG A n t k s) D s u t (Int32.ofInt 99) k) A u1 A1 := hQ1
  have gG : agj S_R8 (nwG A n t k s) A := by
    unfold nwG
    refine agj.tr (agj.tr (agj.tr (agj.sJ (q := 123) (by decide +kernel)) (agj.sJ (q := 123) (by decide +kernel))) (agj_cu (by decide))) (agj_ab sY_x (fun i hi => ?_))
    obtain ⟨j, b0, b1, -⟩ := o.zeV.2 i (by omega)
    have h : zR (zcuW (nwE A s) 122 (zcuV (122, n, t, k) (nwE A s))) 195 i = .ref j := b0
    rw [h]
    exact b1
  have g : agj S_R8 A1 A := by
    unfold zhdQ at hQ1
    split at hQ1
    · rw [hQ1.2]
      exact agj.rf
    · obtain ⟨-, D, rfl⟩ := hQ1
      exact gG.tr (agj_znE (by decide) hN3)
  obtain ⟨A2, u2, hA2, hv2, hQ2⟩ := zrun zc_X12_news h2 hA1 (zargs hb1 (by decide) (s := [.int s, .int u]) ⟨rfl, rfl, trivial⟩) (K := fun rv A' => nmQ ((c, n, t, k), s, u) A1 rv A') ⟨((c, n, t, k), s, u), rfl, o.lm g, fun _ _ h => h⟩
  have hQ2 : zhdQ (znwV c n s u (znm_e A1 s)) n (fun A' => ∃ B1, laQ (n, t, k) A1 B1 ∧ A' = zae (nmG B1 n t k s) s u t (Int32.ofInt 99) k) A1 u2 A2 := hQ2
  have ez : ∀ x, zsw A1 s.toInt.toNat x = zsw A s.toInt.toNat x := fun x => g.2 344 _ (by decide) (by decide +kernel)
  have hVV : znwV c n s u (znw_e A s) = znwV c n s u (znm_e A1 s) := by
    by_cases hs : 0 ≤ s.toInt ∧ s.toInt < c.toInt
    · rw [znw_ee (fun x hx => (o.w s.toInt.toNat (by omega) x hx).trans (ez x).symm)]
    · rw [znw_1 (fun z => hs z.1), znw_1 (fun z => hs z.1)]
  rw [← hVV] at hQ2
  unfold zhdQ at hQ1 hQ2
  cases hV : znwV c n s u (znw_e A s) with
  | some v =>
    rw [hV] at hQ1 hQ2
    obtain ⟨-, e2⟩ := hQ1
    obtain ⟨-, e4⟩ := hQ2
    refine ⟨A2, hA2, n, t, k, c, ?_⟩
    rw [e4, e2]
    exact o.y
  | none =>
    rw [hV] at hQ1 hQ2
    obtain ⟨-, D, eA1⟩ := hQ1
    obtain ⟨-, B1, hq, eA2⟩ := hQ2
    obtain ⟨⟨hsc, hu⟩, hne, hn⟩ := znw_g hV
    have n0 := o.n.1
    have h12 := o.n.2
    -- the two's cuts
    have oE := o.turn s
    have gE : agj S_R8 (nwE A s) A := agj.tr (agj.sJ (q := 123) (by decide +kernel)) (agj.sJ (q := 123) (by decide +kernel))
    have gEr : agj S_N A1 (nwE A s) := by
      have gx : agj S_R8 (nwG A n t k s) (nwE A s) := by
        unfold nwG
        refine agj.tr (agj_cu (by decide)) (agj_ab sY_x (fun i hi => ?_))
        obtain ⟨j, b0, b1, -⟩ := o.zeV.2 i (by omega)
        have h : zR (zcuW (nwE A s) 122 (zcuV (122, n, t, k) (nwE A s))) 195 i = .ref j := b0
        rw [h]
        exact b1
      rw [eA1]
      exact (gx.tr (agj_znE (by decide) hN3)).sub sN_R
    obtain ⟨gq, hla, hLw, h20⟩ := id hq
    have gN : agj S_N B1 (nwE A s) := gEr.tr (gq.sub sN_Y)
    have hwd : ∀ x, x < 4 → zJ (nwE A s) (122 + 1) x = fwW (nwE A s) s.toInt.toNat (Int32.ofInt 1) x := fun x hx => (nwE_w o hsc hx).1
    have hout : zaB (zJ (nwE A s) (122 + 1)) 4 = false := by
      cases hz : zaB (zJ (nwE A s) (122 + 1)) 4 with
      | false => rfl
      | true =>
        exfalso
        have hz := zaB_t.mp hz
        have h0 : zzB (zJ A (2 + 2 * s.toInt.toNat + 1)) 4 = true := zzB_t.mpr (fun x hx => by
          have h3 := Int64.toInt_inj.mp (hz x hx)
          rw [(nwE_w o hsc hx).2] at h3
          have h4 : zJ A (leq s + 1) x = Int64.ofNat 0 := by
            refine l_zero.mpr (fun i hi => ?_)
            have h5 := congrArg (fun y : Int64 => y.toBitVec.getLsbD i) h3
            have h5 : (zJ A (leq s + 1) x ^^^ Int64.ofInt (-1)).toBitVec.getLsbD i = (Int64.ofInt (-1)).toBitVec.getLsbD i := h5
            rw [Int64.toBitVec_xor, BitVec.getLsbD_xor, m1_64 i hi, Bool.xor_true, Bool.not_eq_true'] at h5
            exact h5
          exact congrArg Int64.toInt h4)
        have h1 : znw_e A s = true := h0
        rw [hne] at h1
        cases h1
    have e1 := oE.lc hwd gN hLw
    obtain ⟨b, hbs⟩ := oE.some hwd gN hLw hout
    have ev : nwV A n t k s = encM (lmV ((n, t, k), s.toInt.toNat, Int32.ofInt 1) B1) := by
      show (encL (costC (nwE A s) n.toInt.toNat) (lstF (zlcF (122, n, t, k) (nwE A s)) (costC (nwE A s) n.toInt.toNat) 4096)).1 = _
      rw [e1, hbs]
      rfl
    obtain ⟨v, hv⟩ : ∃ v, v = nwV A n t k s := ⟨_, rfl⟩
    rw [← hv] at ev
    obtain ⟨z1, z2, z3, z4, z5, z6, z7⟩ := zgF_k (A := B1) (set := v) (k := k) (e := n.toInt.toNat)
    have eY : nmG B1 n t k s = zov (zgF B1 v k n.toInt.toNat) := by
      unfold nmG
      rw [← ev]
    rw [eY] at eA2
    -- over what the class has
    have a1 : zF (nwG A n t k s) 193 1 = .int n := (f1 193 1 (by decide)).trans o.e.1.1
    have R1 : ∀ e, zR B1 195 e = zR A1 195 e := fun e => (gq.1.2.1 195 e (by decide) (by decide +kernel)).2
    have I1 : ∀ q e, q < 385 → (zn lp_sh q, 0) ∈ S_Y → zI B1 q e = zI A1 q e := fun q e a b => (gq.1.2.1 q e a b).1
    have hNB : zN A1 ≤ zN B1 := gq.1.2.2.1
    have c6 : ∀ e : Nat, (e : Int) < n.toInt → zF (nwG A n t k s) (rv_ (zR A 195 e)) 6 = if zbi v e = true then .int k else zF A (rv_ (zR A 195 e)) 6 := fun e he => by
      have h := zab_6 (A := zcuW (nwE A s) 122 (zcuV (122, n, t, k) (nwE A s))) (set := v) (v := zF A 193 3) (n := n) o.e h12 (m := n.toInt.toNat) (by omega) e he
      have h : zF (zabF (zcuW (nwE A s) 122 (zcuV (122, n, t, k) (nwE A s))) v (zF A 193 3) n.toInt.toNat) (rv_ (zR A 195 e)) 6 = if e < n.toInt.toNat ∧ zbi v e = true then zF A 193 3 else zF A (rv_ (zR A 195 e)) 6 := h
      unfold nwG
      rw [← hv, h, o.vk]
      by_cases d : zbi v e = true
      · rw [if_pos ⟨by omega, d⟩, if_pos d]
      · rw [if_neg (fun z => d z.2), if_neg d]
    have F0 : ∀ i, i ≠ 19 → i ≠ 33 → i ≠ 55 → zF (zov (zgF B1 v k n.toInt.toNat)) 343 i = zF B1 343 i := fun i h1 h2 h3 => by
      rw [zov_F (by omega), z3]
    have i348 : ∀ e, zI (zov (zgF B1 v k n.toInt.toNat)) 348 e = zI A 348 e := fun e => by
      show zI (zgF B1 v k n.toInt.toNat) 348 e = _
      rw [z2 348 e (by decide), I1 348 e (by decide) (by decide +kernel), eA1, znE_I (by decide), f3]
    have j344 : ∀ e, zJ (zov (zgF B1 v k n.toInt.toNat)) 344 e = zJ A 344 e := fun e => by
      show zJ (zgF B1 v k n.toInt.toNat) 344 e = _
      rw [z5, gq.2 344 e (by decide) (by decide +kernel)]
      exact g.2 344 e (by decide) (by decide +kernel)
    have K1 : ∀ j, 385 ≤ j → j < zN A1 → zK A1 j = (4, 7) → zK B1 j = (4, 7) ∧ zF B1 j 6 = zF A1 j 6 := fun j j1 j2 j3 => ⟨(gq.1.2.2.2 j 4 7 j1 j2 j3).1, (gq.1.2.2.2 j 4 7 j1 j2 j3).2 6 (by decide)⟩
    refine ⟨A2, hA2, n + 1, t, k, c, ?_⟩
    rw [eA2]
    refine jy_plus (jn := zN A) ?_ n0 hn ?_ ?_ ?_ o.y.1.2.1 (fun e he => ?_) hsc (fun e he => ?_) ?_ ⟨hN, ?_, ?_⟩ ?_ (jM_plus n0 hn o.y.1.2.2.2.1 (fun w hw2 => ?_) (fun x hx => ?_) (fun w => ?_)) (fun i hi => ?_)
    · rw [F0 8 (by decide) (by decide) (by decide)]
      exact hla.1.1
    · rw [F0 15 (by decide) (by decide) (by decide)]
      exact hla.2.2.1.1
    · rw [F0 16 (by decide) (by decide) (by decide)]
      exact hla.2.2.1.2
    · rw [F0 1 (by decide) (by decide) (by decide), gq.1.1 343 1 (by decide) (by decide +kernel), g.1.1 343 1 (by decide) (by decide +kernel)]
      exact o.y.1.1.2.2.2
    · rw [i348]
      exact o.y.1.2.2.1 e he
    · obtain ⟨⟨j, b0, ⟨b1, b2, b3⟩, b4⟩, h6⟩ := o.y.1.2.2.2.2 e he
      have hr1 : zR A1 195 e = .ref j := by
        rw [eA1, znE_R hN3 a1, if_neg (fun z => by omega), f2]
        exact b0
      have hk1 : zK A1 j = (4, 7) := by
        rw [eA1, znE_K (by rw [f6]; omega), f5]
        exact b3
      have hn1 : j < zN A1 := by
        rw [eA1, znE_N, f6]
        omega
      have h66 := c6 e he
      have ej : rv_ (zR A 195 e) = j := by rw [b0]; rfl
      rw [ej] at h66
      have hf1 : zF A1 j 6 = zF (nwG A n t k s) j 6 := by
        rw [eA1]
        exact znE_d (by rw [f6]; omega) b1
      have hi1 : zI B1 353 e = zI A 353 e := by
        rw [I1 353 e (by decide) (by decide +kernel), eA1, znE_I (by decide), f3]
      have h353 : zI (zov (zgF B1 v k n.toInt.toNat)) 353 e = if zbi v e = true then k else zI A 353 e := by
        show zI (zgF B1 v k n.toInt.toNat) 353 e = _
        rw [z1, hi1]
        by_cases d : zbi v e = true
        · rw [if_pos ⟨by omega, d⟩, if_pos d]
        · rw [if_neg (fun z => d z.2), if_neg d]
      obtain ⟨k1, k2⟩ := K1 j b1 hn1 hk1
      refine ⟨⟨j, ?_, ⟨b1, ?_, ?_⟩, ?_⟩, ?_⟩
      · show zR (zgF B1 v k n.toInt.toNat) 195 e = _
        rw [z4, R1]
        exact hr1
      · show j < zN (zgF B1 v k n.toInt.toNat)
        rw [z7]
        omega
      · show zK (zgF B1 v k n.toInt.toNat) j = _
        rw [z6]
        exact k1
      · rw [h353, zov_F (by
          rintro ⟨z, -⟩
          omega), z3, k2, hf1, h66, b4]
        by_cases d : zbi v e = true
        · rw [if_pos d, if_pos d]
        · rw [if_neg d, if_neg d]
      · rw [h353]
        split
        · exact Or.inr o.y.1.2.1.1
        · exact h6
    · show zR (zgF B1 v k n.toInt.toNat) 195 n.toInt.toNat = _
      rw [z4, R1, eA1, znE_R hN3 a1, if_pos ⟨rfl, rfl⟩, f6]
    · show zN A < zN (zgF B1 v k n.toInt.toNat)
      rw [z7]
      have : zN A1 = zN A + 1 := by rw [eA1, znE_N, f6]
      omega
    · show zK (zgF B1 v k n.toInt.toNat) (zN A) = _
      rw [z6]
      have hk1 : zK A1 (zN A) = (4, 7) := by
        rw [eA1, ← f6]
        exact znE_Kn
      exact (K1 (zN A) hN (by rw [eA1, znE_N, f6]; omega) hk1).1
    · have hk1 : zK A1 (zN A) = (4, 7) := by
        rw [eA1, ← f6]
        exact znE_Kn
      rw [zov_F (by omega), z3, (K1 (zN A) hN (by rw [eA1, znE_N, f6]; omega) hk1).2, eA1, ← f6, znE_n hN3]
      unfold zent
      rw [zuF_x, if_pos ⟨rfl, rfl⟩]
    · show zI (zgF B1 v k n.toInt.toNat) 196 w = _
      rw [z2 196 w (by decide), I1 196 w (by decide) (by decide +kernel), eA1, znE_196 hN3 a1 hw2, f3]
      have e7 : zJ (nwG A n t k s) (2 + 2 * s.toInt.toNat + 1) = zJ A (2 + 2 * s.toInt.toNat + 1) := funext (fun i => f7 _ i (by have := o.y.1.2.1.2; omega) (by have := o.y.1.2.1.2; omega) (by have := o.y.1.2.1.2; omega))
      rw [e7]
    · rw [j344]
      exact o.w s.toInt.toNat (by omega) x hx
    · unfold trN
      refine vwN_eq (fun e he => ?_)
      unfold seb sew ses
      rw [i348, j344]
    · show 1 ≤ (zI (zgF B1 v k n.toInt.toNat) 345 i).toInt ∧ (zI (zgF B1 v k n.toInt.toNat) 345 i).toInt ≤ 9
      rw [z2 345 i (by decide), I1 345 i (by decide) (by decide +kernel), eA1, znE_I (by decide), f3]
      exact o.y.2.1 i hi
end
