/-! the reference: what follows, cuts, the least of them, what is given up -/
def fwW (A : zW) (s : Nat) (way : Int32) (q : Nat) : Int64 := if way.toInt = 0 then zJ A 344 (4 * s + q) else zJ A 344 (4 * s + q) ^^^ Int64.ofInt (-1)
def flN (A : zW) (S s : Nat) (way : Int32) : Nat → Bool
  | 0 => true
  | q + 1 => flN A S s way q && decide (zJ A 354 (4 * S + q) &&& (fwW A s way q ^^^ Int64.ofInt (-1)) = Int64.ofNat 0)
abbrev foA : Type := Nat × Nat × Int32
def zq_follows : zQ := zpu (fun a : foA => [.ref 343, .int (Int32.ofNat a.1), .int (Int32.ofNat a.2.1), .int a.2.2]) (fun a _ => a.1 < 4096 ∧ a.2.1 < 60) (fun a A => .int (zb (flN A a.1 a.2.1 a.2.2 4)))
def in_fo (A : zW) (S s : Nat) (way : Int32) : fL_ → List Value → zW → Prop := fun lg vs A' => ∃ q : Nat, f_sub [(5, false, .int (Int32.ofNat q)), (4, false, .int (zb (flN A S s way q))), (0, false, .ref 343), (1, false, .int (Int32.ofNat S)), (2, false, .int (Int32.ofNat s)), (3, false, .int way)] lg ∧ vs = [] ∧ A' = A ∧ q ≤ 4
theorem zb_1 : zb true = Int32.ofInt 1 := rfl
theorem zb_0 : zb false = Int32.ofInt 0 := rfl
set_option maxRecDepth 20000 in
set_option maxHeartbeats 8000000 in
theorem zc_X12_follows : zdo r_X12_follows zq_follows := by
  refine zdo_pu [] (fun a A => [(6, in_fo A a.1 a.2.1 a.2.2)]) 80 fo_X12 rfl zs_nil k_X12_follows (fun a A hp => ?_) (fun a A hp => ?_)
  · obtain ⟨S, s, way⟩ := a
    obtain ⟨hS, hs6⟩ := hp
    have hS : S < 4096 := hS
    have hs6 : s < 60 := hs6
    refine List.forall_mem_cons.mpr ⟨?_, fun _ h => absurd h List.not_mem_nil⟩
    rintro lg vs A' ⟨q, hs, rfl, rfl, hq⟩
    have hq : q ≤ 4 := hq
    have tq := n32_t (show q < 4096 by omega)
    have eq1 : some (false, Value.int (Int32.ofNat q + Int32.ofInt 1)) = some (false, .int (Int32.ofNat (q + 1))) := by rw [n32_s (by omega)]
    have eF : flN A' S s way (q + 1) = (flN A' S s way q && decide (zJ A' 354 (4 * S + q) &&& (fwW A' s way q ^^^ Int64.ofInt (-1)) = Int64.ofNat 0)) := rfl
    have eN : flN A' S s way (q + 1) = false → some (false, Value.int (Int32.ofInt 0)) = some (false, .int (zb (flN A' S s way (q + 1)))) := fun z => by
      rw [z]
      rfl
    have eY : flN A' S s way (q + 1) = true → some (false, Value.int (Int32.ofInt 1)) = some (false, .int (zb (flN A' S s way (q + 1)))) := fun z => by
      rw [z]
      rfl
    refine ⟨_, 80, hs, fun h => ?_, fun h => ?_⟩
    · have h : (Int32.ofInt 4).toInt ≤ (Int32.ofNat q).toInt := h
      rw [e4i, tq] at h
      refine ⟨?_, rfl⟩
      show some (Value.int (zb (flN A' S s way q))) = some (.int (zb (flN A' S s way 4)))
      rw [show q = 4 by omega]
    · have h : ¬ (Int32.ofInt 4).toInt ≤ (Int32.ofNat q).toInt := h
      rw [e4i, tq] at h
      have hq4 : q < 4 := by omega
      have le1 : q + 1 ≤ 4 := by omega
      have i1 := n32_m hS hq4
      have i2 := n32_m (show s < 4096 by omega) hq4
      refine ⟨fun h2 => ?_, fun h2 => ?_⟩
      · have h2 : ¬ way.toInt = 0 := h2
        have eW : zJ A' 344 (Int32.ofInt 4 * Int32.ofNat s + Int32.ofNat q).toNatClampNeg ^^^ Int64.ofInt (-1) = fwW A' s way q := by
          unfold fwW
          rw [if_neg h2, i2]
        refine ⟨fun h3 => ?_, fun h3 => ⟨fun h4 => ?_, fun h4 => ?_⟩⟩
        · have h3 : (zb (flN A' S s way q)).toInt = 0 := h3
          exact ⟨q + 1, ⟨eq1, eN (by rw [eF, zb_f h3, Bool.false_and]), rfl, rfl, rfl, rfl, trivial⟩, rfl, rfl, le1⟩
        · have h4 : ¬ (lg_cmp (zJ A' 354 (Int32.ofInt 4 * Int32.ofNat S + Int32.ofNat q).toNatClampNeg &&& ((zJ A' 344 (Int32.ofInt 4 * Int32.ofNat s + Int32.ofNat q).toNatClampNeg ^^^ Int64.ofInt (-1)) ^^^ Int64.ofInt (-1))) (Int64.ofNat 0)).toInt = 0 := h4
          rw [eW, i1] at h4
          exact ⟨q + 1, ⟨eq1, eN (by rw [eF, decide_eq_false (fun z => h4 (lg_cmp_0.mpr z)), Bool.and_false]), rfl, rfl, rfl, rfl, trivial⟩, rfl, rfl, le1⟩
        · have h3 : ¬ (zb (flN A' S s way q)).toInt = 0 := h3
          have h4 : ¬ ¬ (lg_cmp (zJ A' 354 (Int32.ofInt 4 * Int32.ofNat S + Int32.ofNat q).toNatClampNeg &&& ((zJ A' 344 (Int32.ofInt 4 * Int32.ofNat s + Int32.ofNat q).toNatClampNeg ^^^ Int64.ofInt (-1)) ^^^ Int64.ofInt (-1))) (Int64.ofNat 0)).toInt = 0 := h4
          rw [eW, i1] at h4
          exact ⟨q + 1, ⟨eq1, eY (by rw [eF, zb_t h3, decide_eq_true (lg_cmp_0.mp (Classical.not_not.mp h4)), Bool.and_self]), rfl, rfl, rfl, rfl, trivial⟩, rfl, rfl, le1⟩
      · have h2 : ¬ ¬ way.toInt = 0 := h2
        have h2 := Classical.not_not.mp h2
        have eW : zJ A' 344 (Int32.ofInt 4 * Int32.ofNat s + Int32.ofNat q).toNatClampNeg = fwW A' s way q := by
          unfold fwW
          rw [if_pos h2, i2]
        refine ⟨fun h3 => ?_, fun h3 => ⟨fun h4 => ?_, fun h4 => ?_⟩⟩
        · have h3 : (zb (flN A' S s way q)).toInt = 0 := h3
          exact ⟨q + 1, ⟨eq1, eN (by rw [eF, zb_f h3, Bool.false_and]), rfl, rfl, rfl, rfl, trivial⟩, rfl, rfl, le1⟩
        · have h4 : ¬ (lg_cmp (zJ A' 354 (Int32.ofInt 4 * Int32.ofNat S + Int32.ofNat q).toNatClampNeg &&& (zJ A' 344 (Int32.ofInt 4 * Int32.ofNat s + Int32.ofNat q).toNatClampNeg ^^^ Int64.ofInt (-1))) (Int64.ofNat 0)).toInt = 0 := h4
          rw [eW, i1] at h4
          exact ⟨q + 1, ⟨eq1, eN (by rw [eF, decide_eq_false (fun z => h4 (lg_cmp_0.mpr z)), Bool.and_false]), rfl, rfl, rfl, rfl, trivial⟩, rfl, rfl, le1⟩
        · have h3 : ¬ (zb (flN A' S s way q)).toInt = 0 := h3
          have h4 : ¬ ¬ (lg_cmp (zJ A' 354 (Int32.ofInt 4 * Int32.ofNat S + Int32.ofNat q).toNatClampNeg &&& (zJ A' 344 (Int32.ofInt 4 * Int32.ofNat s + Int32.ofNat q).toNatClampNeg ^^^ Int64.ofInt (-1))) (Int64.ofNat 0)).toInt = 0 := h4
          rw [eW, i1] at h4
          exact ⟨q + 1, ⟨eq1, eY (by rw [eF, zb_t h3, decide_eq_true (lg_cmp_0.mp (Classical.not_not.mp h4)), Bool.and_self]), rfl, rfl, rfl, rfl, trivial⟩, rfl, rfl, le1⟩
  · exact ⟨0, ⟨rfl, rfl, rfl, rfl, rfl, rfl, trivial⟩, rfl, rfl, Nat.zero_le _⟩
/-! cuts -/
def icN (A : zW) (V c s : Nat) (way : Int32) : Nat → Bool
  | 0 => decide (dfN c V = 0) && !(flN A (dfN V c) s way 4)
  | e + 1 => icN A V c s way e && (!(c.testBit e) || flN A (dfN V c ||| 2 ^ e) s way 4)
theorem icN_f {A : zW} {V c s e : Nat} {way : Int32} (h : icN A V c s way e = false) : ∀ {d : Nat}, icN A V c s way (e + d) = false
  | 0 => h
  | d + 1 => by
    show (icN A V c s way (e + d) && _) = false
    rw [icN_f h (d := d), Bool.false_and]
theorem dfN_le {a b : Nat} : dfN a b ≤ a := Nat.le_of_testBit (fun i h => by
  rw [dfN_b, Bool.and_eq_true] at h
  exact h.1)
abbrev icA : Type := (Nat × Int32 × Nat) × Nat × Int32
def icP (a : icA) (A : zW) : Prop := (zF A 343 8 = .int a.1.2.1 ∧ 0 ≤ a.1.2.1.toInt ∧ a.1.2.1.toInt ≤ 12) ∧ (zF A 343 20 = .int (Int32.ofNat a.1.2.2) ∧ a.1.2.2 < 2 ^ a.1.2.1.toInt.toNat) ∧ a.1.1 < 4096 ∧ a.2.1 < 60
def zq_isCut : zQ := zpu (fun a : icA => [.ref 343, .int (Int32.ofNat a.1.1), .int (Int32.ofNat a.2.1), .int a.2.2]) icP (fun a A => .int (zb (icN A a.1.2.2 a.1.1 a.2.1 a.2.2 a.1.2.1.toInt.toNat)))
def in_ic (A : zW) (c : Nat) (n : Int32) (V s : Nat) (way : Int32) : fL_ → List Value → zW → Prop := fun lg vs A' => ∃ e : Nat, f_sub [(5, false, .int (Int32.ofNat e)), (4, false, .int (zb (icN A V c s way e))), (0, false, .ref 343), (1, false, .int (Int32.ofNat c)), (2, false, .int (Int32.ofNat s)), (3, false, .int way)] lg ∧ vs = [] ∧ A' = A ∧ (e : Int) ≤ n.toInt
set_option maxRecDepth 20000 in
set_option maxHeartbeats 8000000 in
theorem zc_X12_isCut : zdo r_X12_isCut zq_isCut := by
  refine zdo_pu [(969, 4, zq_follows), (475, 2, zq_hasBit)] (fun a A => [(38, in_ic A a.1.1 a.1.2.1 a.1.2.2 a.2.1 a.2.2)]) 80 fo_X12 rfl (zs_cons rfl zc_X12_follows (zs_cons rfl za_X12_hasBit zs_nil)) k_X12_isCut (fun a A hp => ?_) (fun a A hp => ?_)
  · obtain ⟨⟨c, n, V⟩, s, way⟩ := a
    obtain ⟨⟨hn, n0, n1⟩, ⟨hV, hVn⟩, hc, hs6⟩ := hp
    have hn : zF A 343 8 = .int n := hn
    have n0 : 0 ≤ n.toInt := n0
    have n1 : n.toInt ≤ 12 := n1
    have hV : zF A 343 20 = .int (Int32.ofNat V) := hV
    have hVn : V < 2 ^ n.toInt.toNat := hVn
    have hc : c < 4096 := hc
    have hs6 : s < 60 := hs6
    have hm := p2_le n.toInt.toNat (by omega)
    refine List.forall_mem_cons.mpr ⟨?_, fun _ h => absurd h List.not_mem_nil⟩
    rintro lg vs A' ⟨e, hs, rfl, rfl, he⟩
    have he : (e : Int) ≤ n.toInt := he
    have te := n32_t (show e < 4096 by omega)
    have eq1 : some (false, Value.int (Int32.ofNat e + Int32.ofInt 1)) = some (false, .int (Int32.ofNat (e + 1))) := by rw [n32_s (by omega)]
    have eF : icN A' V c s way (e + 1) = (icN A' V c s way e && (!(c.testBit e) || flN A' (dfN V c ||| 2 ^ e) s way 4)) := rfl
    refine ⟨_, 80, hs, fun h => ?_, fun h => ⟨fun h2 => ?_, fun h2 => ?_⟩⟩
    · have h : (iv (zF A' 343 8)).toInt ≤ (Int32.ofNat e).toInt := h
      rw [hn, te] at h
      have h : n.toInt ≤ (e : Int) := h
      refine ⟨?_, rfl⟩
      show some (Value.int (zb (icN A' V c s way e))) = some (.int (zb (icN A' V c s way n.toInt.toNat)))
      rw [show n.toInt.toNat = e by omega]
    · have h2 : (zb (icN A' V c s way e)).toInt = 0 := h2
      have h2 := zb_f h2
      refine ⟨?_, rfl⟩
      show some (Value.int (zb (icN A' V c s way e))) = some (.int (zb (icN A' V c s way n.toInt.toNat)))
      have e2 := icN_f h2 (d := n.toInt.toNat - e)
      rw [show e + (n.toInt.toNat - e) = n.toInt.toNat by omega] at e2
      rw [h2, e2]
    · have h : ¬ (iv (zF A' 343 8)).toInt ≤ (Int32.ofNat e).toInt := h
      rw [hn, te] at h
      have h : ¬ n.toInt ≤ (e : Int) := h
      have h2 : ¬ (zb (icN A' V c s way e)).toInt = 0 := h2
      have h2 := zb_t h2
      have le1 : ((e + 1 : Nat) : Int) ≤ n.toInt := by omega
      refine ⟨((Int32.ofNat c).toInt64, Int32.ofNat e), rfl, trivial, fun h3 => ?_, fun h3 => ?_⟩
      · have h3 : (zb (hbB (Int32.ofNat c).toInt64 (Int32.ofNat e))).toInt = 0 := h3
        have h3 := zb_f h3
        rw [zbt_m (by omega), n32_zbi (by omega)] at h3
        have e3 : icN A' V c s way (e + 1) = true := by rw [eF, h2, h3]; rfl
        refine ⟨e + 1, ⟨eq1, ?_, rfl, rfl, rfl, rfl, trivial⟩, rfl, rfl, le1⟩
        rw [e3]
        rfl
      · have h3 : ¬ (zb (hbB (Int32.ofNat c).toInt64 (Int32.ofNat e))).toInt = 0 := h3
        have h3 := zb_t h3
        rw [zbt_m (by omega), n32_zbi (by omega)] at h3
        have hlt : dfN V c ||| 2 ^ e < 4096 := by
          have h1 : dfN V c < 2 ^ n.toInt.toNat := Nat.lt_of_le_of_lt dfN_le hVn
          have h2 : 2 ^ e < 2 ^ n.toInt.toNat := Nat.pow_lt_pow_right (by decide) (by omega)
          have := Nat.or_lt_two_pow h1 h2
          omega
        have eS : (iv (zF A' 343 20) &&& (Int32.ofNat c ^^^ Int32.ofInt (-1))) ||| (Int32.ofInt 1 <<< (Int32.ofNat e &&& 31)) = Int32.ofNat (dfN V c ||| 2 ^ e) := by
          rw [hV]
          show (Int32.ofNat V &&& (Int32.ofNat c ^^^ Int32.ofInt (-1))) ||| (Int32.ofInt 1 <<< (Int32.ofNat e &&& 31)) = _
          rw [n32_dif, n32_1 e (by omega), n32_or]
        refine ⟨(dfN V c ||| 2 ^ e, s, way), ?_, ⟨hlt, hs6⟩, fun h4 => ?_, fun h4 => ?_⟩
        · show [Value.ref 343, .int ((iv (zF A' 343 20) &&& (Int32.ofNat c ^^^ Int32.ofInt (-1))) ||| (Int32.ofInt 1 <<< (Int32.ofNat e &&& 31))), .int (Int32.ofNat s), .int way] = [.ref 343, .int (Int32.ofNat (dfN V c ||| 2 ^ e)), .int (Int32.ofNat s), .int way]
          rw [eS]
        · have h4 : (zb (flN A' (dfN V c ||| 2 ^ e) s way 4)).toInt = 0 := h4
          have h4 := zb_f h4
          have e3 : icN A' V c s way (e + 1) = false := by rw [eF, h3, h4]; simp
          refine ⟨e + 1, ⟨eq1, ?_, rfl, rfl, rfl, rfl, trivial⟩, rfl, rfl, le1⟩
          rw [e3]
          rfl
        · have h4 : ¬ (zb (flN A' (dfN V c ||| 2 ^ e) s way 4)).toInt = 0 := h4
          have h4 := zb_t h4
          have e3 : icN A' V c s way (e + 1) = true := by rw [eF, h2, h4]; simp
          refine ⟨e + 1, ⟨eq1, ?_, rfl, rfl, rfl, rfl, trivial⟩, rfl, rfl, le1⟩
          rw [e3]
          rfl
  · obtain ⟨⟨c, n, V⟩, s, way⟩ := a
    obtain ⟨⟨hn, n0, n1⟩, ⟨hV, hVn⟩, hc, hs6⟩ := hp
    have n0 : 0 ≤ n.toInt := n0
    have n1 : n.toInt ≤ 12 := n1
    have hV : zF A 343 20 = .int (Int32.ofNat V) := hV
    have hVn : V < 2 ^ n.toInt.toNat := hVn
    have hc : c < 4096 := hc
    have hm := p2_le n.toInt.toNat (by omega)
    have e0 : icN A V c s way 0 = (decide (dfN c V = 0) && !(flN A (dfN V c) s way 4)) := rfl
    have eC : Int32.ofNat c &&& (iv (zF A 343 20) ^^^ Int32.ofInt (-1)) = Int32.ofNat (dfN c V) := by
      rw [hV]
      exact n32_dif c V
    have eS : iv (zF A 343 20) &&& (Int32.ofNat c ^^^ Int32.ofInt (-1)) = Int32.ofNat (dfN V c) := by
      rw [hV]
      exact n32_dif V c
    have td := n32_t (show dfN c V < 4096 from Nat.lt_of_le_of_lt dfN_le hc)
    refine ⟨fun h => ?_, fun h => ?_⟩
    · have h : ¬ (Int32.ofNat c &&& (iv (zF A 343 20) ^^^ Int32.ofInt (-1))).toInt = 0 := h
      rw [eC, td] at h
      have e3 : icN A V c s way 0 = false := by rw [e0, decide_eq_false (by omega), Bool.false_and]
      refine ⟨0, ⟨rfl, ?_, rfl, rfl, rfl, rfl, trivial⟩, rfl, rfl, n0⟩
      rw [e3]
      rfl
    · have h : ¬ ¬ (Int32.ofNat c &&& (iv (zF A 343 20) ^^^ Int32.ofInt (-1))).toInt = 0 := h
      rw [eC, td] at h
      refine ⟨(dfN V c, s, way), ?_, ⟨(show dfN V c < 4096 from Nat.lt_of_le_of_lt dfN_le (by omega)), hs6⟩, fun h4 => ?_, fun h4 => ?_⟩
      · show [Value.ref 343, .int (iv (zF A 343 20) &&& (Int32.ofNat c ^^^ Int32.ofInt (-1))), .int (Int32.ofNat s), .int way] = [.ref 343, .int (Int32.ofNat (dfN V c)), .int (Int32.ofNat s), .int way]
        rw [eS]
      · have h4 : ¬ (zb (flN A (dfN V c) s way 4)).toInt = 0 := h4
        have h4 := zb_t h4
        have e3 : icN A V c s way 0 = false := by rw [e0, h4]; simp
        refine ⟨0, ⟨rfl, ?_, rfl, rfl, rfl, rfl, trivial⟩, rfl, rfl, n0⟩
        rw [e3]
        rfl
      · have h4 : ¬ ¬ (zb (flN A (dfN V c) s way 4)).toInt = 0 := h4
        have h4 := zb_f (Classical.not_not.mp h4)
        have e3 : icN A V c s way 0 = true := by rw [e0, h4, decide_eq_true (by omega)]; rfl
        refine ⟨0, ⟨rfl, ?_, rfl, rfl, rfl, rfl, trivial⟩, rfl, rfl, n0⟩
        rw [e3]
        rfl
/-! the least -/
theorem onS {α : Type} (o : Option α) : o = none ∨ ∃ b, o = some b := by
  cases o with
  | none => exact Or.inl rfl
  | some b => exact Or.inr ⟨b, rfl⟩
theorem zmw_le {A : zW} {set : Int32} : ∀ {n : Nat}, n ≤ 12 → (∀ e, e < n → 0 ≤ (zI A 345 (zI A 349 e).toInt.toNat).toInt ∧ (zI A 345 (zI A 349 e).toInt.toNat).toInt ≤ 9) → 0 ≤ (zmw A set n).toInt ∧ (zmw A set n).toInt ≤ 9 * (n : Int)
  | 0, _, _ => ⟨(by decide : 0 ≤ (0 : Int32).toInt), (by decide : (0 : Int32).toInt ≤ 9 * ((0 : Nat) : Int))⟩
  | n + 1, hn, h => by
    obtain ⟨a, b⟩ := zmw_le (A := A) (set := set) (n := n) (by omega) (fun e he => h e (by omega))
    obtain ⟨c, d⟩ := h n (by omega)
    have z0 : (0 : Int32).toInt = 0 := by decide
    show 0 ≤ (zmw A set n + (if zbi set n = true then zI A 345 (zI A 349 n).toInt.toNat else 0)).toInt ∧ (zmw A set n + (if zbi set n = true then zI A 345 (zI A 349 n).toInt.toNat else 0)).toInt ≤ 9 * ((n + 1 : Nat) : Int)
    split
    · rw [i_add (by omega) (by omega)]
      omega
    · rw [i_add (by omega) (by omega)]
      omega
def costM (A : zW) (n S : Nat) : Int := (zmw A (Int32.ofNat S) n).toInt * 16 + ((pcN 12 S : Nat) : Int)
def encM : Option Nat → Int32
  | none => Int32.ofInt (-9)
  | some b => Int32.ofNat b
def mwr (A : zW) (n : Nat) : Prop := ∀ e, e < n → 0 ≤ (zI A 345 (zI A 349 e).toInt.toNat).toInt ∧ (zI A 345 (zI A 349 e).toInt.toNat).toInt ≤ 9
abbrev lmA : Type := laA × Nat × Int32
def lmP (a : lmA) (A : zW) : Prop := laP a.1 A ∧ a.2.1 < 60 ∧ mwr A a.1.1.toInt.toNat
def lmV (a : lmA) (A : zW) : Option Nat := lstF (fun S => icN A (vwN (mvP A a.1.2.1 a.1.2.2) a.1.1.toInt.toNat) S a.2.1 a.2.2 a.1.1.toInt.toNat) (costM A a.1.1.toInt.toNat) (2 ^ a.1.1.toInt.toNat)
def lmQ (a : lmA) (A : zW) (rv : Option Value) (A' : zW) : Prop := laQ a.1 A A' ∧ rv = some (.int (encM (lmV a A')))
def zq_leastM : zQ := zs (fun a : lmA => [.ref 343, .int (Int32.ofNat a.2.1), .int a.2.2]) lmP lmQ
theorem mwr_ag {A A' : zW} {n : Nat} (g : agj S_Y A' A) (h : mwr A n) : mwr A' n := fun e he => by
  have I : ∀ q i, q < 385 → (zn lp_sh q, 0) ∈ S_Y → zI A' q i = zI A q i := fun q i a b => (g.1.2.1 q i a b).1
  rw [I 349 e (by decide) (by decide +kernel), I 345 _ (by decide) (by decide +kernel)]
  exact h e he
def in_lm (a : lmA) (A : zW) : fL_ → List Value → zW → Prop := fun lg vs A' => ∃ c : Nat, f_sub [(4, false, .int (Int32.ofNat c)), (3, false, .int (encM (lstF (fun S => icN A' (vwN (mvP A' a.1.2.1 a.1.2.2) a.1.1.toInt.toNat) S a.2.1 a.2.2 a.1.1.toInt.toNat) (costM A' a.1.1.toInt.toNat) c))), (0, false, .ref 343), (1, false, .int (Int32.ofNat a.2.1)), (2, false, .int a.2.2)] lg ∧ vs = [] ∧ laQ a.1 A A' ∧ c ≤ 2 ^ a.1.1.toInt.toNat
set_option maxRecDepth 20000 in
set_option maxHeartbeats 16000000 in
theorem zc_X12_leastCut : zdo r_X12_leastCut zq_leastM := by
  refine zdo_of _ _ _ [(924, 1, zq_lay8), (1014, 4, zq_isCut), (897, 2, zq_weightOf), (679, 1, zq_countBits)] (fun a A => [(10, in_lm a A)]) 100 fo_X12 rfl (zs_cons rfl zc_X12_lay (zs_cons rfl zc_X12_isCut (zs_cons rfl za_X12_weightOf (zs_cons rfl za_X12_countBits zs_nil)))) k_X12_leastCut (fun a A hp => ?_) (fun a A hp => ?_)
  · obtain ⟨⟨n, t, k⟩, s, way⟩ := a
    obtain ⟨hla, hs6, hmw⟩ := hp
    have n0 : 0 ≤ n.toInt := hla.1.2.1
    have n1 : n.toInt ≤ 12 := hla.1.2.2
    have h2n := n32_n n0 n1
    have hm := p2_le n.toInt.toNat (by omega)
    refine List.forall_mem_cons.mpr ⟨?_, fun _ h => absurd h List.not_mem_nil⟩
    rintro lg vs A' ⟨c, hs, rfl, hQ, hc⟩
    have hc : c ≤ 2 ^ n.toInt.toNat := hc
    have hQ : laQ (n, t, k) A A' := hQ
    obtain ⟨g, ⟨⟨r8, -, -⟩, hs0, ⟨r15, r16⟩, -⟩, hLw, h20⟩ := id hQ
    have r8 : zF A' 343 8 = .int n := r8
    have h20 : zF A' 343 20 = .int (Int32.ofNat (vwN (mvP A' t k) n.toInt.toNat)) := h20
    have hmw' : mwr A' n.toInt.toNat := mwr_ag g hmw
    obtain ⟨V, eV⟩ : ∃ V, V = vwN (mvP A' t k) n.toInt.toNat := ⟨_, rfl⟩
    have hVn : V < 2 ^ n.toInt.toNat := by rw [eV]; exact vwN_lt
    rw [← eV] at h20
    obtain ⟨p, ep⟩ : ∃ p : Nat → Bool, p = fun S => icN A' V S s way n.toInt.toNat := ⟨_, rfl⟩
    have tc : (Int32.ofNat c).toInt = (c : Int) := Int32.toInt_ofNat_of_lt (by omega)
    have eq1 : some (false, Value.int (Int32.ofNat c + Int32.ofInt 1)) = some (false, .int (Int32.ofNat (c + 1))) := by rw [n32_s (by omega)]
    have hs : f_sub [(4, false, .int (Int32.ofNat c)), (3, false, .int (encM (lstF p (costM A' n.toInt.toNat) c))), (0, false, .ref 343), (1, false, .int (Int32.ofNat s)), (2, false, .int way)] lg := by
      rw [ep, eV]
      exact hs
    have nxt : ∀ (L : fL_) (v : Int32), v = encM (lstF p (costM A' n.toInt.toNat) (c + 1)) → c + 1 ≤ 2 ^ n.toInt.toNat → f_sub [(4, false, .int (Int32.ofNat (c + 1))), (3, false, .int v), (0, false, .ref 343), (1, false, .int (Int32.ofNat s)), (2, false, .int way)] L → in_lm ((n, t, k), s, way) A L [] A' := fun L v hv hle hL => by
      refine ⟨c + 1, ?_, rfl, hQ, hle⟩
      rw [hv, ep, eV] at hL
      exact hL
    refine ⟨_, 100, hs, fun h => ?_, fun h => ?_⟩
    · have h : (Int32.ofInt 1 <<< (iv (zF A' 343 8) &&& 31)).toInt ≤ (Int32.ofNat c).toInt := h
      rw [r8] at h
      have h : (Int32.ofInt 1 <<< (n &&& 31)).toInt ≤ (Int32.ofNat c).toInt := h
      rw [h2n, tc] at h
      refine ⟨hQ, ?_⟩
      show some (Value.int (encM (lstF p (costM A' n.toInt.toNat) c))) = some (.int (encM (lstF (fun S => icN A' (vwN (mvP A' t k) n.toInt.toNat) S s way n.toInt.toNat) (costM A' n.toInt.toNat) (2 ^ n.toInt.toNat))))
      rw [show c = 2 ^ n.toInt.toNat by omega, ep, eV]
    · have h : ¬ (Int32.ofInt 1 <<< (iv (zF A' 343 8) &&& 31)).toInt ≤ (Int32.ofNat c).toInt := h
      rw [r8] at h
      have h : ¬ (Int32.ofInt 1 <<< (n &&& 31)).toInt ≤ (Int32.ofNat c).toInt := h
      rw [h2n, tc] at h
      have hc4 : c < 4096 := by omega
      have le1 : c + 1 ≤ 2 ^ n.toInt.toNat := by omega
      have wle : ∀ S : Nat, 0 ≤ (zmw A' (Int32.ofNat S) n.toInt.toNat).toInt ∧ (zmw A' (Int32.ofNat S) n.toInt.toNat).toInt ≤ 108 := fun S => by
        obtain ⟨a, b⟩ := zmw_le (A := A') (set := Int32.ofNat S) (n := n.toInt.toNat) (by omega) hmw'
        omega
      refine ⟨((c, n, V), s, way), rfl, ⟨⟨r8, n0, n1⟩, ⟨h20, hVn⟩, hc4, hs6⟩, fun h2 => ?_, fun h2 => ?_⟩
      · have h2 : (zb (icN A' V c s way n.toInt.toNat)).toInt = 0 := h2
        have h2 := zb_f h2
        refine nxt _ (encM (lstF p (costM A' n.toInt.toNat) c)) ?_ le1 ⟨eq1, rfl, rfl, rfl, rfl, trivial⟩
        have hp : ¬ p c = true := by
          rw [ep]
          show ¬ icN A' V c s way n.toInt.toNat = true
          rw [h2]
          exact Bool.false_ne_true
        show _ = encM (if p c = true then _ else lstF p (costM A' n.toInt.toNat) c)
        rw [if_neg hp]
      · have h2 : ¬ (zb (icN A' V c s way n.toInt.toNat)).toInt = 0 := h2
        have h2 := zb_t h2
        have hp : p c = true := by
          rw [ep]
          exact h2
        have eH := lstF_hit (c := costM A' n.toInt.toNat) hp
        rcases onS (lstF p (costM A' n.toInt.toNat) c) with hb | ⟨b, hb⟩
        · rw [hb] at eH
          have eH : lstF p (costM A' n.toInt.toNat) (c + 1) = some c := eH
          have e9 : (encM none).toInt = -9 := by decide
          have take : Int32.ofNat c = encM (lstF p (costM A' n.toInt.toNat) (c + 1)) := by rw [eH]; rfl
          refine ⟨fun h3 => ?_, fun h3 => ⟨fun h4 => nxt _ (Int32.ofNat c) take le1 ⟨eq1, rfl, rfl, rfl, rfl, trivial⟩, fun h4 => ?_⟩⟩
          · have h3 : 0 ≤ (encM (lstF p (costM A' n.toInt.toNat) c)).toInt := h3
            rw [hb, e9] at h3
            omega
          · have h4 : ¬ (Int32.ofInt (-1)).toInt < 0 := h4
            exact absurd (by decide) h4
        · rw [hb] at eH
          have eH : lstF p (costM A' n.toInt.toNat) (c + 1) = if costM A' n.toInt.toNat c < costM A' n.toInt.toNat b then some c else some b := eH
          have hbl : b < c := by
            have := (lstF_eq (p := p) (p' := p) (c := costM A' n.toInt.toNat) (c' := costM A' n.toInt.toNat) (n := c) (fun _ _ => rfl) (fun _ _ _ _ _ _ => Iff.rfl)).2 b hb
            exact this.1
          have tb := n32_t (show b < 4096 by omega)
          have eL : encM (lstF p (costM A' n.toInt.toNat) c) = Int32.ofNat b := by rw [hb]; rfl
          obtain ⟨wc0, wc1⟩ := wle c
          obtain ⟨wb0, wb1⟩ := wle b
          have pc := pcN_le (k := 12) (n := c)
          have pb := pcN_le (k := 12) (n := b)
          have cc : (cbA (Int32.ofNat c).toInt64 64).toInt = (pcN 12 c : Nat) := by rw [← ic_cb hc4, icV_ok hc4]
          have cb : (cbA (Int32.ofNat b).toInt64 64).toInt = (pcN 12 b : Nat) := by rw [← ic_cb (by omega), icV_ok (by omega)]
          have ed : (zmw A' (Int32.ofNat c) n.toInt.toNat - zmw A' (Int32.ofNat b) n.toInt.toNat).toInt = (zmw A' (Int32.ofNat c) n.toInt.toNat).toInt - (zmw A' (Int32.ofNat b) n.toInt.toNat).toInt := by
            rw [Int32.toInt_sub]
            exact Int.bmod_eq_of_le (by omega) (by omega)
          have eCc : costM A' n.toInt.toNat c = (zmw A' (Int32.ofNat c) n.toInt.toNat).toInt * 16 + ((pcN 12 c : Nat) : Int) := rfl
          have eCb : costM A' n.toInt.toNat b = (zmw A' (Int32.ofNat b) n.toInt.toNat).toInt * 16 + ((pcN 12 b : Nat) : Int) := rfl
          have take : costM A' n.toInt.toNat c < costM A' n.toInt.toNat b → Int32.ofNat c = encM (lstF p (costM A' n.toInt.toNat) (c + 1)) := fun z => by
            rw [eH, if_pos z]
            rfl
          have stay : ¬ costM A' n.toInt.toNat c < costM A' n.toInt.toNat b → encM (lstF p (costM A' n.toInt.toNat) c) = encM (lstF p (costM A' n.toInt.toNat) (c + 1)) := fun z => by
            rw [eH, if_neg z, eL]
            rfl
          refine ⟨fun h3 => ?_, fun h3 => ?_⟩
          · refine ⟨(Int32.ofNat c, n), rfl, ⟨r8, n0, n1⟩, ?_⟩
            refine ⟨(encM (lstF p (costM A' n.toInt.toNat) c), n), rfl, ⟨r8, n0, n1⟩, fun h4 => ?_, fun h4 => ⟨fun h5 => ?_, fun h5 => ?_⟩⟩
            · have h4 : (zmw A' (Int32.ofNat c) n.toInt.toNat - zmw A' (encM (lstF p (costM A' n.toInt.toNat) c)) n.toInt.toNat).toInt < 0 := h4
              rw [eL, ed] at h4
              exact nxt _ (Int32.ofNat c) (take (by omega)) le1 ⟨eq1, rfl, rfl, rfl, rfl, trivial⟩
            · have h4 : ¬ (zmw A' (Int32.ofNat c) n.toInt.toNat - zmw A' (encM (lstF p (costM A' n.toInt.toNat) c)) n.toInt.toNat).toInt < 0 := h4
              have h5 : ¬ (zmw A' (Int32.ofNat c) n.toInt.toNat - zmw A' (encM (lstF p (costM A' n.toInt.toNat) c)) n.toInt.toNat).toInt = 0 := h5
              rw [eL, ed] at h4 h5
              exact nxt _ _ (stay (by omega)) le1 ⟨eq1, rfl, rfl, rfl, rfl, trivial⟩
            · have h5 : ¬ ¬ (zmw A' (Int32.ofNat c) n.toInt.toNat - zmw A' (encM (lstF p (costM A' n.toInt.toNat) c)) n.toInt.toNat).toInt = 0 := h5
              rw [eL, ed] at h5
              refine ⟨(Int32.ofNat c).toInt64, rfl, trivial, ?_⟩
              refine ⟨(encM (lstF p (costM A' n.toInt.toNat) c)).toInt64, rfl, trivial, fun h6 => ?_, fun h6 => ?_⟩
              · have h6 : (cbA (encM (lstF p (costM A' n.toInt.toNat) c)).toInt64 64).toInt ≤ (cbA (Int32.ofNat c).toInt64 64).toInt := h6
                rw [eL, cb, cc] at h6
                exact nxt _ _ (stay (by omega)) le1 ⟨eq1, rfl, rfl, rfl, rfl, trivial⟩
              · have h6 : ¬ (cbA (encM (lstF p (costM A' n.toInt.toNat) c)).toInt64 64).toInt ≤ (cbA (Int32.ofNat c).toInt64 64).toInt := h6
                rw [eL, cb, cc] at h6
                exact nxt _ (Int32.ofNat c) (take (by omega)) le1 ⟨eq1, rfl, rfl, rfl, rfl, trivial⟩
          · have h3 : ¬ 0 ≤ (encM (lstF p (costM A' n.toInt.toNat) c)).toInt := h3
            rw [eL, tb] at h3
            omega
  · obtain ⟨⟨n, t, k⟩, s, way⟩ := a
    obtain ⟨hla, hs6, hmw⟩ := hp
    refine ⟨(n, t, k), rfl, hla, ?_⟩
    rintro rv A' ⟨rfl, hQ⟩
    exact ⟨0, ⟨rfl, rfl, rfl, rfl, rfl, trivial⟩, rfl, hQ, Nat.zero_le _⟩
/-! what is given up -/
def zgF (A : zW) (set k : Int32) : Nat → zW
  | 0 => A
  | e + 1 => zuI (zgF A set k e) 353 e (if zbi set e = true then k else zI A 353 e)
theorem zgF_k {A : zW} {set k : Int32} : ∀ {e : Nat}, (∀ x, zI (zgF A set k e) 353 x = if x < e ∧ zbi set x = true then k else zI A 353 x) ∧ (∀ q x, q ≠ 353 → zI (zgF A set k e) q x = zI A q x) ∧ (∀ q x, zF (zgF A set k e) q x = zF A q x) ∧ (∀ q x, zR (zgF A set k e) q x = zR A q x) ∧ (∀ q x, zJ (zgF A set k e) q x = zJ A q x) ∧ (∀ q, zK (zgF A set k e) q = zK A q) ∧ zN (zgF A set k e) = zN A
  | 0 => ⟨fun x => (if_neg (fun z => absurd z.1 (Nat.not_lt_zero x))).symm, fun _ _ _ => rfl, fun _ _ => rfl, fun _ _ => rfl, fun _ _ => rfl, fun _ => rfl, rfl⟩
  | e + 1 => by
    obtain ⟨a1, a2, a3, a4, a5, a6, a7⟩ := zgF_k (A := A) (set := set) (k := k) (e := e)
    refine ⟨fun x => ?_, fun q x hq => (zuI_ne hq).trans (a2 q x hq), a3, a4, a5, a6, a7⟩
    show zI (zuI (zgF A set k e) 353 e (if zbi set e = true then k else zI A 353 e)) 353 x = _
    rw [zuI_x]
    by_cases c : x = e
    · subst c
      rw [if_pos ⟨rfl, rfl⟩]
      by_cases d : zbi set x = true
      · rw [if_pos d, if_pos ⟨Nat.lt_succ_self x, d⟩]
      · rw [if_neg d, if_neg (fun z => d z.2)]
    · rw [if_neg (fun z => c z.2), a1]
      by_cases d : x < e ∧ zbi set x = true
      · rw [if_pos d, if_pos ⟨by omega, d.2⟩]
      · rw [if_neg d, if_neg (fun z => d ⟨by omega, z.2⟩)]
def zq_giveAll8 : zQ := zfu (fun a : Int32 × Int32 × Int32 => [.ref 343, .int a.1]) (fun a A => (zF A 343 8 = .int a.2.1 ∧ 0 ≤ a.2.1.toInt ∧ a.2.1.toInt ≤ 12) ∧ zF A 343 16 = .int a.2.2) (fun _ _ => none) (fun a A => zov (zgF A a.1 a.2.2 a.2.1.toInt.toNat))
def in_ga (A : zW) (set n k : Int32) : fL_ → List Value → zW → Prop := fun lg vs A' => ∃ e : Nat, f_sub [(2, false, .int (Int32.ofNat e)), (0, false, .ref 343), (1, false, .int set)] lg ∧ vs = [] ∧ A' = zgF A set k e ∧ (e : Int) ≤ n.toInt
set_option maxRecDepth 20000 in
set_option maxHeartbeats 8000000 in
theorem zc_X12_giveAll : zdo r_X12_giveAll zq_giveAll8 := by
  refine zdo_fu [(475, 2, zq_hasBit), (741, 1, zq_otherView)] (fun a A => [(2, in_ga A a.1 a.2.1 a.2.2)]) 80 fo_X12 rfl (zs_cons rfl za_X12_hasBit (zs_cons rfl za_X12_otherView zs_nil)) k_X12_giveAll (fun a A hp => ?_) (fun a A hp => ?_)
  · obtain ⟨set, n, k⟩ := a
    obtain ⟨⟨hn, n0, n1⟩, hk⟩ := hp
    have hn : zF A 343 8 = .int n := hn
    have n0 : 0 ≤ n.toInt := n0
    have n1 : n.toInt ≤ 12 := n1
    have hk : zF A 343 16 = .int k := hk
    refine List.forall_mem_cons.mpr ⟨?_, fun _ h => absurd h List.not_mem_nil⟩
    rintro lg vs A' ⟨e, hs, rfl, eA, he⟩
    have he : (e : Int) ≤ n.toInt := he
    have te := n32_t (show e < 4096 by omega)
    have ec := n32_c (show e < 4096 by omega)
    have eq1 : some (false, Value.int (Int32.ofNat e + Int32.ofInt 1)) = some (false, .int (Int32.ofNat (e + 1))) := by rw [n32_s (by omega)]
    obtain ⟨k1, k2, k3, -⟩ := zgF_k (A := A) (set := set) (k := k) (e := e)
    rw [← eA] at k1 k2 k3
    have hn' : zF A' 343 8 = .int n := (k3 343 8).trans hn
    have hk' : zF A' 343 16 = .int k := (k3 343 16).trans hk
    have h0 : zI A' 353 e = zI A 353 e := by
      rw [k1, if_neg (fun z => absurd z.1 (Nat.lt_irrefl e))]
    refine ⟨_, 80, hs, fun h => ?_, fun h => ?_⟩
    · have h : (iv (zF A' 343 8)).toInt ≤ (Int32.ofNat e).toInt := h
      rw [hn', te] at h
      have h : n.toInt ≤ (e : Int) := h
      refine ⟨(), rfl, trivial, rfl, ?_⟩
      show zov A' = zov (zgF A set k n.toInt.toNat)
      rw [eA, show n.toInt.toNat = e by omega]
    · have h : ¬ (iv (zF A' 343 8)).toInt ≤ (Int32.ofNat e).toInt := h
      rw [hn', te] at h
      have h : ¬ n.toInt ≤ (e : Int) := h
      have le1 : ((e + 1 : Nat) : Int) ≤ n.toInt := by omega
      refine ⟨(set.toInt64, Int32.ofNat e), rfl, trivial, fun h2 => ?_, fun h2 => ?_⟩
      · have h2 : (zb (hbB set.toInt64 (Int32.ofNat e))).toInt = 0 := h2
        have h2 := zb_f h2
        rw [zbt_m (by omega)] at h2
        refine ⟨e + 1, ⟨eq1, rfl, rfl, trivial⟩, rfl, ?_, le1⟩
        show zuI A' 353 (Int32.ofNat e).toNatClampNeg (zI A' 353 (Int32.ofNat e).toNatClampNeg) = zuI (zgF A set k e) 353 e (if zbi set e = true then k else zI A 353 e)
        rw [ec, h0, eA, if_neg (by rw [h2]; exact Bool.false_ne_true)]
      · have h2 : ¬ (zb (hbB set.toInt64 (Int32.ofNat e))).toInt = 0 := h2
        have h2 := zb_t h2
        rw [zbt_m (by omega)] at h2
        refine ⟨e + 1, ⟨eq1, rfl, rfl, trivial⟩, rfl, ?_, le1⟩
        show zuI A' 353 (Int32.ofNat e).toNatClampNeg (iv (zF A' 343 16)) = zuI (zgF A set k e) 353 e (if zbi set e = true then k else zI A 353 e)
        rw [ec, hk', eA, if_pos h2]
        rfl
  · obtain ⟨set, n, k⟩ := a
    obtain ⟨⟨hn, n0, n1⟩, hk⟩ := hp
    exact ⟨0, ⟨rfl, rfl, rfl, trivial⟩, rfl, rfl, n0⟩
