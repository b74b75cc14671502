/-! claims of the class: who strikes whom, settled -/
def zfiI (A : zW) (q n : Nat) (v : Int32) : zW := zsI A q (fun x => if x < n then v else zI A q x)
def zq_fillI : zQ := zfu (fun a : Nat × Nat × Int32 => [.ref a.1, .int a.2.2]) (fun a A => zkd A a.1 = a.2.1 ∧ a.2.1 ≤ 64) (fun _ _ => none) (fun a A => zfiI A a.1 a.2.1 a.2.2)
def in_zfiI (A : zW) (q n : Nat) (v : Int32) : fL_ → List Value → zW → Prop := fun lg vs A' => ∃ t : Int32, f_sub [(2, false, .int t), (3, false, .int (Int32.ofNat n)), (0, false, .ref q), (1, false, .int v)] lg ∧ vs = [] ∧ A' = zsI A q (fun x => if x < t.toInt.toNat then v else zI A q x) ∧ 0 ≤ t.toInt ∧ t.toInt ≤ (n : Int)
set_option maxHeartbeats 4000000 in
theorem za_J7_fillI : zdo r_J7_fill_53178 zq_fillI := by
  refine zdo_fu [] (fun a A => [(5, in_zfiI A a.1 a.2.1 a.2.2)]) 60 fo_J7z rfl zs_nil k_J7_fill_53178 (fun a A hp => ?_) (fun a A hp => ?_)
  · obtain ⟨q, n, v⟩ := a
    obtain ⟨hB, hn⟩ := hp
    have hn : n ≤ 64 := hn
    refine List.forall_mem_cons.mpr ⟨?_, fun _ h => absurd h List.not_mem_nil⟩
    rintro lg vs A' ⟨t, hs, rfl, rfl, t0, t1⟩
    have t1 : t.toInt ≤ (n : Int) := t1
    have en := e32N hn
    refine ⟨_, 60, hs, fun h => ?_, fun h => ?_⟩
    · have h : (Int32.ofNat n).toInt ≤ t.toInt := h
      rw [en] at h
      refine ⟨rfl, zsI_ext (fun x => ?_)⟩
      show (if x < t.toInt.toNat then v else zI A q x) = if x < n then v else zI A q x
      rw [show t.toInt.toNat = n by omega]
    · have h : ¬ (Int32.ofNat n).toInt ≤ t.toInt := h
      rw [en] at h
      have hi := i_inc t0 (by omega)
      refine ⟨t + 1, ⟨rfl, rfl, rfl, rfl, trivial⟩, rfl, ?_, (show 0 ≤ (t + 1).toInt by omega), (show (t + 1).toInt ≤ (n : Int) by omega)⟩
      show zuI (zsI A q (fun x => if x < t.toInt.toNat then v else zI A q x)) q t.toInt.toNat v = _
      refine zuI_zsI (fun x => ?_)
      show _ = if x = t.toInt.toNat then v else _
      by_cases ex : x = t.toInt.toNat
      · rw [if_pos ex, if_pos (by omega)]
      · rw [if_neg ex]
        by_cases hx : x < t.toInt.toNat
        · rw [if_pos hx, if_pos (by omega)]
        · rw [if_neg hx, if_neg (by omega)]
  · obtain ⟨q, n, v⟩ := a
    obtain ⟨hB, hn⟩ := hp
    have hB : zkd A q = n := hB
    refine ⟨0, ⟨rfl, ?_, rfl, rfl, trivial⟩, rfl, (zsI_self (fun x => ?_)).symm, by decide, ?_⟩
    · show some (false, Value.int (Int32.ofNat (zkd A q))) = some (false, .int (Int32.ofNat n))
      rw [hB]
    · rw [if_neg (show ¬ x < (0 : Int32).toInt.toNat from fun z => absurd z (Nat.not_lt_zero x))]
    · have e0 : (0 : Int32).toInt = 0 := by decide
      rw [e0]
      omega
abbrev clP (q : Int32) (c : Int32) : Prop := 0 ≤ c.toInt ∧ c.toInt < q.toInt
def zq_isClaim : zQ := zpu (fun a : Int32 × Int32 => [.ref 282, .int a.1]) (fun a A => zcC A a.2) (fun a _ => .int (zb (decide (clP a.2 a.1))))
theorem za_X3_isClaim : zdo r_X3_isClaim zq_isClaim := by
  refine zdo_pu [] (fun _ _ => []) 40 fo_X3 rfl zs_nil k_X3_isClaim (fun _ _ _ => no_zh) (fun a A hp => ?_)
  obtain ⟨c, q⟩ := a
  obtain ⟨hq, q0, q1⟩ := hp
  have hq : zF A 282 0 = .int q := hq
  have q1 : q.toInt ≤ 12 := q1
  have no : ¬ clP q c → some (Value.int (Int32.ofInt 0)) = some (.int (zb (decide (clP q c)))) := fun z => by
    rw [decide_eq_false z]
    rfl
  refine ⟨fun h => ?_, fun h => ⟨fun h2 => ?_, fun h2 => ⟨fun h3 => ?_, fun h3 => ?_⟩⟩⟩
  · have h : c.toInt < 0 := h
    exact ⟨no (fun z => by have := z.1; omega), rfl⟩
  · have h2 : (iv (zF A 282 0)).toInt ≤ c.toInt := h2
    rw [hq] at h2
    have h2 : q.toInt ≤ c.toInt := h2
    exact ⟨no (fun z => by have := z.2; omega), rfl⟩
  · have h3 : (Int32.ofInt 12).toInt ≤ c.toInt := h3
    rw [e32_12i] at h3
    exact ⟨no (fun z => by have := z.2; omega), rfl⟩
  · have h : ¬ c.toInt < 0 := h
    have h2 : ¬ (iv (zF A 282 0)).toInt ≤ c.toInt := h2
    rw [hq] at h2
    have h2 : ¬ q.toInt ≤ c.toInt := h2
    refine ⟨?_, rfl⟩
    show some (Value.int (Int32.ofInt 1)) = some (.int (zb (decide (clP q c))))
    rw [decide_eq_true (show clP q c from ⟨by omega, by omega⟩)]
    rfl
/-- a claim's trust, by the copy -/
def trC (A : zW) (c : Nat) : Int32 := if 0 ≤ (zI A 284 c).toInt ∧ (zI A 284 c).toInt < 6 then zI A 319 (zI A 284 c).toInt.toNat else Int32.ofInt 0
def zq_trustOf : zQ := zpu (fun a : Nat × Int32 => [.ref 282, .int (Int32.ofNat a.1)]) (fun a A => zcC A a.2 ∧ (a.1 : Int) < a.2.toInt) (fun a A => .int (trC A a.1))
theorem za_X3_trustOf : zdo r_X3_trustOf zq_trustOf := by
  refine zdo_pu [(288, 2, zq_isClaim), (301, 1, q_isSource)] (fun _ _ => []) 60 fo_X3 rfl (zs_cons rfl za_X3_isClaim (zs_cons rfl za_X11_isSource zs_nil)) k_X3_trustOf (fun _ _ _ => no_zh) (fun a A hp => ?_)
  obtain ⟨c, q⟩ := a
  obtain ⟨hq, hc⟩ := hp
  have hc : (c : Int) < q.toInt := hc
  have q1 : q.toInt ≤ 12 := hq.2.2
  have tc := n32_t (show c < 4096 by omega)
  have ec := n32_c (show c < 4096 by omega)
  have hcl : clP q (Int32.ofNat c) := ⟨by omega, by omega⟩
  refine ⟨(Int32.ofNat c, q), rfl, hq, fun h => ?_, fun h => ?_⟩
  · exact absurd hcl (zb_n h)
  · refine ⟨zI A 284 (Int32.ofNat c).toNatClampNeg, rfl, trivial, fun h2 => ?_, fun h2 => ?_⟩
    · have h2 := zb_y h2
      rw [ec] at h2
      refine ⟨?_, rfl⟩
      show some (Value.int (zI A 319 (zI A 284 (Int32.ofNat c).toNatClampNeg).toNatClampNeg)) = some (.int (trC A c))
      rw [ec]
      unfold trC
      rw [if_pos h2]
      rfl
    · have h2 := zb_n (Classical.not_not.mp h2)
      rw [ec] at h2
      refine ⟨?_, rfl⟩
      show some (Value.int (Int32.ofInt 0)) = some (.int (trC A c))
      unfold trC
      rw [if_neg h2]
/-- two sets of worlds apart -/
def apB (f g : Nat → Int64) (n : Nat) : Bool := alN (fun x => decide (f x &&& g x = Int64.ofNat 0)) n
def zq_apart : zQ := zpu (fun a : Nat × Nat => [.ref a.1, .ref a.2]) (fun a _ => zB a.1 4 = true ∧ zB a.2 4 = true) (fun a A => .int (zb (apB (zJ A (a.1 + 1)) (zJ A (a.2 + 1)) 4)))
def in_zap (A : zW) (q p : Nat) : fL_ → List Value → zW → Prop := fun lg vs A' => ∃ x : Nat, f_sub [(2, false, .int (Int32.ofNat x)), (0, false, .ref q), (1, false, .ref p)] lg ∧ vs = [] ∧ A' = A ∧ x ≤ 4 ∧ apB (zJ A (q + 1)) (zJ A (p + 1)) x = true
set_option maxHeartbeats 4000000 in
theorem za_X1_apart : zdo r_X1_apart zq_apart := by
  refine zdo_pu [] (fun a A => [(2, in_zap A a.1 a.2)]) 60 fo_X1 rfl zs_nil k_X1_apart (fun a A hp => ?_) (fun a A hp => ?_)
  · obtain ⟨q, p⟩ := a
    obtain ⟨hB, hB2⟩ := hp
    have hB : zB q 4 = true := hB
    have hB2 : zB p 4 = true := hB2
    refine List.forall_mem_cons.mpr ⟨?_, fun _ h => absurd h List.not_mem_nil⟩
    rintro lg vs A' ⟨x, hs, rfl, rfl, hx, hal⟩
    have hx : x ≤ 4 := hx
    have tx := n32_t (show x < 4096 by omega)
    have ex := n32_c (show x < 4096 by omega)
    have e4 := e32_4
    have done : 4 ≤ x → some (Value.int (Int32.ofInt 1)) = some (.int (zb (apB (zJ A' (q + 1)) (zJ A' (p + 1)) 4))) := fun h => by
      rw [← show x = 4 by omega, hal]
      rfl
    refine ⟨_, 60, hs, fun h => ?_, fun h => ⟨fun h2 => ?_, fun h2 => ⟨fun h3 => ?_, fun h3 => ?_⟩⟩⟩
    · have h : (Int32.ofNat (zkd A' (rv_ (zfl A' q (kfd fl_X1 13 (zkd A' q)))))).toInt ≤ (Int32.ofNat x).toInt := h
      rw [zB_l hB, e4, tx] at h
      exact ⟨done (by omega), rfl⟩
    · have h2 : (Int32.ofNat (zkd A' (rv_ (zfl A' p (kfd fl_X1 13 (zkd A' p)))))).toInt ≤ (Int32.ofNat x).toInt := h2
      rw [zB_l hB2, e4, tx] at h2
      exact ⟨done (by omega), rfl⟩
    · have h : ¬ (Int32.ofNat (zkd A' (rv_ (zfl A' q (kfd fl_X1 13 (zkd A' q)))))).toInt ≤ (Int32.ofNat x).toInt := h
      rw [zB_l hB, e4, tx] at h
      have h3 : (lg_cmp (zJ A' (rv_ (zfl A' q (kfd fl_X1 13 (zkd A' q)))) (Int32.ofNat x).toNatClampNeg &&& zJ A' (rv_ (zfl A' p (kfd fl_X1 13 (zkd A' p)))) (Int32.ofNat x).toNatClampNeg) (Int64.ofNat 0)).toInt = 0 := h3
      rw [zB_f hB, zB_f hB2, ex] at h3
      have h3 : zJ A' (q + 1) x &&& zJ A' (p + 1) x = Int64.ofNat 0 := lg_cmp_0.mp h3
      refine ⟨x + 1, ⟨?_, rfl, rfl, trivial⟩, rfl, rfl, (show x + 1 ≤ 4 by omega), ?_⟩
      · show some (false, Value.int (Int32.ofNat x + Int32.ofInt 1)) = some (false, .int (Int32.ofNat (x + 1)))
        rw [n32_s (by omega)]
      · show (apB (zJ A' (q + 1)) (zJ A' (p + 1)) x && decide (zJ A' (q + 1) x &&& zJ A' (p + 1) x = Int64.ofNat 0)) = true
        rw [hal, decide_eq_true h3]
        rfl
    · have h : ¬ (Int32.ofNat (zkd A' (rv_ (zfl A' q (kfd fl_X1 13 (zkd A' q)))))).toInt ≤ (Int32.ofNat x).toInt := h
      rw [zB_l hB, e4, tx] at h
      have h3 : ¬ (lg_cmp (zJ A' (rv_ (zfl A' q (kfd fl_X1 13 (zkd A' q)))) (Int32.ofNat x).toNatClampNeg &&& zJ A' (rv_ (zfl A' p (kfd fl_X1 13 (zkd A' p)))) (Int32.ofNat x).toNatClampNeg) (Int64.ofNat 0)).toInt = 0 := h3
      rw [zB_f hB, zB_f hB2, ex] at h3
      have h3 : ¬ zJ A' (q + 1) x &&& zJ A' (p + 1) x = Int64.ofNat 0 := fun z => h3 (lg_cmp_0.mpr z)
      refine ⟨?_, rfl⟩
      show some (Value.int (Int32.ofInt 0)) = some (.int (zb (apB (zJ A' (q + 1)) (zJ A' (p + 1)) 4)))
      unfold apB
      rw [alN_no (show x < 4 by omega) (decide_eq_false h3)]
      rfl
  · exact ⟨0, ⟨rfl, rfl, rfl, trivial⟩, rfl, rfl, Nat.zero_le _, rfl⟩
/-- a strikes b -/
def stC (A : zW) (q : Int32) (a b : Nat) : Bool := decide ((a : Int) < q.toInt ∧ (b : Int) < q.toInt) && (decide ((trC A b).toInt ≤ (trC A a).toInt) && apB (zJ A (295 + 2 * a + 1)) (zJ A (295 + 2 * b + 1)) 4)
def prC (a b x y : Nat) : Bool := decide (x < a ∨ (x = a ∧ y < b))
def ssC (A : zW) (q : Int32) (a b y : Nat) : Nat := vwN (fun x => stC A q x y && prC a b x y) 12
def ttC (A : zW) (q : Int32) (a b x : Nat) : Nat := vwN (fun y => stC A q x y && prC a b x y) 12
def stW (A : zW) (q : Int32) (a b : Nat) : zW := zsI (zsI A 285 (fun y => if y < 12 then Int32.ofNat (ssC A q a b y) else zI A 285 y)) 293 (fun x => if x < 12 then Int32.ofNat (ttC A q a b x) else zI A 293 x)
theorem ssC_eq {A : zW} {q : Int32} {a b a' b' y : Nat} (h : ∀ x, x < 12 → stC A q x y = true → prC a b x y = prC a' b' x y) : ssC A q a b y = ssC A q a' b' y := vwN_eq (fun x hx => by
  cases hs : stC A q x y with
  | false => rfl
  | true => rw [h x hx hs])
theorem ttC_eq {A : zW} {q : Int32} {a b a' b' x : Nat} (h : ∀ y, y < 12 → stC A q x y = true → prC a b x y = prC a' b' x y) : ttC A q a b x = ttC A q a' b' x := vwN_eq (fun y hy => by
  cases hs : stC A q x y with
  | false => rfl
  | true => rw [h y hy hs])
theorem stW_eq {A : zW} {q : Int32} {a b a' b' : Nat} (h : ∀ x y, x < 12 → y < 12 → stC A q x y = true → prC a b x y = prC a' b' x y) : stW A q a b = stW A q a' b' := by
  have e1 : (fun y => if y < 12 then Int32.ofNat (ssC A q a b y) else zI A 285 y) = (fun y => if y < 12 then Int32.ofNat (ssC A q a' b' y) else zI A 285 y) := funext (fun y => by
    by_cases hy : y < 12
    · rw [if_pos hy, if_pos hy, ssC_eq (fun x hx hs => h x y hx hy hs)]
    · rw [if_neg hy, if_neg hy])
  have e2 : (fun x => if x < 12 then Int32.ofNat (ttC A q a b x) else zI A 293 x) = (fun x => if x < 12 then Int32.ofNat (ttC A q a' b' x) else zI A 293 x) := funext (fun x => by
    by_cases hx : x < 12
    · rw [if_pos hx, if_pos hx, ttC_eq (fun y hy hs => h x y hx hy hs)]
    · rw [if_neg hx, if_neg hx])
  unfold stW
  rw [e1, e2]
theorem vw0 {P : Nat → Bool} {n : Nat} (h : ∀ i, i < n → P i = false) : vwN P n = 0 := Nat.eq_of_testBit_eq (fun i => by
  rw [vwN_b, Nat.zero_testBit]
  by_cases hi : i < n
  · rw [h i hi, Bool.and_false]
  · rw [decide_eq_false hi, Bool.false_and])
theorem prC_t {a b x y : Nat} : prC a b x y = true ↔ x < a ∨ (x = a ∧ y < b) := decide_eq_true_iff
theorem stC_lt {A : zW} {q : Int32} {a b : Nat} (h : stC A q a b = true) : (a : Int) < q.toInt ∧ (b : Int) < q.toInt := by
  unfold stC at h
  rw [Bool.and_eq_true] at h
  exact of_decide_eq_true h.1
theorem prC_e {a b a' b' x y : Nat} (h : (x < a ∨ (x = a ∧ y < b)) ↔ (x < a' ∨ (x = a' ∧ y < b'))) : prC a b x y = prC a' b' x y := decide_eq_decide.mpr h
theorem ssC_set {A : zW} {q : Int32} {a b : Nat} (ha : a < 12) (hs : stC A q a b = true) : ssC A q a b b ||| 2 ^ a = ssC A q a (b + 1) b := Nat.eq_of_testBit_eq (fun i => by
  unfold ssC
  rw [Nat.testBit_or, vwN_b, vwN_b, Nat.testBit_two_pow]
  by_cases e : a = i
  · subst e
    rw [decide_eq_true ha, decide_eq_true (rfl : a = a), hs, prC_t.mpr (Or.inr ⟨rfl, Nat.lt_succ_self b⟩), Bool.or_true]
    rfl
  · rw [decide_eq_false e, Bool.or_false, prC_e (a := a) (b := b) (a' := a) (b' := b + 1) (x := i) (y := b) (by omega)])
theorem ttC_set {A : zW} {q : Int32} {a b : Nat} (hb : b < 12) (hs : stC A q a b = true) : ttC A q a b a ||| 2 ^ b = ttC A q a (b + 1) a := Nat.eq_of_testBit_eq (fun i => by
  unfold ttC
  rw [Nat.testBit_or, vwN_b, vwN_b, Nat.testBit_two_pow]
  by_cases e : b = i
  · subst e
    rw [decide_eq_true hb, decide_eq_true (rfl : b = b), hs, prC_t.mpr (Or.inr ⟨rfl, Nat.lt_succ_self b⟩), Bool.or_true]
    rfl
  · rw [decide_eq_false e, Bool.or_false, prC_e (a := a) (b := b) (a' := a) (b' := b + 1) (x := a) (y := i) (by omega)])
theorem zuI_zsI_c {A : zW} {q p i : Nat} {f : Nat → Int32} {v : Int32} (h : q ≠ p) : zuI (zsI A p f) q i v = zsI (zuI A q i v) p f := by
  refine Prod.ext (funext fun j => funext fun x => ?_) rfl
  show (bif Nat.beq j q && Nat.beq x i then v else (bif Nat.beq j p then f x else zI A j x)) = (bif Nat.beq j p then f x else (bif Nat.beq j q && Nat.beq x i then v else zI A j x))
  by_cases e : j = p
  · have e2 : j ≠ q := fun z => h (z.symm.trans e)
    rw [nbF e2, e, nbT]
    rfl
  · rw [nbF e]
    rfl
theorem stW_set {A : zW} {q : Int32} {a b : Nat} (ha : a < 12) (hb : b < 12) (hs : stC A q a b = true) : zuI (zuI (stW A q a b) 285 b (Int32.ofNat (ssC A q a b b ||| 2 ^ a))) 293 a (Int32.ofNat (ttC A q a b a ||| 2 ^ b)) = stW A q a (b + 1) := by
  unfold stW
  rw [zuI_zsI_c (show (285 : Nat) ≠ 293 by decide)]
  rw [zuI_zsI (q := 285) (g := fun y => if y < 12 then Int32.ofNat (ssC A q a (b + 1) y) else zI A 285 y) (fun x => by
    by_cases e : x = b
    · subst e
      rw [if_pos rfl, if_pos hb, ssC_set ha hs]
    · rw [if_neg e]
      by_cases hx : x < 12
      · rw [if_pos hx, if_pos hx, ssC_eq (a := a) (b := b) (a' := a) (b' := b + 1) (fun z _ _ => prC_e (by omega))]
      · rw [if_neg hx, if_neg hx])]
  rw [zuI_zsI (q := 293) (g := fun x => if x < 12 then Int32.ofNat (ttC A q a (b + 1) x) else zI A 293 x) (fun x => by
    by_cases e : x = a
    · subst e
      rw [if_pos rfl, if_pos ha, ttC_set hb hs]
    · rw [if_neg e]
      by_cases hx : x < 12
      · rw [if_pos hx, if_pos hx, ttC_eq (a := a) (b := b) (a' := a) (b' := b + 1) (fun z _ _ => prC_e (by omega))]
      · rw [if_neg hx, if_neg hx])]
theorem stW_i {A : zW} {q : Int32} {a b p i : Nat} (h1 : p ≠ 285) (h2 : p ≠ 293) : zI (stW A q a b) p i = zI A p i := by
  unfold stW
  rw [zsI_ne h2, zsI_ne h1]
theorem stW_s {A : zW} {q : Int32} {a b y : Nat} (hy : y < 12) : zI (stW A q a b) 285 y = Int32.ofNat (ssC A q a b y) := by
  unfold stW
  rw [zsI_ne (by decide), zsI_at, if_pos hy]
theorem stW_t {A : zW} {q : Int32} {a b x : Nat} (hx : x < 12) : zI (stW A q a b) 293 x = Int32.ofNat (ttC A q a b x) := by
  unfold stW
  rw [zsI_at, if_pos hx]
theorem stW_tr {A : zW} {q : Int32} {a b c : Nat} : trC (stW A q a b) c = trC A c := by
  unfold trC
  rw [stW_i (by decide) (by decide), stW_i (by decide) (by decide)]
def zq_findStrikes : zQ := zfu (fun _ : Int32 => [.ref 282]) (fun q A => zcC A q) (fun _ _ => none) (fun q A => stW A q q.toInt.toNat 0)
def in_fs18 (A : zW) (q : Int32) : fL_ → List Value → zW → Prop := fun lg vs A' => ∃ a : Nat, f_sub [(1, false, .int (Int32.ofNat a)), (0, false, .ref 282)] lg ∧ vs = [] ∧ A' = stW A q a 0 ∧ (a : Int) ≤ q.toInt
def in_fs34 (A : zW) (q : Int32) : fL_ → List Value → zW → Prop := fun lg vs A' => ∃ a b : Nat, f_sub [(2, false, .int (Int32.ofNat b)), (1, false, .int (Int32.ofNat a)), (0, false, .ref 282)] lg ∧ vs = [] ∧ A' = stW A q a b ∧ (a : Int) < q.toInt ∧ (b : Int) ≤ q.toInt
set_option maxHeartbeats 8000000 in
theorem za_X3_findStrikes : zdo r_X3_findStrikes zq_findStrikes := by
  refine zdo_fu [(247, 2, zq_fillI), (264, 2, zq_trustOf), (276, 2, zq_apart)] (fun q A => [(18, in_fs18 A q), (34, in_fs34 A q)]) 80 fo_X3 rfl (zs_cons rfl za_J7_fillI (zs_cons rfl za_X3_trustOf (zs_cons rfl za_X1_apart zs_nil))) k_X3_findStrikes (fun q A hp => ?_) (fun q A hp => ?_)
  · obtain ⟨hq, q0, q1⟩ := hp
    have q1 : q.toInt ≤ 12 := q1
    refine List.forall_mem_cons.mpr ⟨?_, List.forall_mem_cons.mpr ⟨?_, fun _ h => absurd h List.not_mem_nil⟩⟩
    · rintro lg vs A' ⟨a, hs, rfl, eA, ha⟩
      have ta := n32_t (show a < 4096 by omega)
      have hF : zF A' 282 0 = .int q := by
        rw [eA]
        exact hq
      refine ⟨_, 80, hs, fun h => ?_, fun h => ⟨fun h2 => ?_, fun h2 => ?_⟩⟩
      · have h : (iv (zF A' 282 0)).toInt ≤ (Int32.ofNat a).toInt := h
        rw [hF, ta] at h
        have h : q.toInt ≤ (a : Int) := h
        refine ⟨rfl, ?_⟩
        rw [eA, show q.toInt.toNat = a by omega]
      · have h : ¬ (iv (zF A' 282 0)).toInt ≤ (Int32.ofNat a).toInt := h
        rw [hF, ta] at h
        have h : ¬ q.toInt ≤ (a : Int) := h
        have h2 : (Int32.ofInt 12).toInt ≤ (Int32.ofNat a).toInt := h2
        rw [e32_12i, ta] at h2
        omega
      · have h : ¬ (iv (zF A' 282 0)).toInt ≤ (Int32.ofNat a).toInt := h
        rw [hF, ta] at h
        have h : ¬ q.toInt ≤ (a : Int) := h
        exact ⟨a, 0, ⟨rfl, rfl, rfl, trivial⟩, rfl, eA, (by omega), q0⟩
    · rintro lg vs A' ⟨a, b, hs, rfl, eA, ha, hb⟩
      have ta := n32_t (show a < 4096 by omega)
      have tb := n32_t (show b < 4096 by omega)
      have ca := n32_c (show a < 4096 by omega)
      have cb := n32_c (show b < 4096 by omega)
      have hF : zF A' 282 0 = .int q := by
        rw [eA]
        exact hq
      have hz : zcC A' q := ⟨hF, q0, q1⟩
      have eqa : some (false, Value.int (Int32.ofNat a + Int32.ofInt 1)) = some (false, .int (Int32.ofNat (a + 1))) := by rw [n32_s (by omega)]
      have eqb : some (false, Value.int (Int32.ofNat b + Int32.ofInt 1)) = some (false, .int (Int32.ofNat (b + 1))) := by rw [n32_s (by omega)]
      refine ⟨_, 80, hs, fun h => ?_, fun h => ⟨fun h2 => ?_, fun h2 => ?_⟩⟩
      · have h : (iv (zF A' 282 0)).toInt ≤ (Int32.ofNat b).toInt := h
        rw [hF, tb] at h
        have h : q.toInt ≤ (b : Int) := h
        refine ⟨a + 1, ⟨eqa, rfl, trivial⟩, rfl, ?_, (show ((a + 1 : Nat) : Int) ≤ q.toInt by omega)⟩
        rw [eA]
        refine stW_eq (fun x y _ _ hxy => prC_e ?_)
        have := stC_lt hxy
        omega
      · have h : ¬ (iv (zF A' 282 0)).toInt ≤ (Int32.ofNat b).toInt := h
        rw [hF, tb] at h
        have h : ¬ q.toInt ≤ (b : Int) := h
        have h2 : (Int32.ofInt 12).toInt ≤ (Int32.ofNat b).toInt := h2
        rw [e32_12i, tb] at h2
        omega
      · have h : ¬ (iv (zF A' 282 0)).toInt ≤ (Int32.ofNat b).toInt := h
        rw [hF, tb] at h
        have h : ¬ q.toInt ≤ (b : Int) := h
        have a12 : a < 12 := by omega
        have b12 : b < 12 := by omega
        have skip : ¬ stC A q a b = true → stW A q a b = stW A q a (b + 1) := fun z => stW_eq (fun x y _ _ hxy => prC_e (by
          have hne : ¬ (x = a ∧ y = b) := fun w => z (by rw [← w.1, ← w.2]; exact hxy)
          omega))
        refine ⟨(a, q), rfl, ⟨hz, ha⟩, (b, q), rfl, ⟨hz, (show (b : Int) < q.toInt by omega)⟩, fun h3 => ?_, fun h3 => ?_⟩
        · have h3 : (trC A' a).toInt < (trC A' b).toInt := h3
          rw [eA, stW_tr, stW_tr] at h3
          refine ⟨a, b + 1, ⟨eqb, rfl, rfl, trivial⟩, rfl, eA.trans (skip (fun z => ?_)), ha, (show ((b + 1 : Nat) : Int) ≤ q.toInt by omega)⟩
          unfold stC at z
          rw [Bool.and_eq_true, Bool.and_eq_true] at z
          have := of_decide_eq_true z.2.1
          omega
        · have h3 : ¬ (trC A' a).toInt < (trC A' b).toInt := h3
          rw [eA, stW_tr, stW_tr] at h3
          refine ⟨(295 + 2 * a, 295 + 2 * b), ?_, ⟨zB_r (by decide +kernel) a12, zB_r (by decide +kernel) b12⟩, fun h4 => ?_, fun h4 => ?_⟩
          · show [zrl A' 294 (Int32.ofNat a).toNatClampNeg, zrl A' 294 (Int32.ofNat b).toNatClampNeg] = [.ref (295 + 2 * a), .ref (295 + 2 * b)]
            rw [ca, cb, zrl_294 a12, zrl_294 b12]
          · have h4 : ¬ (zb (apB (zJ A' (295 + 2 * a + 1)) (zJ A' (295 + 2 * b + 1)) 4)).toInt = 0 := h4
            have h4 := zb_t h4
            have hst : stC A q a b = true := by
              unfold stC
              rw [decide_eq_true (show (a : Int) < q.toInt ∧ (b : Int) < q.toInt from ⟨ha, by omega⟩), decide_eq_true (show (trC A b).toInt ≤ (trC A a).toInt by omega)]
              rw [eA] at h4
              exact h4
            refine ⟨a, b + 1, ⟨eqb, rfl, rfl, trivial⟩, rfl, ?_, ha, (show ((b + 1 : Nat) : Int) ≤ q.toInt by omega)⟩
            show zuI (zuI A' 285 (Int32.ofNat b).toNatClampNeg (zI A' 285 (Int32.ofNat b).toNatClampNeg ||| (Int32.ofInt 1 <<< (Int32.ofNat a &&& 31)))) 293 (Int32.ofNat a).toNatClampNeg (zI (zuI A' 285 (Int32.ofNat b).toNatClampNeg (zI A' 285 (Int32.ofNat b).toNatClampNeg ||| (Int32.ofInt 1 <<< (Int32.ofNat a &&& 31)))) 293 (Int32.ofNat a).toNatClampNeg ||| (Int32.ofInt 1 <<< (Int32.ofNat b &&& 31))) = _
            rw [ca, cb, zuI_ne (show (293 : Nat) ≠ 285 by decide), n32_1 a (by omega), n32_1 b (by omega), eA, stW_s b12, stW_t a12, n32_or, n32_or]
            exact stW_set a12 b12 hst
          · have h4 : ¬ ¬ (zb (apB (zJ A' (295 + 2 * a + 1)) (zJ A' (295 + 2 * b + 1)) 4)).toInt = 0 := h4
            have h4 := zb_f (Classical.not_not.mp h4)
            rw [eA] at h4
            have h4 : apB (zJ A (295 + 2 * a + 1)) (zJ A (295 + 2 * b + 1)) 4 = false := h4
            refine ⟨a, b + 1, ⟨eqb, rfl, rfl, trivial⟩, rfl, eA.trans (skip (fun z => ?_)), ha, (show ((b + 1 : Nat) : Int) ≤ q.toInt by omega)⟩
            unfold stC at z
            rw [h4, Bool.and_false, Bool.and_false] at z
            cases z
  · obtain ⟨hq, q0, q1⟩ := hp
    refine ⟨(285, 12, Int32.ofInt 0), rfl, ⟨rfl, (by decide : 12 ≤ 64)⟩, (293, 12, Int32.ofInt 0), rfl, ⟨rfl, (by decide : 12 ≤ 64)⟩, ?_⟩
    refine ⟨0, ⟨rfl, rfl, trivial⟩, rfl, ?_, q0⟩
    have e1 : (fun x => if x < 12 then Int32.ofInt 0 else zI A 285 x) = (fun y => if y < 12 then Int32.ofNat (ssC A q 0 0 y) else zI A 285 y) := funext (fun y => by
      rw [show ssC A q 0 0 y = 0 from vw0 (fun i _ => by
        rw [show prC 0 0 i y = false from decide_eq_false (by omega), Bool.and_false])]
      rfl)
    have e2 : (fun x => if x < 12 then Int32.ofInt 0 else zI (zfiI A 285 12 (Int32.ofInt 0)) 293 x) = (fun x => if x < 12 then Int32.ofNat (ttC A q 0 0 x) else zI A 293 x) := funext (fun x => by
      rw [show ttC A q 0 0 x = 0 from vw0 (fun i _ => by
        rw [show prC 0 0 x i = false from decide_eq_false (by omega), Bool.and_false])]
      unfold zfiI
      rw [zsI_ne (by decide)]
      rfl)
    show zsI (zsI A 285 (fun x => if x < 12 then Int32.ofInt 0 else zI A 285 x)) 293 (fun x => if x < 12 then Int32.ofInt 0 else zI (zfiI A 285 12 (Int32.ofInt 0)) 293 x) = stW A q 0 0
    rw [e1, e2]
    rfl
/-! settle -/
def seC (A : zW) (q : Int32) : zW := zuF (zuF (zsI A 319 (fun x => if x < 6 then zI A 194 x else zI A 319 x)) 282 15 (.int q)) 282 16 (.int (Int32.ofInt (-1)))
abbrev seA : Type := Int32 × Int32
def seP (a : seA) (A : zW) : Prop := zcC A a.1 ∧ zF A 282 15 = .int a.2
def seQ (a : seA) (A A' : zW) : Prop := ((a.2 = a.1 ∧ ∀ i, i < 6 → zI A 319 i = zI A 194 i) ∧ A' = A) ∨ ∃ X, zN A ≤ zN X ∧ A' = zhv [(15, 1), (36, 0)] (stW (seC A a.1) a.1 a.1.toInt.toNat 0) X
def zq_settle : zQ := zs (fun _ : seA => [.ref 282, .ref 194]) seP (fun a A rv A' => rv = none ∧ seQ a A A')
def seF (A : zW) (q sc : Int32) (i : Nat) : Bool := decide (sc = q) && alN (fun x => decide (zI A 319 x = zI A 194 x)) i
def seT (A : zW) (i : Nat) : zW := zsI A 319 (fun x => if x < i then zI A 194 x else zI A 319 x)
def in_se19 (a : seA) (A : zW) : fL_ → List Value → zW → Prop := fun lg vs A' => ∃ i : Nat, f_sub [(3, false, .int (Int32.ofNat i)), (2, false, .int (zb (seF A a.1 a.2 i))), (0, false, .ref 282), (1, false, .ref 194)] lg ∧ vs = [] ∧ A' = seT A i ∧ i ≤ 6
def zQ_fr : zQ := zhq 0 [(15, 1), (36, 0)]
theorem za_X3_findRounds : zdo r_X3_findRounds zQ_fr := zdo_hv (by decide) (by decide)
theorem seT_n {A : zW} {i p x : Nat} (h : p ≠ 319) : zI (seT A i) p x = zI A p x := zsI_ne h
theorem seT_s {A : zW} {i : Nat} : zuI (seT A i) 319 i (zI A 194 i) = seT A (i + 1) := zuI_zsI (fun x => by
  by_cases e : x = i
  · subst e
    rw [if_pos rfl, if_pos (Nat.lt_succ_self x)]
  · rw [if_neg e]
    by_cases hx : x < i
    · rw [if_pos hx, if_pos (by omega)]
    · rw [if_neg hx, if_neg (by omega)])
set_option maxHeartbeats 8000000 in
theorem za_X3_settle : zdo r_X3_settle zq_settle := by
  refine zdo_of _ _ _ [(228, 1, zq_findStrikes), (237, 1, zQ_fr)] (fun a A => [(19, in_se19 a A)]) 80 fo_X3 rfl (zs_cons rfl za_X3_findStrikes (zs_cons rfl za_X3_findRounds zs_nil)) k_X3_settle (fun a A hp => ?_) (fun a A hp => ?_)
  · obtain ⟨q, sc⟩ := a
    obtain ⟨⟨hq, q0, q1⟩, hsc⟩ := hp
    have hq : zF A 282 0 = .int q := hq
    refine List.forall_mem_cons.mpr ⟨?_, fun _ h => absurd h List.not_mem_nil⟩
    rintro lg vs A' ⟨i, hs, rfl, eA, hi⟩
    have hi : i ≤ 6 := hi
    have ti := n32_t (show i < 4096 by omega)
    have ci := n32_c (show i < 4096 by omega)
    have e6 : (Int32.ofNat 6).toInt = 6 := by decide
    have hF : zF A' 282 0 = .int q := by
      rw [eA]
      exact hq
    have eF : seF A q sc (i + 1) = (seF A q sc i && decide (zI A 319 i = zI A 194 i)) := by
      show (decide (sc = q) && (alN _ i && decide (zI A 319 i = zI A 194 i))) = ((decide (sc = q) && alN _ i) && _)
      rw [Bool.and_assoc]
    have eq1 : some (false, Value.int (Int32.ofNat i + Int32.ofInt 1)) = some (false, .int (Int32.ofNat (i + 1))) := by rw [n32_s (by omega)]
    -- the copying is done
    have fin0 : 6 ≤ i → seF A q sc i = false → ∀ (X : zW) (u : Option Value), zrk 0 u → zN (stW (zuF (zuF A' 282 15 (zF A' 282 0)) 282 16 (.int (Int32.ofInt (-1)))) q q.toInt.toNat 0) ≤ zN X → seQ (q, sc) A (zhv [(15, 1), (36, 0)] (stW (zuF (zuF A' 282 15 (zF A' 282 0)) 282 16 (.int (Int32.ofInt (-1)))) q q.toInt.toNat 0) X) := fun h _ X u _ hN => by
      refine Or.inr ⟨X, ?_, ?_⟩
      · rw [eA] at hN
        exact hN
      · rw [hF, eA, show i = 6 by omega]
        rfl
    have fin1 : 6 ≤ i → ¬ seF A q sc i = false → seQ (q, sc) A A' := fun h hz => by
      have hz : seF A q sc i = true := Bool.not_eq_false _ |>.mp hz
      unfold seF at hz
      rw [Bool.and_eq_true, decide_eq_true_iff, alN_iff] at hz
      refine Or.inl ⟨⟨hz.1, fun x hx => of_decide_eq_true (hz.2 x (by omega))⟩, ?_⟩
      rw [eA]
      refine zsI_self (fun x => ?_)
      by_cases hx : x < i
      · rw [if_pos hx]
        exact (of_decide_eq_true (hz.2 x hx)).symm
      · rw [if_neg hx]
    refine ⟨_, 80, hs, fun h => ?_, fun h => ⟨fun h2 => ?_, fun h2 => ⟨fun h3 => ?_, fun h3 => ?_⟩⟩⟩
    · have h : (Int32.ofNat 6).toInt ≤ (Int32.ofNat i).toInt := h
      rw [e6, ti] at h
      have h6 : 6 ≤ i := by omega
      refine ⟨fun h4 => ?_, fun h4 => ?_⟩
      · have h4 : (zb (seF A q sc i)).toInt = 0 := h4
        refine ⟨rfl, rfl, q, rfl, ⟨?_, q0, q1⟩, ?_⟩
        · show zF (zuF (zuF A' 282 15 (zF A' 282 0)) 282 16 (.int (Int32.ofInt (-1)))) 282 0 = .int q
          rw [zuF_x, if_neg (by decide), zuF_x, if_neg (by decide)]
          exact hF
        · intro X u hu hN
          have hu2 : u = none := hu
          subst hu2
          exact ⟨rfl, fin0 h6 (zb_f h4) X none hu hN⟩
      · have h4 : ¬ (zb (seF A q sc i)).toInt = 0 := h4
        exact ⟨rfl, fin1 h6 (fun z => h4 (by rw [z]; rfl))⟩
    · have h : ¬ (Int32.ofNat 6).toInt ≤ (Int32.ofNat i).toInt := h
      have h2 : (Int32.ofNat 6).toInt ≤ (Int32.ofNat i).toInt := h2
      exact absurd h2 h
    · have h : ¬ (Int32.ofNat 6).toInt ≤ (Int32.ofNat i).toInt := h
      rw [e6, ti] at h
      have h3 : (zI A' 319 (Int32.ofNat i).toNatClampNeg).toInt = (zI A' 194 (Int32.ofNat i).toNatClampNeg).toInt := h3
      rw [ci, eA, seT_n (p := 194) (by decide)] at h3
      unfold seT at h3
      rw [zsI_at, if_neg (Nat.lt_irrefl i)] at h3
      have h3 := Int32.toInt_inj.mp h3
      refine ⟨i + 1, ⟨eq1, ?_, rfl, rfl, trivial⟩, rfl, ?_, (show i + 1 ≤ 6 by omega)⟩
      · show some (false, Value.int (zb (seF A q sc i))) = some (false, .int (zb (seF A q sc (i + 1))))
        rw [eF, decide_eq_true h3, Bool.and_true]
      · show zuI A' 319 (Int32.ofNat i).toNatClampNeg (zI A' 194 (Int32.ofNat i).toNatClampNeg) = seT A (i + 1)
        rw [ci, eA, seT_n (p := 194) (by decide)]
        exact seT_s
    · have h : ¬ (Int32.ofNat 6).toInt ≤ (Int32.ofNat i).toInt := h
      rw [e6, ti] at h
      have h3 : ¬ (zI A' 319 (Int32.ofNat i).toNatClampNeg).toInt = (zI A' 194 (Int32.ofNat i).toNatClampNeg).toInt := h3
      rw [ci, eA, seT_n (p := 194) (by decide)] at h3
      unfold seT at h3
      rw [zsI_at, if_neg (Nat.lt_irrefl i)] at h3
      have h3 : ¬ zI A 319 i = zI A 194 i := fun z => h3 (by rw [z])
      refine ⟨i + 1, ⟨eq1, ?_, rfl, rfl, trivial⟩, rfl, ?_, (show i + 1 ≤ 6 by omega)⟩
      · show some (false, Value.int (Int32.ofInt 0)) = some (false, .int (zb (seF A q sc (i + 1))))
        rw [eF, decide_eq_false h3, Bool.and_false]
        rfl
      · show zuI A' 319 (Int32.ofNat i).toNatClampNeg (zI A' 194 (Int32.ofNat i).toNatClampNeg) = seT A (i + 1)
        rw [ci, eA, seT_n (p := 194) (by decide)]
        exact seT_s
  · obtain ⟨q, sc⟩ := a
    obtain ⟨⟨hq, q0, q1⟩, hsc⟩ := hp
    have hq : zF A 282 0 = .int q := hq
    have hsc : zF A 282 15 = .int sc := hsc
    have e0 : A = seT A 0 := (zsI_self (fun x => by rw [if_neg (Nat.not_lt_zero x)])).symm
    refine ⟨fun h => ?_, fun h => ?_⟩
    · have h : ¬ (iv (zF A 282 15)).toInt = (iv (zF A 282 0)).toInt := h
      rw [hq, hsc] at h
      have h : ¬ sc.toInt = q.toInt := h
      refine ⟨0, ⟨rfl, ?_, rfl, rfl, trivial⟩, rfl, e0, by decide⟩
      show some (false, Value.int (Int32.ofInt 0)) = some (false, .int (zb (seF A q sc 0)))
      unfold seF
      rw [decide_eq_false (fun z => h (by rw [z])), Bool.false_and]
      rfl
    · have h : ¬ ¬ (iv (zF A 282 15)).toInt = (iv (zF A 282 0)).toInt := h
      rw [hq, hsc] at h
      have h : sc = q := Int32.toInt_inj.mp (Classical.not_not.mp h)
      refine ⟨0, ⟨rfl, ?_, rfl, rfl, trivial⟩, rfl, e0, by decide⟩
      show some (false, Value.int (Int32.ofInt 1)) = some (false, .int (zb (seF A q sc 0)))
      unfold seF
      rw [decide_eq_true h]
      rfl
/-! strikes of the class -/
def skV (A : zW) (x y : Int32) : Int32 := zI A 285 y.toInt.toNat >>> (x &&& 31) &&& Int32.ofInt 1
def zq_strikesC : zQ := zs (fun a : seA × Int32 × Int32 => [.ref 0, .int a.2.1, .int a.2.2]) (fun a A => seP a.1 A) (fun a A rv A' => (¬ (clP a.1.1 a.2.1 ∧ clP a.1.1 a.2.2) ∧ rv = some (.int (-1)) ∧ A' = A) ∨ ((clP a.1.1 a.2.1 ∧ clP a.1.1 a.2.2) ∧ seQ a.1 A A' ∧ rv = some (.int (skV A' a.2.1 a.2.2))))
theorem zc_X11_strikes : zdo r_X11_strikes zq_strikesC := by
  refine zdo_of _ _ _ [(1053, 2, zq_isClaim), (1062, 2, zq_settle)] (fun _ _ => []) 60 fo_X11 rfl (zs_cons rfl za_X3_isClaim (zs_cons rfl za_X3_settle zs_nil)) k_X11_strikes (fun _ _ _ => no_zh) (fun a A hp => ?_)
  obtain ⟨⟨q, sc⟩, x, y⟩ := a
  have hz : zcC A q := hp.1
  refine ⟨(x, q), rfl, hz, fun h => ?_, fun h => ?_⟩
  · have h : ¬ clP q x := zb_n h
    exact Or.inl ⟨fun z => h z.1, rfl, rfl⟩
  · have hx : clP q x := zb_y h
    refine ⟨(y, q), rfl, hz, fun h2 => ?_, fun h2 => ?_⟩
    · have hy : clP q y := zb_y h2
      refine ⟨(q, sc), rfl, hp, ?_⟩
      rintro rv A' ⟨rfl, hQ⟩
      exact Or.inr ⟨⟨hx, hy⟩, hQ, rfl⟩
    · have h2 : ¬ clP q y := zb_n (Classical.not_not.mp h2)
      exact Or.inl ⟨fun z => h2 z.2, rfl, rfl⟩
