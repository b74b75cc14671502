/-! merging, the class: how far -/
theorem fo_X6 : f_ok5 fl_X6 pl_X6 nw_X6 kl_X6 il_X6 = true := by decide +kernel
theorem n32_big {a : Nat} (h : a < 2147483648) : (Int32.ofNat a).toInt = (a : Int) := Int32.toInt_ofNat_of_lt h
theorem n32_min {a b : Nat} (ha : a < 4096) (hb : b < 4096) : (if (Int32.ofNat a).toInt ≤ (Int32.ofNat b).toInt then Int32.ofNat a else Int32.ofNat b) = Int32.ofNat (min a b) := by
  rw [n32_t ha, n32_t hb]
  by_cases c : a ≤ b
  · rw [if_pos (by omega), Nat.min_eq_left c]
  · rw [if_neg (by omega), Nat.min_eq_right (by omega)]
set_option maxRecDepth 20000 in
theorem zc_325 : ∀ k, k < 6 → zc 325 k = 326 + k := by decide +kernel
theorem zrl_325 {A : zW} {k : Nat} (hk : k < 6) : zrl A 325 k = .ref (326 + k) := by
  unfold zrl
  rw [zc_325 k hk]
  exact zcr_s (by omega)
theorem kd_326 : ∀ u, u < 6 → kzk (326 + u) = 256 := by decide +kernel
theorem zkd_326 {A : zW} {u : Nat} (hu : u < 6) : zkd A (326 + u) = 256 := by
  rw [zkd_k (by omega)]
  exact kd_326 u hu
def exN (p : Nat → Bool) : Nat → Bool
  | 0 => false
  | n + 1 => exN p n || p n
theorem exN_iff {p : Nat → Bool} : ∀ {n : Nat}, exN p n = true ↔ ∃ x, x < n ∧ p x = true
  | 0 => ⟨fun h => (Bool.false_ne_true h).elim, fun ⟨_, h, _⟩ => absurd h (Nat.not_lt_zero _)⟩
  | n + 1 => by
    show (exN p n || p n) = true ↔ _
    rw [Bool.or_eq_true, exN_iff]
    constructor
    · rintro (⟨x, a, b⟩ | h)
      · exact ⟨x, by omega, b⟩
      · exact ⟨n, Nat.lt_succ_self n, h⟩
    · rintro ⟨x, a, b⟩
      by_cases e : x = n
      · subst e
        exact Or.inr b
      · exact Or.inl ⟨x, by omega, b⟩
def zq_trueAt : zQ := zpu (fun w : Nat => [.ref 193, .int (Int32.ofNat w)]) (fun w _ => w < 256) (fun w A => .int (zI A 196 w))
set_option maxRecDepth 20000 in
theorem zc_X2_trueAt : zdo r_X2_trueAt zq_trueAt := by
  refine zdo_pu [] (fun _ _ => []) 40 fo_X2 rfl zs_nil k_X2_trueAt (fun _ _ _ => no_zh) (fun w A hp => ?_)
  have hp : w < 256 := hp
  have tw := n32_t (show w < 4096 by omega)
  have e2 : (Int32.ofNat 256).toInt = 256 := by decide
  refine ⟨fun h => ?_, fun h => ⟨fun h2 => ?_, fun h2 => ?_⟩⟩
  · have h : (Int32.ofNat w).toInt < 0 := h
    omega
  · have h2 : (Int32.ofNat 256).toInt ≤ (Int32.ofNat w).toInt := h2
    rw [e2, tw] at h2
    omega
  · refine ⟨?_, rfl⟩
    show some (Value.int (zI A 196 (Int32.ofNat w).toNatClampNeg)) = some (.int (zI A 196 w))
    rw [n32_c (by omega)]
/-- the entries of a source in a set -/
def bsP (A : zW) (S : Nat) (u : Int32) (e : Nat) : Bool := S.testBit e && decide (zsr A e = u)
def zq_bySource : zQ := zpu (fun a : Nat × Int32 × Int32 => [.ref 193, .int (Int32.ofNat a.1), .int a.2.1]) (fun a A => zeS A a.2.2) (fun a A => .int (Int32.ofNat (vwN (bsP A a.1 a.2.1) a.2.2.toInt.toNat)))
def in_bs (A : zW) (S : Nat) (u n : Int32) : fL_ → List Value → zW → Prop := fun lg vs A' => ∃ e : Nat, f_sub [(4, false, .int (Int32.ofNat e)), (3, false, .int (Int32.ofNat (vwN (bsP A S u) e))), (0, false, .ref 193), (1, false, .int (Int32.ofNat S)), (2, false, .int u)] lg ∧ vs = [] ∧ A' = A ∧ (e : Int) ≤ n.toInt
theorem and_p2 {S e : Nat} : S &&& 2 ^ e = if S.testBit e = true then 2 ^ e else 0 := Nat.eq_of_testBit_eq (fun i => by
  rw [Nat.testBit_and, Nat.testBit_two_pow]
  by_cases c : e = i
  · subst c
    rw [decide_eq_true (rfl : e = e), Bool.and_true]
    cases hb : S.testBit e with
    | false => rw [if_neg Bool.false_ne_true, Nat.zero_testBit]
    | true => rw [if_pos rfl, Nat.testBit_two_pow, decide_eq_true (rfl : e = e)]
  · rw [decide_eq_false c, Bool.and_false]
    split
    · rw [Nat.testBit_two_pow, decide_eq_false c]
    · rw [Nat.zero_testBit])
set_option maxRecDepth 20000 in
set_option maxHeartbeats 8000000 in
theorem zc_X2_bySource : zdo r_X2_bySource zq_bySource := by
  refine zdo_pu [(204, 2, zq_entryAt)] (fun a A => [(5, in_bs A a.1 a.2.1 a.2.2)]) 80 fo_X2 rfl (zs_cons rfl za_X2_entryAt zs_nil) k_X2_bySource (fun a A hp => ?_) (fun a A hp => ?_)
  · obtain ⟨S, u, n⟩ := a
    obtain ⟨⟨hn, n0, n1⟩, hE⟩ := hp
    have hn : zF A 193 1 = .int n := hn
    have n0 : 0 ≤ n.toInt := n0
    have n1 : n.toInt ≤ 12 := n1
    refine List.forall_mem_cons.mpr ⟨?_, fun _ h => absurd h List.not_mem_nil⟩
    rintro lg vs A' ⟨e, hs, rfl, rfl, he⟩
    have he : (e : Int) ≤ n.toInt := he
    have te := n32_t (show e < 4096 by omega)
    have eq1 : some (false, Value.int (Int32.ofNat e + Int32.ofInt 1)) = some (false, .int (Int32.ofNat (e + 1))) := by rw [n32_s (by omega)]
    refine ⟨_, 80, hs, fun h => ?_, fun h => ?_⟩
    · have h : (iv (zF A' 193 1)).toInt ≤ (Int32.ofNat e).toInt := h
      rw [hn, te] at h
      have h : n.toInt ≤ (e : Int) := h
      refine ⟨?_, rfl⟩
      show some (Value.int (Int32.ofNat (vwN (bsP A' S u) e))) = some (.int (Int32.ofNat (vwN (bsP A' S u) n.toInt.toNat)))
      rw [show n.toInt.toNat = e by omega]
    · have h : ¬ (iv (zF A' 193 1)).toInt ≤ (Int32.ofNat e).toInt := h
      rw [hn, te] at h
      have h : ¬ n.toInt ≤ (e : Int) := h
      obtain ⟨j, u2, g1, g2, g3, g4, g5⟩ := hE e (show (e : Int) < n.toInt by omega)
      have ez := zen_at (A := A') (n := n) (e := e) (by omega) (by omega) g1
      have f2 := zef_at (i := 87) (k := 2) (n := n) (by omega) (by omega) g1 g2 g3 rfl
      have es : zsr A' e = iv (zF A' (rv_ (zR A' 195 e)) 2) := rfl
      have le1 : ((e + 1 : Nat) : Int) ≤ n.toInt := by omega
      have eqn : ¬ bsP A' S u e = true → some (false, Value.int (Int32.ofNat (vwN (bsP A' S u) e))) = some (false, .int (Int32.ofNat (vwN (bsP A' S u) (e + 1)))) := fun z => by rw [vwN_s z]
      refine ⟨(Int32.ofNat e, n), rfl, ⟨hn, n0, n1⟩, fun h2 => ?_, fun h2 => ⟨fun h3 => ?_, fun h3 => ?_⟩⟩
      · have h2 : zen A' n e = .null := h2
        rw [ez] at h2
        cases h2
      · have h3 : ¬ (iv (zef A' n e 87)).toInt = u.toInt := h3
        rw [f2, ← es] at h3
        refine ⟨e + 1, ⟨eq1, eqn (fun z => ?_), rfl, rfl, rfl, trivial⟩, rfl, rfl, le1⟩
        unfold bsP at z
        rw [Bool.and_eq_true, decide_eq_true_iff] at z
        exact h3 (by rw [z.2])
      · have h3 : ¬ ¬ (iv (zef A' n e 87)).toInt = u.toInt := h3
        rw [f2, ← es] at h3
        have h3 : zsr A' e = u := Int32.toInt_inj.mp (Classical.not_not.mp h3)
        refine ⟨e + 1, ⟨eq1, ?_, rfl, rfl, rfl, trivial⟩, rfl, rfl, le1⟩
        show some (false, Value.int (Int32.ofNat (vwN (bsP A' S u) e) ||| (Int32.ofNat S &&& (Int32.ofInt 1 <<< (Int32.ofNat e &&& 31))))) = some (false, .int (Int32.ofNat (vwN (bsP A' S u) (e + 1))))
        rw [n32_1 e (by omega), n32_and, n32_or, and_p2]
        by_cases c : S.testBit e = true
        · have hb : bsP A' S u e = true := by
            unfold bsP
            rw [c, decide_eq_true h3]
            rfl
          have h5 := n32_vw (P := bsP A' S u) (n := e) (by omega) hb
          rw [n32_1 e (by omega), n32_or] at h5
          rw [if_pos c, h5]
        · have hb : ¬ bsP A' S u e = true := fun z => by
            unfold bsP at z
            rw [Bool.and_eq_true] at z
            exact c z.1
          rw [if_neg c, Nat.or_zero, vwN_s hb]
  · obtain ⟨S, u, n⟩ := a
    obtain ⟨⟨hn, n0, n1⟩, hE⟩ := hp
    have n0 : 0 ≤ n.toInt := n0
    exact ⟨0, ⟨rfl, rfl, rfl, rfl, rfl, trivial⟩, rfl, rfl, (show ((0 : Nat) : Int) ≤ n.toInt by omega)⟩
/-- where a row begins -/
def okC (A : zW) (S w : Nat) : Bool := decide (dfN S (ztw A w) = 0)
def st9 (A : zW) (S w : Nat) : Nat := if okC A S w = true then 0 else 9
def zbgF (A : zW) (q S n : Nat) : Nat → Int32 := fun w => if w < n then Int32.ofNat (st9 A S w) else zI A q w
def zq_begin : zQ := zfu (fun a : Nat × Nat => [.ref a.1, .int (Int32.ofNat a.2), .ref 193]) (fun a A => zkd A a.1 = 256 ∧ a.1 ≠ 196 ∧ a.2 < 4096 ∧ zti A) (fun a A => some (.int (zb (exN (okC A a.2) 256)))) (fun a A => zsI A a.1 (zbgF A a.1 a.2 256))
def in_bg (A : zW) (q S : Nat) : fL_ → List Value → zW → Prop := fun lg vs A' => ∃ w : Nat, f_sub [(4, false, .int (Int32.ofNat w)), (3, false, .int (zb (exN (okC A S) w))), (0, false, .ref q), (1, false, .int (Int32.ofNat S)), (2, false, .ref 193)] lg ∧ vs = [] ∧ A' = zsI A q (zbgF A q S w) ∧ w ≤ 256
theorem zb_or (a b : Bool) : zb a ||| zb b = zb (a || b) := by cases a <;> cases b <;> rfl
theorem zbg_s {A : zW} {q S w : Nat} {v : Int32} (h : v = Int32.ofNat (st9 A S w)) : zuI (zsI A q (zbgF A q S w)) q w v = zsI A q (zbgF A q S (w + 1)) := zuI_zsI (fun x => by
  unfold zbgF
  by_cases e : x = w
  · subst e
    rw [if_pos (Nat.lt_succ_self x), if_pos rfl, h]
  · rw [if_neg e]
    by_cases hx : x < w
    · rw [if_pos hx, if_pos (by omega)]
    · rw [if_neg hx, if_neg (by omega)])
set_option maxRecDepth 20000 in
set_option maxHeartbeats 8000000 in
theorem zc_X6_begin : zdo r_X6_begin zq_begin := by
  refine zdo_fu [(150, 2, zq_trueAt)] (fun a A => [(5, in_bg A a.1 a.2)]) 80 fo_X6 rfl (zs_cons rfl zc_X2_trueAt zs_nil) k_X6_begin (fun a A hp => ?_) (fun a A hp => ?_)
  · obtain ⟨q, S⟩ := a
    obtain ⟨hk, hq, hS, hT⟩ := hp
    have hk : zkd A q = 256 := hk
    have hq : q ≠ 196 := hq
    have hT : zti A := hT
    refine List.forall_mem_cons.mpr ⟨?_, fun _ h => absurd h List.not_mem_nil⟩
    rintro lg vs A' ⟨w, hs, rfl, eA, hw⟩
    have hw : w ≤ 256 := hw
    have tw := n32_t (show w < 4096 by omega)
    have e2 : (Int32.ofNat 256).toInt = 256 := by decide
    have hk' : zkd A' q = 256 := by
      rw [eA]
      exact hk
    have eq1 : some (false, Value.int (Int32.ofNat w + Int32.ofInt 1)) = some (false, .int (Int32.ofNat (w + 1))) := by rw [n32_s (by omega)]
    refine ⟨_, 80, hs, fun h => ?_, fun h => ?_⟩
    · have h : (Int32.ofNat (zkd A' q)).toInt ≤ (Int32.ofNat w).toInt := h
      rw [hk', e2, tw] at h
      have e : w = 256 := by omega
      subst e
      exact ⟨rfl, eA⟩
    · have h : ¬ (Int32.ofNat (zkd A' q)).toInt ≤ (Int32.ofNat w).toInt := h
      rw [hk', e2, tw] at h
      have hw2 : w < 256 := by omega
      obtain ⟨hi, ht⟩ := hT w hw2
      have eV : Int32.ofNat S &&& (zI A' 196 w ^^^ Int32.ofInt (-1)) = Int32.ofNat (dfN S (ztw A w)) := by
        rw [eA, zsI_ne (fun e => hq e.symm), hi, n32_dif]
      have hd : dfN S (ztw A w) < 4096 := Nat.lt_of_le_of_lt dfN_le hS
      refine ⟨w, rfl, hw2, fun h2 => ?_, fun h2 => ?_⟩
      · have h2 : ¬ (Int32.ofNat S &&& (zI A' 196 w ^^^ Int32.ofInt (-1))).toInt = 0 := h2
        rw [eV, n32_t hd] at h2
        have hb : okC A S w = false := decide_eq_false (by omega)
        refine ⟨fun _ => ?_, fun h3 => absurd (show (Int32.ofInt 0).toInt = 0 by decide) h3⟩
        refine ⟨w + 1, ⟨eq1, ?_, rfl, rfl, rfl, trivial⟩, rfl, ?_, (show w + 1 ≤ 256 by omega)⟩
        · show some (false, Value.int (zb (exN (okC A S) w) ||| Int32.ofInt 0)) = some (false, .int (zb (exN (okC A S) w || okC A S w)))
          rw [hb, ← zb_or]
          rfl
        · show zuI A' q (Int32.ofNat w).toNatClampNeg (Int32.ofInt 9) = zsI A q (zbgF A q S (w + 1))
          rw [n32_c (by omega), eA]
          refine zbg_s ?_
          unfold st9
          rw [hb]
          rfl
      · have h2 : ¬ ¬ (Int32.ofNat S &&& (zI A' 196 w ^^^ Int32.ofInt (-1))).toInt = 0 := h2
        rw [eV, n32_t hd] at h2
        have hb : okC A S w = true := decide_eq_true (by omega)
        refine ⟨fun h3 => absurd (show (Int32.ofInt 1).toInt = 0 from h3) (by decide), fun _ => ?_⟩
        refine ⟨w + 1, ⟨eq1, ?_, rfl, rfl, rfl, trivial⟩, rfl, ?_, (show w + 1 ≤ 256 by omega)⟩
        · show some (false, Value.int (zb (exN (okC A S) w) ||| Int32.ofInt 1)) = some (false, .int (zb (exN (okC A S) w || okC A S w)))
          rw [hb, ← zb_or]
          rfl
        · show zuI A' q (Int32.ofNat w).toNatClampNeg (Int32.ofInt 0) = zsI A q (zbgF A q S (w + 1))
          rw [n32_c (by omega), eA]
          refine zbg_s ?_
          unfold st9
          rw [hb]
          rfl
  · obtain ⟨q, S⟩ := a
    refine ⟨0, ⟨rfl, rfl, rfl, rfl, rfl, trivial⟩, rfl, (zsI_self (fun x => ?_)).symm, by decide⟩
    exact if_neg (Nat.not_lt_zero x)
/-! letter by letter -/
def rwI (A : zW) (q : Nat) (f : Nat → Nat) : zW := zsI A q (fun w => if w < 256 then Int32.ofNat (f w) else zI A q w)
theorem rwI_at {A : zW} {q w : Nat} {f : Nat → Nat} (hw : w < 256) : zI (rwI A q f) q w = Int32.ofNat (f w) := by
  unfold rwI
  rw [zsI_at, if_pos hw]
theorem rwI_eq {A : zW} {q : Nat} {f g : Nat → Nat} (h : ∀ w, w < 256 → f w = g w) : rwI A q f = rwI A q g := by
  have e : (fun w => if w < 256 then Int32.ofNat (f w) else zI A q w) = (fun w => if w < 256 then Int32.ofNat (g w) else zI A q w) := funext (fun w => by
    by_cases c : w < 256
    · rw [if_pos c, if_pos c, h w c]
    · rw [if_neg c, if_neg c])
  unfold rwI
  rw [e]
theorem rwI_self {A : zW} {q : Nat} {f : Nat → Nat} (h : ∀ w, w < 256 → zI A q w = Int32.ofNat (f w)) : rwI A q f = A := zsI_self (fun x => by
  by_cases c : x < 256
  · rw [if_pos c, h x c]
  · rw [if_neg c])
theorem rwI_u {A : zW} {q i n : Nat} {f : Nat → Nat} (hi : i < 256) : zuI (rwI A q f) q i (Int32.ofNat n) = rwI A q (fun x => if x = i then n else f x) := zuI_zsI (fun x => by
  by_cases e : x = i
  · subst e
    rw [if_pos hi, if_pos rfl]
    show Int32.ofNat (if x = x then n else f x) = _
    rw [if_pos rfl]
  · by_cases c : x < 256
    · rw [if_pos c, if_neg e, if_pos c]
      show Int32.ofNat (if x = i then n else f x) = _
      rw [if_neg e]
    · rw [if_neg c, if_neg e, if_neg c])
theorem rwI_rwI {A : zW} {q : Nat} {f g : Nat → Nat} : rwI (rwI A q f) q g = rwI A q g := by
  refine Prod.ext (funext fun j => funext fun x => ?_) rfl
  show zI (zsI (rwI A q f) q _) j x = zI (zsI A q _) j x
  by_cases e : j = q
  · subst e
    rw [zsI_at, zsI_at]
    by_cases c : x < 256
    · rw [if_pos c, if_pos c]
    · rw [if_neg c, if_neg c]
      show zI (zsI A j _) j x = zI A j x
      rw [zsI_at, if_neg c]
  · rw [zsI_ne e, zsI_ne e]
    exact zsI_ne e
theorem or_k : ∀ k, k < 8 → ∀ w, w < 256 → (w ||| 2 ^ k) = (if w.testBit k = true then w else ox k w) := by decide +kernel
def zq_spread : zQ := zfu (fun a : Nat × (Nat → Nat) => [.ref a.1]) (fun a A => zkd A a.1 = 256 ∧ ∀ w, w < 256 → zI A a.1 w = Int32.ofNat (a.2 w) ∧ a.2 w ≤ 99) (fun _ _ => none) (fun a A => rwI A a.1 (spr a.2 8))
def in_sp2 (A : zW) (q : Nat) (f : Nat → Nat) : fL_ → List Value → zW → Prop := fun lg vs A' => ∃ k : Nat, f_sub [(1, false, .int (Int32.ofNat (2 ^ k))), (0, false, .ref q)] lg ∧ vs = [] ∧ A' = rwI A q (spr f k) ∧ k ≤ 8
def in_sp10 (A : zW) (q : Nat) (f : Nat → Nat) : fL_ → List Value → zW → Prop := fun lg vs A' => ∃ k v : Nat, f_sub [(2, false, .int (Int32.ofNat v)), (1, false, .int (Int32.ofNat (2 ^ k))), (0, false, .ref q)] lg ∧ vs = [] ∧ A' = rwI A q (sps false f k v) ∧ k < 8 ∧ v ≤ 256
theorem p2_8 : ∀ k, k < 9 → (2 : Nat) ^ k ≤ 256 := by decide +kernel
theorem n32_dbl : ∀ k, k < 9 → Int32.ofNat (2 ^ k) <<< (Int32.ofInt 1 &&& 31) = Int32.ofNat (2 ^ (k + 1)) := by decide +kernel
theorem p2_8e : ∀ k, k < 8 → (2 : Nat) ^ k < 256 := by decide +kernel
set_option maxRecDepth 20000 in
set_option maxHeartbeats 16000000 in
theorem zc_X6_spread : zdo r_X6_spread zq_spread := by
  refine zdo_fu [(163, 2, zq_min)] (fun a A => [(2, in_sp2 A a.1 a.2), (10, in_sp10 A a.1 a.2)]) 100 fo_X6 rfl (zs_cons rfl za_J9_min zs_nil) k_X6_spread (fun a A hp => ?_) (fun a A hp => ?_)
  · obtain ⟨q, f⟩ := a
    obtain ⟨hk, hf⟩ := hp
    have hk : zkd A q = 256 := hk
    have hf : ∀ w, w < 256 → zI A q w = Int32.ofNat (f w) ∧ f w ≤ 99 := hf
    have e2 : (Int32.ofNat 256).toInt = 256 := by decide
    refine List.forall_mem_cons.mpr ⟨?_, List.forall_mem_cons.mpr ⟨?_, fun _ h => absurd h List.not_mem_nil⟩⟩
    · rintro lg vs A' ⟨k, hs, rfl, eA, h8⟩
      have h8 : k ≤ 8 := h8
      have hp2 := p2_8 k (by omega)
      have tk := n32_t (show 2 ^ k < 4096 by omega)
      have hk' : zkd A' q = 256 := by
        rw [eA]
        exact hk
      refine ⟨_, 60, hs, fun h => ?_, fun h => ?_⟩
      · have h : (Int32.ofNat (zkd A' q)).toInt ≤ (Int32.ofNat (2 ^ k)).toInt := h
        rw [hk', e2, tk] at h
        refine ⟨rfl, ?_⟩
        have e : k = 8 := by
          refine Nat.le_antisymm h8 (Nat.le_of_not_lt (fun c => ?_))
          have := p2_8e k c
          omega
        subst e
        exact eA
      · have h : ¬ (Int32.ofNat (zkd A' q)).toInt ≤ (Int32.ofNat (2 ^ k)).toInt := h
        rw [hk', e2, tk] at h
        have k8 : k < 8 := by
          refine Nat.lt_of_le_of_ne h8 (fun c => ?_)
          subst c
          exact h (by decide)
        refine ⟨k, 0, ⟨rfl, rfl, rfl, trivial⟩, rfl, ?_, k8, Nat.zero_le _⟩
        rw [eA]
        exact rwI_eq (fun w _ => sps_0.symm)
    · rintro lg vs A' ⟨k, v, hs, rfl, eA, k8, hv⟩
      have k8 : k < 8 := k8
      have hv : v ≤ 256 := hv
      have hp2 := p2_8e k k8
      have tv := n32_t (show v < 4096 by omega)
      have hk' : zkd A' q = 256 := by
        rw [eA]
        exact hk
      have eq1 : some (false, Value.int (Int32.ofNat v + Int32.ofInt 1)) = some (false, .int (Int32.ofNat (v + 1))) := by rw [n32_s (by omega)]
      refine ⟨_, 100, hs, fun h => ?_, fun h => ?_⟩
      · have h : (Int32.ofNat (zkd A' q)).toInt ≤ (Int32.ofNat v).toInt := h
        rw [hk', e2, tv] at h
        have e : v = 256 := by omega
        subst e
        refine ⟨k + 1, ⟨?_, rfl, trivial⟩, rfl, ?_, (show k + 1 ≤ 8 by omega)⟩
        · show some (false, Value.int (Int32.ofNat (2 ^ k) <<< (Int32.ofInt 1 &&& 31))) = some (false, .int (Int32.ofNat (2 ^ (k + 1))))
          rw [n32_dbl k (by omega)]
        · rw [eA]
          exact rwI_eq (fun w hw => sps_e k8 hw)
      · have h : ¬ (Int32.ofNat (zkd A' q)).toInt ≤ (Int32.ofNat v).toInt := h
        rw [hk', e2, tv] at h
        have v2 : v < 256 := by omega
        have eo : Int32.ofNat v ||| Int32.ofNat (2 ^ k) = Int32.ofNat (if v.testBit k = true then v else ox k v) := by rw [n32_or, or_k k k8 v v2]
        have ho := ox_lt (w := v) k8 v2
        have lt2 : (if v.testBit k = true then v else ox k v) < 256 := by
          split
          · exact v2
          · exact ho
        refine ⟨fun h2 => ?_, fun h2 => ⟨fun h3 => ?_, fun h3 => ?_⟩⟩
        · have h2 : (Int32.ofNat v ||| Int32.ofNat (2 ^ k)).toInt = (Int32.ofNat v).toInt := h2
          rw [eo, n32_t (by omega), tv] at h2
          have hb : ¬ v.testBit k = false := fun z => by
            rw [if_neg (fun y => by rw [z] at y; cases y)] at h2
            exact ox_ne (k := k) (w := v) (by omega)
          refine ⟨k, v + 1, ⟨eq1, rfl, rfl, trivial⟩, rfl, ?_, k8, (show v + 1 ≤ 256 by omega)⟩
          rw [eA]
          exact rwI_eq (fun w _ => (sps_skip hb).symm)
        · have h2 : ¬ (Int32.ofNat v ||| Int32.ofNat (2 ^ k)).toInt = (Int32.ofNat v).toInt := h2
          have h3 : (Int32.ofNat v ||| Int32.ofNat (2 ^ k)).toInt < (Int32.ofNat (zkd A' q)).toInt := h3
          rw [eo, n32_t (by omega), tv] at h2
          have hb : v.testBit k = false := by
            cases hb : v.testBit k with
            | false => rfl
            | true =>
              rw [if_pos hb] at h2
              exact absurd rfl h2
          rw [if_neg (fun y => by rw [hb] at y; cases y)] at eo
          have co : (Int32.ofNat v ||| Int32.ofNat (2 ^ k)).toNatClampNeg = ox k v := by rw [eo, n32_c (by omega)]
          have cv := n32_c (show v < 4096 by omega)
          obtain ⟨s1, s2, s3, s4⟩ := sps_v (f := f) hb
          have rv1 : zI A' q v = Int32.ofNat (spr f k v) := by rw [eA, rwI_at v2, s1]
          have ro1 : zI A' q (ox k v) = Int32.ofNat (spr f k (ox k v)) := by rw [eA, rwI_at ho, s2]
          have u1 := spr_ub (f := f) k v
          have u2 := spr_ub (f := f) k (ox k v)
          have b1 := (hf v v2).2
          have b2 := (hf _ ho).2
          refine ⟨(zI A' q (Int32.ofNat v).toNatClampNeg, zI A' q (Int32.ofNat v ||| Int32.ofNat (2 ^ k)).toNatClampNeg + Int32.ofInt 1), rfl, trivial, ?_⟩
          refine ⟨(zI A' q (Int32.ofNat v ||| Int32.ofNat (2 ^ k)).toNatClampNeg, zI A' q (Int32.ofNat v).toNatClampNeg + Int32.ofInt 1), rfl, trivial, ?_⟩
          refine ⟨k, v + 1, ⟨eq1, rfl, rfl, trivial⟩, rfl, ?_, k8, (show v + 1 ≤ 256 by omega)⟩
          show zuI (zuI A' q (Int32.ofNat v).toNatClampNeg (if (zI A' q (Int32.ofNat v).toNatClampNeg).toInt ≤ (zI A' q (Int32.ofNat v ||| Int32.ofNat (2 ^ k)).toNatClampNeg + Int32.ofInt 1).toInt then zI A' q (Int32.ofNat v).toNatClampNeg else zI A' q (Int32.ofNat v ||| Int32.ofNat (2 ^ k)).toNatClampNeg + Int32.ofInt 1)) q (Int32.ofNat v ||| Int32.ofNat (2 ^ k)).toNatClampNeg (if (zI A' q (Int32.ofNat v ||| Int32.ofNat (2 ^ k)).toNatClampNeg).toInt ≤ (zI A' q (Int32.ofNat v).toNatClampNeg + Int32.ofInt 1).toInt then zI A' q (Int32.ofNat v ||| Int32.ofNat (2 ^ k)).toNatClampNeg else zI A' q (Int32.ofNat v).toNatClampNeg + Int32.ofInt 1) = rwI A q (sps false f k (v + 1))
          rw [co, cv, rv1, ro1, n32_s (by omega), n32_s (by omega), n32_min (by omega) (by omega), n32_min (by omega) (by omega), eA, rwI_u v2, rwI_u ho]
          refine rwI_eq (fun x _ => ?_)
          by_cases e1 : x = ox k v
          · rw [if_pos e1, e1, s4]
          · rw [if_neg e1]
            by_cases e2 : x = v
            · rw [if_pos e2, e2, s3]
            · rw [if_neg e2, sps_x e2 e1]
        · have h3 : ¬ (Int32.ofNat v ||| Int32.ofNat (2 ^ k)).toInt < (Int32.ofNat (zkd A' q)).toInt := h3
          rw [eo, n32_t (by omega), hk', e2] at h3
          omega
  · obtain ⟨q, f⟩ := a
    obtain ⟨hk, hf⟩ := hp
    have hf : ∀ w, w < 256 → zI A q w = Int32.ofNat (f w) ∧ f w ≤ 99 := hf
    refine ⟨0, ⟨rfl, rfl, trivial⟩, rfl, ?_, by decide⟩
    exact (rwI_self (fun w hw => (hf w hw).1)).symm
