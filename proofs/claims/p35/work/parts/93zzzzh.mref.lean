/-! merging, the reference: how far -/
theorem n32_0 : Int32.ofInt 0 = Int32.ofNat 0 := by decide
theorem n32_or0 {a : Nat} : Int32.ofNat a ||| Int32.ofInt 0 = Int32.ofNat a := by rw [n32_0, n32_or, Nat.or_zero]
def bmP (A : zW) (V : Nat) (u : Int32) (e : Nat) : Bool := V.testBit e && decide (zI A 349 e = u)
def zq_bookOf : zQ := zpu (fun a : Nat × Int32 × Int32 => [.ref 343, .int a.2.1]) (fun a A => (zF A 343 8 = .int a.2.2 ∧ 0 ≤ a.2.2.toInt ∧ a.2.2.toInt ≤ 12) ∧ zF A 343 20 = .int (Int32.ofNat a.1)) (fun a A => .int (Int32.ofNat (vwN (bmP A a.1 a.2.1) a.2.2.toInt.toNat)))
def in_bo (A : zW) (V : Nat) (u n : Int32) : fL_ → List Value → zW → Prop := fun lg vs A' => ∃ e : Nat, f_sub [(3, false, .int (Int32.ofNat e)), (2, false, .int (Int32.ofNat (vwN (bmP A V u) e))), (0, false, .ref 343), (1, false, .int u)] lg ∧ vs = [] ∧ A' = A ∧ (e : Int) ≤ n.toInt
set_option maxRecDepth 20000 in
set_option maxHeartbeats 8000000 in
theorem zc_X12_bookOf : zdo r_X12_bookOf zq_bookOf := by
  refine zdo_pu [(475, 2, zq_hasBit)] (fun a A => [(4, in_bo A a.1 a.2.1 a.2.2)]) 80 fo_X12 rfl (zs_cons rfl za_X12_hasBit zs_nil) k_X12_bookOf (fun a A hp => ?_) (fun a A hp => ?_)
  · obtain ⟨V, u, n⟩ := a
    obtain ⟨⟨hn, n0, n1⟩, hV⟩ := hp
    have hn : zF A 343 8 = .int n := hn
    have n0 : 0 ≤ n.toInt := n0
    have n1 : n.toInt ≤ 12 := n1
    have hV : zF A 343 20 = .int (Int32.ofNat V) := hV
    refine List.forall_mem_cons.mpr ⟨?_, fun _ h => absurd h List.not_mem_nil⟩
    rintro lg vs A' ⟨e, hs, rfl, rfl, he⟩
    have he : (e : Int) ≤ n.toInt := he
    have te := n32_t (show e < 4096 by omega)
    have ce := n32_c (show e < 4096 by omega)
    have eq1 : some (false, Value.int (Int32.ofNat e + Int32.ofInt 1)) = some (false, .int (Int32.ofNat (e + 1))) := by rw [n32_s (by omega)]
    have eqn : ¬ bmP A' V u e = true → some (false, Value.int (Int32.ofNat (vwN (bmP A' V u) e) ||| Int32.ofInt 0)) = some (false, .int (Int32.ofNat (vwN (bmP A' V u) (e + 1)))) := fun z => by rw [vwN_s z, n32_or0]
    refine ⟨_, 80, hs, fun h => ?_, fun h => ?_⟩
    · have h : (iv (zF A' 343 8)).toInt ≤ (Int32.ofNat e).toInt := h
      rw [hn, te] at h
      have h : n.toInt ≤ (e : Int) := h
      refine ⟨?_, rfl⟩
      show some (Value.int (Int32.ofNat (vwN (bmP A' V u) e))) = some (.int (Int32.ofNat (vwN (bmP A' V u) n.toInt.toNat)))
      rw [show n.toInt.toNat = e by omega]
    · have h : ¬ (iv (zF A' 343 8)).toInt ≤ (Int32.ofNat e).toInt := h
      rw [hn, te] at h
      have h : ¬ n.toInt ≤ (e : Int) := h
      have le1 : ((e + 1 : Nat) : Int) ≤ n.toInt := by omega
      have ehb : hbB (iv (zF A' 343 20)).toInt64 (Int32.ofNat e) = V.testBit e := by
        rw [hV]
        show hbB (Int32.ofNat V).toInt64 (Int32.ofNat e) = _
        rw [zbt_m (by omega), n32_zbi (by omega)]
      refine ⟨((iv (zF A' 343 20)).toInt64, Int32.ofNat e), rfl, trivial, fun h2 => ?_, fun h2 => ⟨fun h3 => ?_, fun h3 => ?_⟩⟩
      · have h2 : (zb (hbB (iv (zF A' 343 20)).toInt64 (Int32.ofNat e))).toInt = 0 := h2
        rw [ehb] at h2
        refine ⟨e + 1, ⟨eq1, eqn (fun z => ?_), rfl, rfl, trivial⟩, rfl, rfl, le1⟩
        unfold bmP at z
        rw [zb_f h2] at z
        cases z
      · have h3 : ¬ (zI A' 349 (Int32.ofNat e).toNatClampNeg).toInt = u.toInt := h3
        rw [ce] at h3
        refine ⟨e + 1, ⟨eq1, eqn (fun z => ?_), rfl, rfl, trivial⟩, rfl, rfl, le1⟩
        unfold bmP at z
        rw [Bool.and_eq_true, decide_eq_true_iff] at z
        exact h3 (by rw [z.2])
      · have h2 : ¬ (zb (hbB (iv (zF A' 343 20)).toInt64 (Int32.ofNat e))).toInt = 0 := h2
        rw [ehb] at h2
        have h3 : ¬ ¬ (zI A' 349 (Int32.ofNat e).toNatClampNeg).toInt = u.toInt := h3
        rw [ce] at h3
        have h3 : zI A' 349 e = u := Int32.toInt_inj.mp (Classical.not_not.mp h3)
        have hb : bmP A' V u e = true := by
          unfold bmP
          rw [zb_t h2, decide_eq_true h3]
          rfl
        refine ⟨e + 1, ⟨eq1, ?_, rfl, rfl, trivial⟩, rfl, rfl, le1⟩
        show some (false, Value.int (Int32.ofNat (vwN (bmP A' V u) e) ||| (Int32.ofInt 1 <<< (Int32.ofNat e &&& 31)))) = some (false, .int (Int32.ofNat (vwN (bmP A' V u) (e + 1))))
        rw [n32_vw (by omega) hb]
  · obtain ⟨V, u, n⟩ := a
    obtain ⟨⟨hn, n0, n1⟩, hV⟩ := hp
    have n0 : 0 ≤ n.toInt := n0
    exact ⟨0, ⟨rfl, rfl, rfl, rfl, trivial⟩, rfl, rfl, (show ((0 : Nat) : Int) ≤ n.toInt by omega)⟩
/-- whether a set's row has a world -/
def hwP (A : zW) (S x : Nat) : Bool := !(decide (zJ A 354 (4 * S + x) = Int64.ofNat 0))
def zq_hasWorld : zQ := zpu (fun S : Nat => [.ref 343, .int (Int32.ofNat S)]) (fun S _ => S < 4096) (fun S A => .int (zb (exN (hwP A S) 4)))
def in_hw (A : zW) (S : Nat) : fL_ → List Value → zW → Prop := fun lg vs A' => ∃ x : Nat, f_sub [(3, false, .int (Int32.ofNat x)), (2, false, .int (zb (exN (hwP A S) x))), (0, false, .ref 343), (1, false, .int (Int32.ofNat S))] lg ∧ vs = [] ∧ A' = A ∧ x ≤ 4
set_option maxRecDepth 20000 in
set_option maxHeartbeats 8000000 in
theorem zc_X12_hasWorld : zdo r_X12_hasWorld zq_hasWorld := by
  refine zdo_pu [] (fun S A => [(4, in_hw A S)]) 60 fo_X12 rfl zs_nil k_X12_hasWorld (fun S A hp => ?_) (fun S A hp => ?_)
  · have hS : S < 4096 := hp
    refine List.forall_mem_cons.mpr ⟨?_, fun _ h => absurd h List.not_mem_nil⟩
    rintro lg vs A' ⟨x, hs, rfl, rfl, hx⟩
    have hx : x ≤ 4 := hx
    have tx := n32_t (show x < 4096 by omega)
    have eq1 : some (false, Value.int (Int32.ofNat x + Int32.ofInt 1)) = some (false, .int (Int32.ofNat (x + 1))) := by rw [n32_s (by omega)]
    have eY : ∀ v : Bool, exN (hwP A' S) (x + 1) = v → some (false, Value.int (zb v)) = some (false, .int (zb (exN (hwP A' S) (x + 1)))) := fun v z => by rw [z]
    have eE : exN (hwP A' S) (x + 1) = (exN (hwP A' S) x || hwP A' S x) := rfl
    refine ⟨_, 60, hs, fun h => ?_, fun h => ⟨fun h2 => ?_, fun h2 => ⟨fun h3 => ?_, fun h3 => ?_⟩⟩⟩
    · have h : (Int32.ofInt 4).toInt ≤ (Int32.ofNat x).toInt := h
      rw [e4i, tx] at h
      have e : x = 4 := by omega
      subst e
      exact ⟨rfl, rfl⟩
    · have h : ¬ (Int32.ofInt 4).toInt ≤ (Int32.ofNat x).toInt := h
      rw [e4i, tx] at h
      have h2 : ¬ (zb (exN (hwP A' S) x)).toInt = 0 := h2
      exact ⟨x + 1, ⟨eq1, eY true (by rw [eE, zb_t h2, Bool.true_or]), rfl, rfl, trivial⟩, rfl, rfl, (show x + 1 ≤ 4 by omega)⟩
    · have h : ¬ (Int32.ofInt 4).toInt ≤ (Int32.ofNat x).toInt := h
      rw [e4i, tx] at h
      have h2 : ¬ ¬ (zb (exN (hwP A' S) x)).toInt = 0 := h2
      have h3 : (lg_cmp (zJ A' 354 (Int32.ofInt 4 * Int32.ofNat S + Int32.ofNat x).toNatClampNeg) (Int64.ofNat 0)).toInt = 0 := h3
      rw [n32_m hS (by omega)] at h3
      have h3 := lg_cmp_0.mp h3
      refine ⟨x + 1, ⟨eq1, eY false ?_, rfl, rfl, trivial⟩, rfl, rfl, (show x + 1 ≤ 4 by omega)⟩
      rw [eE, zb_f (Classical.not_not.mp h2), Bool.false_or]
      unfold hwP
      rw [decide_eq_true h3]
      rfl
    · have h : ¬ (Int32.ofInt 4).toInt ≤ (Int32.ofNat x).toInt := h
      rw [e4i, tx] at h
      have h3 : ¬ (lg_cmp (zJ A' 354 (Int32.ofInt 4 * Int32.ofNat S + Int32.ofNat x).toNatClampNeg) (Int64.ofNat 0)).toInt = 0 := h3
      rw [n32_m hS (by omega)] at h3
      have h3 : ¬ zJ A' 354 (4 * S + x) = Int64.ofNat 0 := fun z => h3 (lg_cmp_0.mpr z)
      refine ⟨x + 1, ⟨eq1, eY true ?_, rfl, rfl, trivial⟩, rfl, rfl, (show x + 1 ≤ 4 by omega)⟩
      rw [eE]
      unfold hwP
      rw [decide_eq_false h3, Bool.not_false, Bool.or_true]
  · exact ⟨0, ⟨rfl, rfl, rfl, rfl, trivial⟩, rfl, rfl, Nat.zero_le _⟩
/-! a source's row among the others -/
theorem n32_m256 {u w : Nat} (hu : u < 6) (hw : w < 256) : (Int32.ofInt 256 * Int32.ofNat u + Int32.ofNat w).toNatClampNeg = 256 * u + w := by
  have tu := n32_t (show u < 4096 by omega)
  have tw := n32_t (show w < 4096 by omega)
  have m1 : (Int32.ofInt 256 * Int32.ofNat u).toInt = 256 * (u : Int) := by
    rw [i_mul (by rw [e256, tu]; omega) (by rw [e256, tu]; omega), e256, tu]
  show (Int32.ofInt 256 * Int32.ofNat u + Int32.ofNat w).toInt.toNat = _
  rw [i_add (by rw [m1, tw]; omega) (by rw [m1, tw]; omega), m1, tw]
  omega
theorem n32_d64 : ∀ w, w < 256 → Int32.ofNat w / Int32.ofInt 64 = Int32.ofNat (w / 64) := by decide +kernel
theorem n32_r64 : ∀ w, w < 256 → Int32.ofNat w % Int32.ofInt 64 = Int32.ofNat (w % 64) := by decide +kernel
def blk (A : zW) (u n : Nat) (f : Nat → Nat) : zW := zsI A 375 (fun x => if 256 * u ≤ x ∧ x < 256 * u + n then Int32.ofNat (f (x - 256 * u)) else zI A 375 x)
section
variable {A : zW} {u n : Nat} {f g : Nat → Nat}
theorem blk_at {w : Nat} (hw : w < n) : zI (blk A u n f) 375 (256 * u + w) = Int32.ofNat (f w) := by
  unfold blk
  rw [zsI_at, if_pos ⟨by omega, by omega⟩, show 256 * u + w - 256 * u = w by omega]
theorem blk_ne {x : Nat} (h : ¬ (256 * u ≤ x ∧ x < 256 * u + n)) : zI (blk A u n f) 375 x = zI A 375 x := by
  unfold blk
  rw [zsI_at, if_neg h]
theorem blk_eq (h : ∀ w, w < n → f w = g w) : blk A u n f = blk A u n g := by
  have e : (fun x => if 256 * u ≤ x ∧ x < 256 * u + n then Int32.ofNat (f (x - 256 * u)) else zI A 375 x) = (fun x => if 256 * u ≤ x ∧ x < 256 * u + n then Int32.ofNat (g (x - 256 * u)) else zI A 375 x) := funext (fun x => by
    by_cases c : 256 * u ≤ x ∧ x < 256 * u + n
    · rw [if_pos c, if_pos c, h _ (by omega)]
    · rw [if_neg c, if_neg c])
  unfold blk
  rw [e]
theorem blk_u {i v : Nat} (hi : i < n) : zuI (blk A u n f) 375 (256 * u + i) (Int32.ofNat v) = blk A u n (fun x => if x = i then v else f x) := zuI_zsI (fun x => by
  by_cases e : x = 256 * u + i
  · subst e
    rw [if_pos ⟨by omega, by omega⟩, if_pos rfl]
    show Int32.ofNat (if 256 * u + i - 256 * u = i then v else f (256 * u + i - 256 * u)) = _
    rw [if_pos (by omega)]
  · by_cases c : 256 * u ≤ x ∧ x < 256 * u + n
    · rw [if_pos c, if_neg e, if_pos c]
      show Int32.ofNat (if x - 256 * u = i then v else f (x - 256 * u)) = _
      rw [if_neg (by omega)]
    · rw [if_neg c, if_neg e, if_neg c])
theorem blk_s : zuI (blk A u n f) 375 (256 * u + n) (Int32.ofNat (f n)) = blk A u (n + 1) f := zuI_zsI (fun x => by
  by_cases e : x = 256 * u + n
  · subst e
    rw [if_pos ⟨by omega, by omega⟩, if_pos rfl, show 256 * u + n - 256 * u = n by omega]
  · by_cases c : 256 * u ≤ x ∧ x < 256 * u + n
    · rw [if_pos ⟨c.1, by omega⟩, if_neg e, if_pos c]
    · rw [if_neg (by omega), if_neg e, if_neg c])
theorem blk_0 : blk A u 0 f = A := zsI_self (fun x => if_neg (by omega))
end
def okM (A : zW) (S w : Nat) : Bool := (zJ A 354 (4 * S + w / 64)).toBitVec.getLsbD (w % 64)
def st99 (ok : Nat → Nat → Bool) (S w : Nat) : Nat := if ok S w = true then 0 else 99
def zq_layFars : zQ := zfu (fun a : Nat × Nat => [.ref 343, .int (Int32.ofNat a.1), .int (Int32.ofNat a.2)]) (fun a _ => a.1 < 6 ∧ a.2 < 4096) (fun _ _ => none) (fun a A => blk A a.1 256 (spr (st99 (okM A) a.2) 8))
def in_lf2 (A : zW) (u S : Nat) : fL_ → List Value → zW → Prop := fun lg vs A' => ∃ w : Nat, f_sub [(3, false, .int (Int32.ofNat w)), (0, false, .ref 343), (1, false, .int (Int32.ofNat u)), (2, false, .int (Int32.ofNat S))] lg ∧ vs = [] ∧ A' = blk A u w (st99 (okM A) S) ∧ w ≤ 256
def in_lf58 (A : zW) (u S : Nat) : fL_ → List Value → zW → Prop := fun lg vs A' => ∃ k : Nat, f_sub [(3, false, .int (Int32.ofNat k)), (0, false, .ref 343), (1, false, .int (Int32.ofNat u)), (2, false, .int (Int32.ofNat S))] lg ∧ vs = [] ∧ A' = blk A u 256 (spr (st99 (okM A) S) k) ∧ k ≤ 8
def in_lf67 (A : zW) (u S : Nat) : fL_ → List Value → zW → Prop := fun lg vs A' => ∃ k v : Nat, f_sub [(4, false, .int (Int32.ofNat v)), (3, false, .int (Int32.ofNat k)), (0, false, .ref 343), (1, false, .int (Int32.ofNat u)), (2, false, .int (Int32.ofNat S))] lg ∧ vs = [] ∧ A' = blk A u 256 (sps true (st99 (okM A) S) k v) ∧ k < 8 ∧ v ≤ 256
theorem st99_le {ok : Nat → Nat → Bool} {S w : Nat} : st99 ok S w ≤ 99 := by
  unfold st99
  split <;> decide
theorem n32_ox {k v : Nat} (hk : k < 13) : Int32.ofNat v ^^^ (Int32.ofInt 1 <<< (Int32.ofNat k &&& 31)) = Int32.ofNat (ox k v) := by
  rw [n32_1 k hk, n32_xor]
  rfl
set_option maxRecDepth 20000 in
set_option maxHeartbeats 16000000 in
theorem zc_X12_layFars : zdo r_X12_layFars zq_layFars := by
  refine zdo_fu [(475, 2, zq_hasBit)] (fun a A => [(2, in_lf2 A a.1 a.2), (58, in_lf58 A a.1 a.2), (67, in_lf67 A a.1 a.2)]) 120 fo_X12 rfl (zs_cons rfl za_X12_hasBit zs_nil) k_X12_layFars (fun a A hp => ?_) (fun a A hp => ?_)
  · obtain ⟨u, S⟩ := a
    obtain ⟨hu, hS⟩ := hp
    have hu : u < 6 := hu
    have hS : S < 4096 := hS
    have e8 : (Int32.ofInt 8).toInt = 8 := by decide
    refine List.forall_mem_cons.mpr ⟨?_, List.forall_mem_cons.mpr ⟨?_, List.forall_mem_cons.mpr ⟨?_, fun _ h => absurd h List.not_mem_nil⟩⟩⟩
    · rintro lg vs A' ⟨w, hs, rfl, eA, hw⟩
      have hw : w ≤ 256 := hw
      have tw := n32_t (show w < 4096 by omega)
      have eq1 : some (false, Value.int (Int32.ofNat w + Int32.ofInt 1)) = some (false, .int (Int32.ofNat (w + 1))) := by rw [n32_s (by omega)]
      refine ⟨_, 80, hs, fun h => ?_, fun h => ?_⟩
      · have h : (Int32.ofInt 256).toInt ≤ (Int32.ofNat w).toInt := h
        rw [e256, tw] at h
        have e : w = 256 := by omega
        subst e
        exact ⟨0, ⟨rfl, rfl, rfl, rfl, trivial⟩, rfl, eA, Nat.zero_le _⟩
      · have h : ¬ (Int32.ofInt 256).toInt ≤ (Int32.ofNat w).toInt := h
        rw [e256, tw] at h
        have w2 : w < 256 := by omega
        have ei : zJ A' 354 (Int32.ofInt 4 * Int32.ofNat S + Int32.ofNat w / Int32.ofInt 64).toNatClampNeg = zJ A 354 (4 * S + w / 64) := by
          rw [n32_d64 w w2, n32_m hS (by omega), eA]
          rfl
        have eb : hbB (zJ A' 354 (Int32.ofInt 4 * Int32.ofNat S + Int32.ofNat w / Int32.ofInt 64).toNatClampNeg) (Int32.ofNat w % Int32.ofInt 64) = okM A S w := by
          rw [ei, n32_r64 w w2, hbB_b (Nat.mod_lt _ (by decide))]
          rfl
        have fin : ∀ v : Int32, v = Int32.ofNat (st99 (okM A) S w) → zuI A' 375 (Int32.ofInt 256 * Int32.ofNat u + Int32.ofNat w).toNatClampNeg v = blk A u (w + 1) (st99 (okM A) S) := fun v ev => by
          rw [n32_m256 hu w2, eA, ev]
          exact blk_s
        refine ⟨(zJ A' 354 (Int32.ofInt 4 * Int32.ofNat S + Int32.ofNat w / Int32.ofInt 64).toNatClampNeg, Int32.ofNat w % Int32.ofInt 64), rfl, trivial, fun h2 => ?_, fun h2 => ?_⟩
        · have h2 : (zb (hbB (zJ A' 354 (Int32.ofInt 4 * Int32.ofNat S + Int32.ofNat w / Int32.ofInt 64).toNatClampNeg) (Int32.ofNat w % Int32.ofInt 64))).toInt = 0 := h2
          rw [eb] at h2
          refine ⟨w + 1, ⟨eq1, rfl, rfl, rfl, trivial⟩, rfl, fin _ ?_, (show w + 1 ≤ 256 by omega)⟩
          unfold st99
          rw [zb_f h2]
          rfl
        · have h2 : ¬ (zb (hbB (zJ A' 354 (Int32.ofInt 4 * Int32.ofNat S + Int32.ofNat w / Int32.ofInt 64).toNatClampNeg) (Int32.ofNat w % Int32.ofInt 64))).toInt = 0 := h2
          rw [eb] at h2
          refine ⟨w + 1, ⟨eq1, rfl, rfl, rfl, trivial⟩, rfl, fin _ ?_, (show w + 1 ≤ 256 by omega)⟩
          unfold st99
          rw [zb_t h2]
          rfl
    · rintro lg vs A' ⟨k, hs, rfl, eA, hk⟩
      have hk : k ≤ 8 := hk
      have tk := n32_t (show k < 4096 by omega)
      refine ⟨_, 80, hs, fun h => ?_, fun h => ?_⟩
      · have h : (Int32.ofInt 8).toInt ≤ (Int32.ofNat k).toInt := h
        rw [e8, tk] at h
        have e : k = 8 := by omega
        subst e
        exact ⟨rfl, eA⟩
      · have h : ¬ (Int32.ofInt 8).toInt ≤ (Int32.ofNat k).toInt := h
        rw [e8, tk] at h
        refine ⟨k, 0, ⟨rfl, rfl, rfl, rfl, rfl, trivial⟩, rfl, ?_, (show k < 8 by omega), Nat.zero_le _⟩
        rw [eA]
        exact blk_eq (fun w _ => sps_0.symm)
    · rintro lg vs A' ⟨k, v, hs, rfl, eA, hk, hv⟩
      have hk : k < 8 := hk
      have hv : v ≤ 256 := hv
      have tv := n32_t (show v < 4096 by omega)
      have eq1 : some (false, Value.int (Int32.ofNat v + Int32.ofInt 1)) = some (false, .int (Int32.ofNat (v + 1))) := by rw [n32_s (by omega)]
      refine ⟨_, 120, hs, fun h => ?_, fun h => ?_⟩
      · have h : (Int32.ofInt 256).toInt ≤ (Int32.ofNat v).toInt := h
        rw [e256, tv] at h
        have e : v = 256 := by omega
        subst e
        refine ⟨k + 1, ⟨?_, rfl, rfl, rfl, trivial⟩, rfl, ?_, (show k + 1 ≤ 8 by omega)⟩
        · show some (false, Value.int (Int32.ofNat k + Int32.ofInt 1)) = some (false, .int (Int32.ofNat (k + 1)))
          rw [n32_s (by omega)]
        · rw [eA]
          exact blk_eq (fun w hw => sps_e hk hw)
      · have h : ¬ (Int32.ofInt 256).toInt ≤ (Int32.ofNat v).toInt := h
        rw [e256, tv] at h
        have v2 : v < 256 := by omega
        have ho := ox_lt (w := v) hk v2
        have io : (Int32.ofInt 256 * Int32.ofNat u + (Int32.ofNat v ^^^ (Int32.ofInt 1 <<< (Int32.ofNat k &&& 31)))).toNatClampNeg = 256 * u + ox k v := by rw [n32_ox (by omega), n32_m256 hu ho]
        have iv2 : (Int32.ofInt 256 * Int32.ofNat u + Int32.ofNat v).toNatClampNeg = 256 * u + v := n32_m256 hu v2
        have eb : hbB (Int32.ofNat v).toInt64 (Int32.ofNat k) = v.testBit k := by rw [zbt_m (by omega), n32_zbi (by omega)]
        refine ⟨((Int32.ofNat v).toInt64, Int32.ofNat k), rfl, trivial, fun h2 => ?_, fun h2 => ?_⟩
        · have h2 : (zb (hbB (Int32.ofNat v).toInt64 (Int32.ofNat k))).toInt = 0 := h2
          rw [eb] at h2
          have hb : ¬ v.testBit k = true := fun z => by
            rw [zb_f h2] at z
            cases z
          refine ⟨k, v + 1, ⟨eq1, rfl, rfl, rfl, rfl, trivial⟩, rfl, ?_, hk, (show v + 1 ≤ 256 by omega)⟩
          rw [eA]
          exact blk_eq (fun w _ => (sps_skip hb).symm)
        · have h2 : ¬ (zb (hbB (Int32.ofNat v).toInt64 (Int32.ofNat k))).toInt = 0 := h2
          rw [eb] at h2
          have hb := zb_t h2
          obtain ⟨s1, s2, s3, s4⟩ := sps_v (f := st99 (okM A) S) hb
          have rv1 : zI A' 375 (256 * u + v) = Int32.ofNat (spr (st99 (okM A) S) k v) := by rw [eA, blk_at v2, s1]
          have ro1 : zI A' 375 (256 * u + ox k v) = Int32.ofNat (spr (st99 (okM A) S) k (ox k v)) := by rw [eA, blk_at ho, s2]
          have u1 := Nat.le_trans (spr_ub (f := st99 (okM A) S) k v) st99_le
          have u2 := Nat.le_trans (spr_ub (f := st99 (okM A) S) k (ox k v)) st99_le
          have t1 := n32_t (show spr (st99 (okM A) S) k v < 4096 by omega)
          have t2 := n32_t (show spr (st99 (okM A) S) k (ox k v) < 4096 by omega)
          have t3 := n32_t (show spr (st99 (okM A) S) k v + 1 < 4096 by omega)
          have t4 := n32_t (show spr (st99 (okM A) S) k (ox k v) + 1 < 4096 by omega)
          have q1 : zI A' 375 (Int32.ofInt 256 * Int32.ofNat u + Int32.ofNat v).toNatClampNeg = Int32.ofNat (spr (st99 (okM A) S) k v) := by rw [iv2, rv1]
          have q2 : zI A' 375 (Int32.ofInt 256 * Int32.ofNat u + (Int32.ofNat v ^^^ (Int32.ofInt 1 <<< (Int32.ofNat k &&& 31)))).toNatClampNeg = Int32.ofNat (spr (st99 (okM A) S) k (ox k v)) := by rw [io, ro1]
          have q3 : zI A' 375 (Int32.ofInt 256 * Int32.ofNat u + Int32.ofNat v).toNatClampNeg + Int32.ofInt 1 = Int32.ofNat (spr (st99 (okM A) S) k v + 1) := by rw [q1, n32_s (by omega)]
          have q4 : zI A' 375 (Int32.ofInt 256 * Int32.ofNat u + (Int32.ofNat v ^^^ (Int32.ofInt 1 <<< (Int32.ofNat k &&& 31)))).toNatClampNeg + Int32.ofInt 1 = Int32.ofNat (spr (st99 (okM A) S) k (ox k v) + 1) := by rw [q2, n32_s (by omega)]
          have fin : ∀ x y : Int32, x = Int32.ofNat (min (spr (st99 (okM A) S) k v) (spr (st99 (okM A) S) k (ox k v) + 1)) → y = Int32.ofNat (min (spr (st99 (okM A) S) k (ox k v)) (spr (st99 (okM A) S) k v + 1)) → zuI (zuI A' 375 (Int32.ofInt 256 * Int32.ofNat u + Int32.ofNat v).toNatClampNeg x) 375 (Int32.ofInt 256 * Int32.ofNat u + (Int32.ofNat v ^^^ (Int32.ofInt 1 <<< (Int32.ofNat k &&& 31)))).toNatClampNeg y = blk A u 256 (sps true (st99 (okM A) S) k (v + 1)) := fun x y ex ey => by
            rw [io, iv2, ex, ey, eA, blk_u v2, blk_u ho]
            refine blk_eq (fun z _ => ?_)
            by_cases e1 : z = ox k v
            · rw [if_pos e1, e1, s4]
            · rw [if_neg e1]
              by_cases e2 : z = v
              · rw [if_pos e2, e2, s3]
              · rw [if_neg e2, sps_x e2 e1]
          have le1 : v + 1 ≤ 256 := by omega
          refine ⟨fun h3 => ⟨fun h4 => ?_, fun h4 => ?_⟩, fun h3 => ⟨fun h4 => ?_, fun h4 => ?_⟩⟩
          · have h3 : (zI A' 375 (Int32.ofInt 256 * Int32.ofNat u + Int32.ofNat v).toNatClampNeg).toInt ≤ (zI A' 375 (Int32.ofInt 256 * Int32.ofNat u + (Int32.ofNat v ^^^ (Int32.ofInt 1 <<< (Int32.ofNat k &&& 31)))).toNatClampNeg + Int32.ofInt 1).toInt := h3
            have h4 : (zI A' 375 (Int32.ofInt 256 * Int32.ofNat u + (Int32.ofNat v ^^^ (Int32.ofInt 1 <<< (Int32.ofNat k &&& 31)))).toNatClampNeg).toInt ≤ (zI A' 375 (Int32.ofInt 256 * Int32.ofNat u + Int32.ofNat v).toNatClampNeg + Int32.ofInt 1).toInt := h4
            rw [q1, q4, t1, t4] at h3
            rw [q2, q3, t2, t3] at h4
            exact ⟨k, v + 1, ⟨eq1, rfl, rfl, rfl, rfl, trivial⟩, rfl, fin _ _ (q1.trans (by rw [Nat.min_eq_left (by omega)])) (q2.trans (by rw [Nat.min_eq_left (by omega)])), hk, le1⟩
          · have h3 : (zI A' 375 (Int32.ofInt 256 * Int32.ofNat u + Int32.ofNat v).toNatClampNeg).toInt ≤ (zI A' 375 (Int32.ofInt 256 * Int32.ofNat u + (Int32.ofNat v ^^^ (Int32.ofInt 1 <<< (Int32.ofNat k &&& 31)))).toNatClampNeg + Int32.ofInt 1).toInt := h3
            have h4 : ¬ (zI A' 375 (Int32.ofInt 256 * Int32.ofNat u + (Int32.ofNat v ^^^ (Int32.ofInt 1 <<< (Int32.ofNat k &&& 31)))).toNatClampNeg).toInt ≤ (zI A' 375 (Int32.ofInt 256 * Int32.ofNat u + Int32.ofNat v).toNatClampNeg + Int32.ofInt 1).toInt := h4
            rw [q1, q4, t1, t4] at h3
            rw [q2, q3, t2, t3] at h4
            exact ⟨k, v + 1, ⟨eq1, rfl, rfl, rfl, rfl, trivial⟩, rfl, fin _ _ (q1.trans (by rw [Nat.min_eq_left (by omega)])) (q3.trans (by rw [Nat.min_eq_right (by omega)])), hk, le1⟩
          · have h3 : ¬ (zI A' 375 (Int32.ofInt 256 * Int32.ofNat u + Int32.ofNat v).toNatClampNeg).toInt ≤ (zI A' 375 (Int32.ofInt 256 * Int32.ofNat u + (Int32.ofNat v ^^^ (Int32.ofInt 1 <<< (Int32.ofNat k &&& 31)))).toNatClampNeg + Int32.ofInt 1).toInt := h3
            have h4 : (zI A' 375 (Int32.ofInt 256 * Int32.ofNat u + (Int32.ofNat v ^^^ (Int32.ofInt 1 <<< (Int32.ofNat k &&& 31)))).toNatClampNeg).toInt ≤ (zI A' 375 (Int32.ofInt 256 * Int32.ofNat u + Int32.ofNat v).toNatClampNeg + Int32.ofInt 1).toInt := h4
            rw [q1, q4, t1, t4] at h3
            rw [q2, q3, t2, t3] at h4
            exact ⟨k, v + 1, ⟨eq1, rfl, rfl, rfl, rfl, trivial⟩, rfl, fin _ _ (q4.trans (by rw [Nat.min_eq_right (by omega)])) (q2.trans (by rw [Nat.min_eq_left (by omega)])), hk, le1⟩
          · have h3 : ¬ (zI A' 375 (Int32.ofInt 256 * Int32.ofNat u + Int32.ofNat v).toNatClampNeg).toInt ≤ (zI A' 375 (Int32.ofInt 256 * Int32.ofNat u + (Int32.ofNat v ^^^ (Int32.ofInt 1 <<< (Int32.ofNat k &&& 31)))).toNatClampNeg + Int32.ofInt 1).toInt := h3
            have h4 : ¬ (zI A' 375 (Int32.ofInt 256 * Int32.ofNat u + (Int32.ofNat v ^^^ (Int32.ofInt 1 <<< (Int32.ofNat k &&& 31)))).toNatClampNeg).toInt ≤ (zI A' 375 (Int32.ofInt 256 * Int32.ofNat u + Int32.ofNat v).toNatClampNeg + Int32.ofInt 1).toInt := h4
            rw [q1, q4, t1, t4] at h3
            rw [q2, q3, t2, t3] at h4
            exact ⟨k, v + 1, ⟨eq1, rfl, rfl, rfl, rfl, trivial⟩, rfl, fin _ _ (q4.trans (by rw [Nat.min_eq_right (by omega)])) (q3.trans (by rw [Nat.min_eq_right (by omega)])), hk, le1⟩
  · obtain ⟨u, S⟩ := a
    exact ⟨0, ⟨rfl, rfl, rfl, rfl, trivial⟩, rfl, blk_0.symm, Nat.zero_le _⟩
