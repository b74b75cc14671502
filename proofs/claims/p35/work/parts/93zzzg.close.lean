/-! the class's sets of sets: closed upwards, the least, the next, how many -/
theorem lg_cmp_0 {x y : Int64} : (lg_cmp x y).toInt = 0 ↔ x = y := by
  rw [ck_lg]
  constructor
  · intro h
    split at h
    · exact absurd h (by decide)
    · split at h
      · rename_i e
        exact Int64.toInt_inj.mp e
      · exact absurd h (by decide)
  · rintro rfl
    rw [if_neg (Int.lt_irrefl _), if_pos rfl]
theorem n32_c {r : Nat} (h : r < 4096) : (Int32.ofNat r).toNatClampNeg = r := by
  show (Int32.ofNat r).toInt.toNat = r
  rw [n32_t h]
  rfl
theorem n32_s {k : Nat} (h : k < 100000) : Int32.ofNat k + Int32.ofInt 1 = Int32.ofNat (k + 1) := by
  have e1 : (Int32.ofInt 1).toInt = 1 := by decide
  have ek : (Int32.ofNat k).toInt = (k : Int) := Int32.toInt_ofNat_of_lt (by omega)
  have es : (Int32.ofNat (k + 1)).toInt = ((k + 1 : Nat) : Int) := Int32.toInt_ofNat_of_lt (by omega)
  refine Int32.toInt_inj.mp ?_
  rw [i_add (by omega) (by omega), ek, e1, es]
  omega
theorem zJ_s {A : zW} {q : Nat} {f : Nat → Int64} : zJ (zsJ A q f) q = f := funext (fun _ => zsJ_at)
theorem zJ_n {A : zW} {q p : Nat} {f : Nat → Int64} (h : p ≠ q) : zJ (zsJ A q f) p = zJ A p := funext (fun _ => zsJ_ne h)
theorem zsJ_zsJ {A : zW} {q : Nat} {f g : Nat → Int64} : zsJ (zsJ A q f) q g = zsJ A q g := by
  show (A.1, (fun j x => bif Nat.beq j q then g x else zJ (zsJ A q f) j x), A.2.2) = (A.1, (fun j x => bif Nat.beq j q then g x else zJ A j x), A.2.2)
  have e : (fun j x => bif Nat.beq j q then g x else zJ (zsJ A q f) j x) = (fun j x => bif Nat.beq j q then g x else zJ A j x) := funext (fun j => funext (fun x => by
    show (bif Nat.beq j q then g x else (bif Nat.beq j q then f x else zJ A j x)) = _
    cases Nat.beq j q <;> rfl))
  rw [e]
def cuR (f : Nat → Int64) : Nat → Nat → Int64
  | 0 => f
  | k + 1 => fun x => if x < 64 then cuR f k x ||| rz (cuR f k) k x else cuR f k x
theorem cuR_bF {f : Nat → Int64} : ∀ {k S : Nat}, k ≤ 12 → S < 4096 → bF (cuR f k) S = cuF (bF f) k S
  | 0, _, _, _ => rfl
  | k + 1, S, hk, hS => by
    have h1 := cuR_bF (f := f) (k := k) (S := S) (by omega) hS
    have h2 := cuR_bF (f := f) (k := k) (S := S - 2 ^ k) (by omega) (Nat.lt_of_le_of_lt (Nat.sub_le _ _) hS)
    show (if S / 64 < 64 then cuR f k (S / 64) ||| rz (cuR f k) k (S / 64) else cuR f k (S / 64)).toBitVec.getLsbD (S % 64) = (cuF (bF f) k S || (S.testBit k && cuF (bF f) k (S - 2 ^ k)))
    rw [if_pos (by omega), Int64.toBitVec_or, BitVec.getLsbD_or, rz_bit (by omega) hS, h2, ← h1]
    rfl
theorem rz_half {c g : Nat → Int64} {k r : Nat} (hg : ∀ x, g x = if x < r then (if x < 64 then c x ||| rz c k x else c x) else c x) : rz g k r = rz c k r := by
  unfold rz
  by_cases h6 : k < 6
  · rw [if_pos h6, if_pos h6, hg r, if_neg (Nat.lt_irrefl r)]
  · rw [if_neg h6, if_neg h6]
    by_cases hb : r.testBit (k - 6) = true
    · rw [if_pos hb, if_pos hb, hg]
      by_cases hx : r - 2 ^ (k - 6) < r
      · rw [if_pos hx]
        by_cases h64 : r - 2 ^ (k - 6) < 64
        · rw [if_pos h64]
          have hz : rz c k (r - 2 ^ (k - 6)) = 0 := by
            unfold rz
            rw [if_neg h6, tb_sub hb, decide_eq_true rfl, Bool.not_true, Bool.and_false, if_neg Bool.false_ne_true]
          rw [hz, Int64.or_zero]
        · rw [if_neg h64]
      · rw [if_neg hx]
    · rw [if_neg hb, if_neg hb]
def zq_closeUp : zQ := zfu (fun _ : Unit => [.ref 199, .int (Int32.ofInt 12)]) (fun _ _ => True) (fun _ _ => none) (fun _ A => zsJ A 200 (cuR (zJ A 200) 12))
theorem zB_199 : zB 199 64 = true := by decide +kernel
theorem zB_201 : zB 201 64 = true := by decide +kernel
def in_cu2 (A : zW) : fL_ → List Value → zW → Prop := fun lg vs A' => ∃ k : Nat, f_sub [(2, false, .int (Int32.ofNat k)), (0, false, .ref 199), (1, false, .int (Int32.ofInt 12))] lg ∧ vs = [] ∧ A' = zsJ A 200 (cuR (zJ A 200) k) ∧ k ≤ 12
def in_cu9 (A : zW) : fL_ → List Value → zW → Prop := fun lg vs A' => ∃ k r : Nat, f_sub [(3, false, .int (Int32.ofNat r)), (2, false, .int (Int32.ofNat k)), (0, false, .ref 199), (1, false, .int (Int32.ofInt 12))] lg ∧ vs = [] ∧ A' = zsJ A 200 (fun x => if x < r then cuR (zJ A 200) (k + 1) x else cuR (zJ A 200) k x) ∧ k < 12 ∧ r ≤ 64
theorem e32_12i : (Int32.ofInt 12).toInt = 12 := by decide
set_option maxRecDepth 20000 in
set_option maxHeartbeats 4000000 in
theorem za_X1_closeUp : zdo r_X1_closeUp zq_closeUp := by
  refine zdo_fu [(177, 3, zq_raised)] (fun _ A => [(2, in_cu2 A), (9, in_cu9 A)]) 80 fo_X1 rfl (zs_cons rfl za_X1_raised zs_nil) k_X1_closeUp (fun a A hp => ?_) (fun a A hp => ?_)
  · refine List.forall_mem_cons.mpr ⟨?_, List.forall_mem_cons.mpr ⟨?_, fun _ h => absurd h List.not_mem_nil⟩⟩
    · rintro lg vs A' ⟨k, hs, rfl, eA, hk⟩
      have tk := n32_t (show k < 4096 by omega)
      refine ⟨_, 60, hs, fun h => ?_, fun h => ?_⟩
      · have h : (Int32.ofInt 12).toInt ≤ (Int32.ofNat k).toInt := h
        rw [e32_12i, tk] at h
        have ek : k = 12 := by omega
        subst ek
        exact ⟨rfl, eA⟩
      · have h : ¬ (Int32.ofInt 12).toInt ≤ (Int32.ofNat k).toInt := h
        rw [e32_12i, tk] at h
        refine ⟨k, 0, ⟨rfl, rfl, rfl, rfl, trivial⟩, rfl, eA.trans (zsJ_ext (fun x => ?_)), (show k < 12 by omega), (by decide : 0 ≤ 64)⟩
        show cuR (zJ A 200) k x = if x < 0 then cuR (zJ A 200) (k + 1) x else cuR (zJ A 200) k x
        rw [if_neg (Nat.not_lt_zero x)]
    · rintro lg vs A' ⟨k, r, hs, rfl, eA, hk, hr⟩
      have hr : r ≤ 64 := hr
      have tr := n32_t (show r < 4096 by omega)
      have e64 : (Int32.ofNat 64).toInt = 64 := by decide
      refine ⟨_, 60, hs, fun h => ?_, fun h => ?_⟩
      · have h : (Int32.ofNat (zkd A' (rv_ (zfl A' 199 (kfd fl_X1 13 (zkd A' 199)))))).toInt ≤ (Int32.ofNat r).toInt := h
        rw [zB_l zB_199, e64, tr] at h
        refine ⟨k + 1, ⟨?_, rfl, rfl, trivial⟩, rfl, eA.trans (zsJ_ext (fun x => ?_)), (show k + 1 ≤ 12 by omega)⟩
        · show some (false, Value.int (Int32.ofNat k + Int32.ofInt 1)) = some (false, .int (Int32.ofNat (k + 1)))
          rw [n32_s (by omega)]
        · show (if x < r then cuR (zJ A 200) (k + 1) x else cuR (zJ A 200) k x) = cuR (zJ A 200) (k + 1) x
          by_cases hx : x < r
          · rw [if_pos hx]
          · rw [if_neg hx]
            show _ = if x < 64 then _ else cuR (zJ A 200) k x
            rw [if_neg (by omega)]
      · have h : ¬ (Int32.ofNat (zkd A' (rv_ (zfl A' 199 (kfd fl_X1 13 (zkd A' 199)))))).toInt ≤ (Int32.ofNat r).toInt := h
        rw [zB_l zB_199, e64, tr] at h
        have hr6 : r < 64 := by omega
        have ef : zJ A' 200 = fun x => if x < r then cuR (zJ A 200) (k + 1) x else cuR (zJ A 200) k x := by rw [eA]; exact zJ_s
        have er : rz (zJ A' 200) k r = rz (cuR (zJ A 200) k) k r := rz_half (fun x => by
          rw [ef]
          rfl)
        have e0 : zJ A' 200 r = cuR (zJ A 200) k r := by
          rw [ef]
          exact if_neg (Nat.lt_irrefl r)
        refine ⟨(k, r), rfl, ⟨hk, hr6⟩, ?_⟩
        refine ⟨k, r + 1, ⟨?_, rfl, rfl, rfl, trivial⟩, rfl, ?_, hk, (show r + 1 ≤ 64 by omega)⟩
        · show some (false, Value.int (Int32.ofNat r + Int32.ofInt 1)) = some (false, .int (Int32.ofNat (r + 1)))
          rw [n32_s (by omega)]
        · show zuJ A' (rv_ (zfl A' 199 (kfd fl_X1 13 (zkd A' 199)))) (Int32.ofNat r).toNatClampNeg (zJ A' (rv_ (zfl A' 199 (kfd fl_X1 13 (zkd A' 199)))) (Int32.ofNat r).toNatClampNeg ||| rz (zJ A' 200) k r) = _
          rw [zB_f zB_199, n32_c (by omega), er]
          show zuJ A' 200 r (zJ A' 200 r ||| rz (cuR (zJ A 200) k) k r) = _
          rw [e0, eA]
          refine zuJ_zsJ (fun x => ?_)
          show (if x < r + 1 then cuR (zJ A 200) (k + 1) x else cuR (zJ A 200) k x) = if x = r then _ else (if x < r then cuR (zJ A 200) (k + 1) x else cuR (zJ A 200) k x)
          by_cases ex : x = r
          · subst ex
            rw [if_pos rfl, if_pos (by omega)]
            show (if x < 64 then _ else _) = _
            rw [if_pos hr6]
          · rw [if_neg ex]
            by_cases hx : x < r
            · rw [if_pos hx, if_pos (by omega)]
            · rw [if_neg hx, if_neg (by omega)]
  · refine ⟨0, ⟨rfl, rfl, rfl, trivial⟩, rfl, (zsJ_self (fun x => rfl)).symm, by decide⟩
/-- the least ones -/
def lwR (f : Nat → Int64) : Nat → Nat → Int64
  | 0 => f
  | k + 1 => fun x => lwR f k x &&& (rz f k x ^^^ Int64.ofInt (-1))
theorem lwR_bF {f : Nat → Int64} : ∀ {k S : Nat}, k ≤ 12 → S < 4096 → (bF (lwR f k) S = true ↔ bF f S = true ∧ ∀ j, j < k → S.testBit j = true → ¬ bF f (S - 2 ^ j) = true)
  | 0, _, _, _ => ⟨fun h => ⟨h, fun j hj => absurd hj (Nat.not_lt_zero j)⟩, fun h => h.1⟩
  | k + 1, S, hk, hS => by
    have h1 := lwR_bF (f := f) (k := k) (S := S) (by omega) hS
    have e : bF (lwR f (k + 1)) S = (bF (lwR f k) S && !(S.testBit k && bF f (S - 2 ^ k))) := by
      show ((lwR f k (S / 64) &&& (rz f k (S / 64) ^^^ Int64.ofInt (-1)))).toBitVec.getLsbD (S % 64) = _
      rw [Int64.toBitVec_and, BitVec.getLsbD_and, Int64.toBitVec_xor, BitVec.getLsbD_xor, rz_bit (by omega) hS, m1_64 _ (by omega), Bool.xor_true]
      rfl
    rw [e, Bool.and_eq_true, h1, Bool.not_eq_true']
    constructor
    · rintro ⟨⟨a, b⟩, c⟩
      refine ⟨a, fun j hj hb => ?_⟩
      by_cases ej : j = k
      · subst ej
        rw [hb, Bool.true_and] at c
        rw [c]
        exact Bool.false_ne_true
      · exact b j (by omega) hb
    · rintro ⟨a, b⟩
      refine ⟨⟨a, fun j hj hb => b j (by omega) hb⟩, ?_⟩
      cases hb : S.testBit k with
      | false => rfl
      | true =>
        have := b k (by omega) hb
        rw [Bool.true_and]
        exact Bool.eq_false_iff.mpr this
def zq_becomeLows : zQ := zfu (fun _ : Unit => [.ref 201, .ref 199, .int (Int32.ofInt 12)]) (fun _ _ => True) (fun _ _ => none) (fun _ A => zsJ A 202 (fun x => if x < 64 then lwR (zJ A 200) 12 x else zJ A 202 x))
def in_bl7 (A : zW) : fL_ → List Value → zW → Prop := fun lg vs A' => ∃ k : Nat, f_sub [(3, false, .int (Int32.ofNat k)), (0, false, .ref 201), (1, false, .ref 199), (2, false, .int (Int32.ofInt 12))] lg ∧ vs = [] ∧ A' = zsJ A 202 (fun x => if x < 64 then lwR (zJ A 200) k x else zJ A 202 x) ∧ k ≤ 12
def in_bl15 (A : zW) : fL_ → List Value → zW → Prop := fun lg vs A' => ∃ k r : Nat, f_sub [(4, false, .int (Int32.ofNat r)), (3, false, .int (Int32.ofNat k)), (0, false, .ref 201), (1, false, .ref 199), (2, false, .int (Int32.ofInt 12))] lg ∧ vs = [] ∧ A' = zsJ A 202 (fun x => if x < 64 then (if x < r then lwR (zJ A 200) (k + 1) x else lwR (zJ A 200) k x) else zJ A 202 x) ∧ k < 12 ∧ r ≤ 64
set_option maxRecDepth 20000 in
set_option maxHeartbeats 4000000 in
theorem za_X1_becomeLows : zdo r_X1_becomeLows zq_becomeLows := by
  refine zdo_fu [(186, 2, zq_become), (177, 3, zq_raised)] (fun _ A => [(7, in_bl7 A), (15, in_bl15 A)]) 80 fo_X1 rfl (zs_cons rfl za_X1_become (zs_cons rfl za_X1_raised zs_nil)) k_X1_becomeLows (fun a A hp => ?_) (fun a A hp => ?_)
  · refine List.forall_mem_cons.mpr ⟨?_, List.forall_mem_cons.mpr ⟨?_, fun _ h => absurd h List.not_mem_nil⟩⟩
    · rintro lg vs A' ⟨k, hs, rfl, eA, hk⟩
      have tk := n32_t (show k < 4096 by omega)
      refine ⟨_, 60, hs, fun h => ?_, fun h => ?_⟩
      · have h : (Int32.ofInt 12).toInt ≤ (Int32.ofNat k).toInt := h
        rw [e32_12i, tk] at h
        have ek : k = 12 := by omega
        subst ek
        exact ⟨rfl, eA⟩
      · have h : ¬ (Int32.ofInt 12).toInt ≤ (Int32.ofNat k).toInt := h
        rw [e32_12i, tk] at h
        refine ⟨k, 0, ⟨rfl, rfl, rfl, rfl, rfl, trivial⟩, rfl, eA.trans (zsJ_ext (fun x => ?_)), (show k < 12 by omega), (by decide : 0 ≤ 64)⟩
        show (if x < 64 then lwR (zJ A 200) k x else zJ A 202 x) = if x < 64 then (if x < 0 then lwR (zJ A 200) (k + 1) x else lwR (zJ A 200) k x) else zJ A 202 x
        rw [if_neg (Nat.not_lt_zero x)]
    · rintro lg vs A' ⟨k, r, hs, rfl, eA, hk, hr⟩
      have hr : r ≤ 64 := hr
      have tr := n32_t (show r < 4096 by omega)
      have e64 : (Int32.ofNat 64).toInt = 64 := by decide
      have done : 64 ≤ r → ∀ x, (if x < 64 then (if x < r then lwR (zJ A 200) (k + 1) x else lwR (zJ A 200) k x) else zJ A 202 x) = (if x < 64 then lwR (zJ A 200) (k + 1) x else zJ A 202 x) := fun h x => by
        by_cases hx : x < 64
        · rw [if_pos hx, if_pos hx, if_pos (by omega)]
        · rw [if_neg hx, if_neg hx]
      have eq1 : some (false, Value.int (Int32.ofNat k + Int32.ofInt 1)) = some (false, .int (Int32.ofNat (k + 1))) := by rw [n32_s (by omega)]
      refine ⟨_, 60, hs, fun h => ?_, fun h => ⟨fun h2 => ?_, fun h2 => ?_⟩⟩
      · have h : (Int32.ofNat (zkd A' (rv_ (zfl A' 201 (kfd fl_X1 13 (zkd A' 201)))))).toInt ≤ (Int32.ofNat r).toInt := h
        rw [zB_l zB_201, e64, tr] at h
        exact ⟨k + 1, ⟨eq1, rfl, rfl, rfl, trivial⟩, rfl, eA.trans (zsJ_ext (done (by omega))), (show k + 1 ≤ 12 by omega)⟩
      · have h2 : (Int32.ofNat (zkd A' (rv_ (zfl A' 199 (kfd fl_X1 13 (zkd A' 199)))))).toInt ≤ (Int32.ofNat r).toInt := h2
        rw [zB_l zB_199, e64, tr] at h2
        exact ⟨k + 1, ⟨eq1, rfl, rfl, rfl, trivial⟩, rfl, eA.trans (zsJ_ext (done (by omega))), (show k + 1 ≤ 12 by omega)⟩
      · have h : ¬ (Int32.ofNat (zkd A' (rv_ (zfl A' 201 (kfd fl_X1 13 (zkd A' 201)))))).toInt ≤ (Int32.ofNat r).toInt := h
        rw [zB_l zB_201, e64, tr] at h
        have hr6 : r < 64 := by omega
        have ef : zJ A' 200 = zJ A 200 := by rw [eA]; exact zJ_n (by decide)
        have e0 : zJ A' 202 r = lwR (zJ A 200) k r := by
          rw [eA, zJ_s]
          show (if r < 64 then (if r < r then _ else lwR (zJ A 200) k r) else _) = _
          rw [if_pos hr6, if_neg (Nat.lt_irrefl r)]
        refine ⟨(k, r), rfl, ⟨hk, hr6⟩, ?_⟩
        refine ⟨k, r + 1, ⟨?_, rfl, rfl, rfl, rfl, trivial⟩, rfl, ?_, hk, (show r + 1 ≤ 64 by omega)⟩
        · show some (false, Value.int (Int32.ofNat r + Int32.ofInt 1)) = some (false, .int (Int32.ofNat (r + 1)))
          rw [n32_s (by omega)]
        · show zuJ A' (rv_ (zfl A' 201 (kfd fl_X1 13 (zkd A' 201)))) (Int32.ofNat r).toNatClampNeg (zJ A' (rv_ (zfl A' 201 (kfd fl_X1 13 (zkd A' 201)))) (Int32.ofNat r).toNatClampNeg &&& (rz (zJ A' 200) k r ^^^ Int64.ofInt (-1))) = _
          rw [zB_f zB_201, n32_c (by omega), ef]
          show zuJ A' 202 r (zJ A' 202 r &&& (rz (zJ A 200) k r ^^^ Int64.ofInt (-1))) = _
          rw [e0, eA]
          refine zuJ_zsJ (fun x => ?_)
          show (if x < 64 then (if x < r + 1 then lwR (zJ A 200) (k + 1) x else lwR (zJ A 200) k x) else zJ A 202 x) = if x = r then _ else (if x < 64 then (if x < r then lwR (zJ A 200) (k + 1) x else lwR (zJ A 200) k x) else zJ A 202 x)
          by_cases ex : x = r
          · subst ex
            rw [if_pos rfl, if_pos hr6, if_pos (by omega)]
            rfl
          · rw [if_neg ex]
            by_cases h64 : x < 64
            · rw [if_pos h64, if_pos h64]
              by_cases hx : x < r
              · rw [if_pos hx, if_pos (by omega)]
              · rw [if_neg hx, if_neg (by omega)]
            · rw [if_neg h64, if_neg h64]
  · refine ⟨(201, 199, 64), rfl, ⟨zB_201, zB_199, (by decide : 64 ≤ 64)⟩, ?_⟩
    exact ⟨0, ⟨rfl, rfl, rfl, rfl, trivial⟩, rfl, rfl, by decide⟩
/-- how many -/
def zq_lbc : zQ := zpu (fun a : Int64 => [.long a]) (fun _ _ => True) (fun a _ => .int (bcV a))
set_option maxRecDepth 20000 in
theorem za_J13_bitCount : zdo r_J13_bitCount_95d88 zq_lbc := by
  refine zdo_pu [] (fun _ _ => []) 60 fo_J13 rfl zs_nil k_J13_bitCount_95d88 (fun _ _ _ => no_zh) (fun a A _ => ?_)
  exact ⟨rfl, rfl⟩
def zq_ibc : zQ := zpu (fun a : Int32 => [.int a]) (fun _ _ => True) (fun a _ => .int (icV a))
theorem fo_J6z : f_ok5 fl_J6 pl_J6 nw_J6 kl_J6 il_J6 = true := by decide +kernel
set_option maxRecDepth 20000 in
theorem za_J6_ibc : zdo r_J6_bitCount_0f7a4 zq_ibc := by
  refine zdo_pu [] (fun _ _ => []) 60 fo_J6z rfl zs_nil k_J6_bitCount_0f7a4 (fun _ _ _ => no_zh) (fun a A _ => ?_)
  exact ⟨rfl, rfl⟩
def zq_size : zQ := zpu (fun a : Nat × Nat => [.ref a.1]) (fun a _ => zB a.1 a.2 = true ∧ a.2 ≤ 64) (fun a A => .int (szA bcV (zJ A (a.1 + 1)) a.2))
def in_zsz (A : zW) (q n : Nat) : fL_ → List Value → zW → Prop := fun lg vs A' => ∃ t : Nat, f_sub [(2, false, .int (Int32.ofNat t)), (1, false, .int (szA bcV (zJ A (q + 1)) t)), (0, false, .ref q)] lg ∧ vs = [] ∧ A' = A ∧ t ≤ n
set_option maxRecDepth 20000 in
set_option maxHeartbeats 4000000 in
theorem za_X1_size : zdo r_X1_size zq_size := by
  refine zdo_pu [(139, 1, zq_lbc)] (fun a A => [(4, in_zsz A a.1 a.2)]) 60 fo_X1 rfl (zs_cons rfl za_J13_bitCount zs_nil) k_X1_size (fun a A hp => ?_) (fun a A hp => ?_)
  · obtain ⟨q, n⟩ := a
    obtain ⟨hB, hn⟩ := hp
    have hB : zB q n = true := hB
    have hn : n ≤ 64 := hn
    refine List.forall_mem_cons.mpr ⟨?_, fun _ h => absurd h List.not_mem_nil⟩
    rintro lg vs A' ⟨t, hs, rfl, rfl, ht⟩
    have ht : t ≤ n := ht
    have tt := n32_t (show t < 4096 by omega)
    have tn := n32_t (show n < 4096 by omega)
    refine ⟨_, 60, hs, fun h => ?_, fun h => ?_⟩
    · have h : (Int32.ofNat (zkd A' (rv_ (zfl A' q (kfd fl_X1 13 (zkd A' q)))))).toInt ≤ (Int32.ofNat t).toInt := h
      rw [zB_l hB, tt, tn] at h
      refine ⟨?_, rfl⟩
      show some (Value.int (szA bcV (zJ A' (q + 1)) t)) = some (.int (szA bcV (zJ A' (q + 1)) n))
      rw [show t = n by omega]
    · have h : ¬ (Int32.ofNat (zkd A' (rv_ (zfl A' q (kfd fl_X1 13 (zkd A' q)))))).toInt ≤ (Int32.ofNat t).toInt := h
      rw [zB_l hB, tt, tn] at h
      refine ⟨zJ A' (q + 1) t, ?_, trivial, ?_⟩
      · show [Value.long (zJ A' (rv_ (zfl A' q (kfd fl_X1 13 (zkd A' q)))) (Int32.ofNat t).toNatClampNeg)] = [.long (zJ A' (q + 1) t)]
        rw [zB_f hB, n32_c (by omega)]
        rfl
      · refine ⟨t + 1, ⟨?_, rfl, rfl, trivial⟩, rfl, rfl, (show t + 1 ≤ n by omega)⟩
        show some (false, Value.int (Int32.ofNat t + Int32.ofInt 1)) = some (false, .int (Int32.ofNat (t + 1)))
        rw [n32_s (by omega)]
  · exact ⟨0, ⟨rfl, rfl, rfl, trivial⟩, rfl, rfl, Nat.zero_le _⟩
def zq_lowest : zQ := zpu (fun a : Int64 => [.long a]) (fun _ _ => True) (fun a _ => .int (lwV a))
set_option maxRecDepth 20000 in
theorem za_X1_lowest : zdo r_X1_lowest zq_lowest := by
  refine zdo_pu [(139, 1, zq_lbc)] (fun _ _ => []) 60 fo_X1 rfl (zs_cons rfl za_J13_bitCount zs_nil) k_X1_lowest (fun _ _ _ => no_zh) (fun a A _ => ?_)
  exact ⟨_, rfl, trivial, rfl, rfl⟩
/-- the next one -/
def rowA (f : Nat → Int64) (F r : Nat) : Int64 := if r = F / 64 then f r &&& (Int64.ofInt (-1) <<< ((Int32.ofNat (F % 64)).toInt64 &&& 63)) else f r
theorem rowA_b {f : Nat → Int64} {F r i : Nat} (hF : F / 64 ≤ r) (hi : i < 64) : (rowA f F r).toBitVec.getLsbD i = (bF f (64 * r + i) && decide (F ≤ 64 * r + i)) := by
  rw [bF_at hi]
  unfold rowA
  by_cases h : r = F / 64
  · rw [if_pos h, Int64.toBitVec_and, BitVec.getLsbD_and, ms_sh _ (by omega) i hi]
    by_cases c : F % 64 ≤ i
    · rw [decide_eq_true c, decide_eq_true (show F ≤ 64 * r + i by omega)]
    · rw [decide_eq_false c, decide_eq_false (show ¬ F ≤ 64 * r + i by omega)]
  · rw [if_neg h, decide_eq_true (show F ≤ 64 * r + i by omega), Bool.and_true]
theorem n32_s6 : ∀ r, r < 64 → (Int32.ofNat r <<< (Int32.ofInt 6 &&& 31)) = Int32.ofNat (64 * r) := by decide +kernel
def nxP (f : Nat → Int64) (x : Int32) (S : Nat) : Prop := (-1 ≤ x.toInt ∧ x.toInt < (S : Int)) ∧ S < 4096 ∧ bF f S = true ∧ ∀ T : Nat, x.toInt < (T : Int) → T < S → ¬ bF f T = true
def zq_after : zQ := zpu (fun a : Nat × Int32 × Nat => [.ref a.1, .int a.2.1]) (fun a A => zB a.1 64 = true ∧ nxP (zJ A (a.1 + 1)) a.2.1 a.2.2) (fun a _ => .int (Int32.ofNat a.2.2))
def in_zaf (A : zW) (q F S : Nat) : fL_ → List Value → zW → Prop := fun lg vs A' => ∃ r : Nat, f_sub [(3, false, .int (Int32.ofNat r)), (2, false, .int (Int32.ofNat F)), (0, false, .ref q)] lg ∧ vs = [] ∧ A' = A ∧ F / 64 ≤ r ∧ r ≤ S / 64
set_option maxRecDepth 20000 in
set_option maxHeartbeats 8000000 in
theorem za_X1_after : zdo r_X1_after zq_after := by
  refine zdo_pu [(157, 1, zq_lowest)] (fun a A => [(15, in_zaf A a.1 (a.2.1.toInt + 1).toNat a.2.2)]) 80 fo_X1 rfl (zs_cons rfl za_X1_lowest zs_nil) k_X1_after (fun a A hp => ?_) (fun a A hp => ?_)
  · obtain ⟨q, x, S⟩ := a
    obtain ⟨hB, ⟨x0, x1⟩, hS, hb, hn⟩ := hp
    have hB : zB q 64 = true := hB
    have hS : S < 4096 := hS
    have x0 : -1 ≤ x.toInt := x0
    have x1 : x.toInt < (S : Int) := x1
    have hb : bF (zJ A (q + 1)) S = true := hb
    have hn : ∀ T : Nat, x.toInt < (T : Int) → T < S → ¬ bF (zJ A (q + 1)) T = true := hn
    obtain ⟨F, hF⟩ : ∃ F : Nat, F = (x.toInt + 1).toNat := ⟨_, rfl⟩
    refine List.forall_mem_cons.mpr ⟨?_, fun _ h => absurd h List.not_mem_nil⟩
    show ∀ (lg : fL_) (vs : List Value) (A' : zW), in_zaf A q (x.toInt + 1).toNat S lg vs A' → _
    rw [← hF]
    rintro lg vs A' ⟨r, hs, rfl, rfl, r0, r1⟩
    have r0 : F / 64 ≤ r := r0
    have r1 : r ≤ S / 64 := r1
    have tr := n32_t (show r < 4096 by omega)
    have e64 : (Int32.ofNat 64).toInt = 64 := by decide
    have s6 := i32_s6 F (by omega)
    have s63 := i32_63 F (by omega)
    have tF := n32_t (show F / 64 < 4096 by omega)
    -- a row without one: on; else the answer
    have eq1 : some (false, Value.int (Int32.ofNat r + Int32.ofInt 1)) = some (false, .int (Int32.ofNat (r + 1))) := by rw [n32_s (by omega)]
    have nx : rowA (zJ A' (q + 1)) F r = Int64.ofNat 0 → r + 1 ≤ S / 64 := fun hz => by
      have hz := l_zero.mp hz
      by_cases e : r = S / 64
      · have h1 := hz (S % 64) (by omega)
        rw [rowA_b r0 (by omega), show 64 * r + S % 64 = S by omega, hb, decide_eq_true (show F ≤ S by omega)] at h1
        cases h1
      · omega
    have ans : ¬ rowA (zJ A' (q + 1)) F r = Int64.ofNat 0 → (Int32.ofNat r <<< (Int32.ofInt 6 &&& 31)) + lwV (rowA (zJ A' (q + 1)) F r) = Int32.ofNat S := fun hz => by
      obtain ⟨i, hi, hbi⟩ : ∃ i, i < 64 ∧ (rowA (zJ A' (q + 1)) F r).toBitVec.getLsbD i = true := Classical.byContradiction (fun z => hz (l_zero.mpr (fun i hi => by
        cases c : (rowA (zJ A' (q + 1)) F r).toBitVec.getLsbD i with
        | false => rfl
        | true => exact absurd ⟨i, hi, c⟩ z)))
      rw [rowA_b r0 hi, Bool.and_eq_true] at hbi
      have hle := of_decide_eq_true hbi.2
      have hge : S ≤ 64 * r + i := by
        by_cases c : S ≤ 64 * r + i
        · exact c
        · exact absurd hbi.1 (hn _ (by omega) (by omega))
      have er : r = S / 64 := by omega
      have hl := lwV_ok (x := rowA (zJ A' (q + 1)) F r) (j := S % 64) (by omega) (by
        rw [rowA_b r0 (by omega), show 64 * r + S % 64 = S by omega, hb, decide_eq_true (show F ≤ S by omega)]
        rfl) (fun u hu => by
        rw [rowA_b r0 (by omega)]
        by_cases c : F ≤ 64 * r + u
        · rw [Bool.eq_false_iff.mpr (hn (64 * r + u) (by omega) (by omega)), Bool.false_and]
        · rw [decide_eq_false c, Bool.and_false])
      refine Int32.toInt_inj.mp ?_
      have t1 := n32_t (show 64 * r < 4096 by omega)
      rw [n32_s6 r (by omega), i_add (by rw [t1, hl]; omega) (by rw [t1, hl]; omega), t1, hl, n32_t hS]
      omega
    refine ⟨_, 80, hs, fun h => ?_, fun h => ⟨fun h2 => ?_, fun h2 => ?_⟩⟩
    · have h : (Int32.ofNat (zkd A' (rv_ (zfl A' q (kfd fl_X1 13 (zkd A' q)))))).toInt ≤ (Int32.ofNat r).toInt := h
      rw [zB_l hB, e64, tr] at h
      omega
    · have h2 : ¬ (Int32.ofNat r).toInt = (Int32.ofNat F >>> (Int32.ofInt 6 &&& 31)).toInt := h2
      rw [s6, tr, tF] at h2
      have eR : zJ A' (rv_ (zfl A' q (kfd fl_X1 13 (zkd A' q)))) (Int32.ofNat r).toNatClampNeg = rowA (zJ A' (q + 1)) F r := by
        rw [zB_f hB, n32_c (by omega)]
        unfold rowA
        rw [if_neg (by omega)]
        rfl
      refine ⟨fun h3 => ?_, fun h3 => ?_⟩
      · have h3 : (lg_cmp (zJ A' (rv_ (zfl A' q (kfd fl_X1 13 (zkd A' q)))) (Int32.ofNat r).toNatClampNeg) (Int64.ofNat 0)).toInt = 0 := h3
        rw [eR] at h3
        exact ⟨r + 1, ⟨eq1, rfl, rfl, trivial⟩, rfl, rfl, (show F / 64 ≤ r + 1 by omega), nx (lg_cmp_0.mp h3)⟩
      · have h3 : ¬ (lg_cmp (zJ A' (rv_ (zfl A' q (kfd fl_X1 13 (zkd A' q)))) (Int32.ofNat r).toNatClampNeg) (Int64.ofNat 0)).toInt = 0 := h3
        rw [eR] at h3
        refine ⟨_, rfl, trivial, ?_, rfl⟩
        show some (Value.int ((Int32.ofNat r <<< (Int32.ofInt 6 &&& 31)) + lwV (zJ A' (rv_ (zfl A' q (kfd fl_X1 13 (zkd A' q)))) (Int32.ofNat r).toNatClampNeg))) = some (.int (Int32.ofNat S))
        rw [eR, ans (fun z => h3 (lg_cmp_0.mpr z))]
    · have h2 : ¬ ¬ (Int32.ofNat r).toInt = (Int32.ofNat F >>> (Int32.ofInt 6 &&& 31)).toInt := h2
      rw [s6, tr, tF] at h2
      have h2 := Classical.not_not.mp h2
      have eR : zJ A' (rv_ (zfl A' q (kfd fl_X1 13 (zkd A' q)))) (Int32.ofNat r).toNatClampNeg &&& (Int64.ofInt (-1) <<< ((Int32.ofNat F &&& Int32.ofInt 63).toInt64 &&& 63)) = rowA (zJ A' (q + 1)) F r := by
        rw [zB_f hB, n32_c (by omega), s63]
        unfold rowA
        rw [if_pos (by omega)]
        rfl
      refine ⟨fun h3 => ?_, fun h3 => ?_⟩
      · have h3 : (lg_cmp (zJ A' (rv_ (zfl A' q (kfd fl_X1 13 (zkd A' q)))) (Int32.ofNat r).toNatClampNeg &&& (Int64.ofInt (-1) <<< ((Int32.ofNat F &&& Int32.ofInt 63).toInt64 &&& 63))) (Int64.ofNat 0)).toInt = 0 := h3
        rw [eR] at h3
        exact ⟨r + 1, ⟨eq1, rfl, rfl, trivial⟩, rfl, rfl, (show F / 64 ≤ r + 1 by omega), nx (lg_cmp_0.mp h3)⟩
      · have h3 : ¬ (lg_cmp (zJ A' (rv_ (zfl A' q (kfd fl_X1 13 (zkd A' q)))) (Int32.ofNat r).toNatClampNeg &&& (Int64.ofInt (-1) <<< ((Int32.ofNat F &&& Int32.ofInt 63).toInt64 &&& 63))) (Int64.ofNat 0)).toInt = 0 := h3
        rw [eR] at h3
        refine ⟨_, rfl, trivial, ?_, rfl⟩
        show some (Value.int ((Int32.ofNat r <<< (Int32.ofInt 6 &&& 31)) + lwV (zJ A' (rv_ (zfl A' q (kfd fl_X1 13 (zkd A' q)))) (Int32.ofNat r).toNatClampNeg &&& (Int64.ofInt (-1) <<< ((Int32.ofNat F &&& Int32.ofInt 63).toInt64 &&& 63))))) = some (.int (Int32.ofNat S))
        rw [eR, ans (fun z => h3 (lg_cmp_0.mpr z))]
  · obtain ⟨q, x, S⟩ := a
    obtain ⟨hB, ⟨x0, x1⟩, hS, hb, hn⟩ := hp
    have hS : S < 4096 := hS
    have x0 : -1 ≤ x.toInt := x0
    have x1 : x.toInt < (S : Int) := x1
    have e1 : (Int32.ofInt 1).toInt = 1 := by decide
    obtain ⟨F, hF⟩ : ∃ F : Nat, F = (x.toInt + 1).toNat := ⟨_, rfl⟩
    have ex : x + Int32.ofInt 1 = Int32.ofNat F := Int32.toInt_inj.mp (by
      rw [i_add (by omega) (by omega), e1, n32_t (by omega)]
      omega)
    have tF := n32_t (show F < 4096 by omega)
    refine ⟨fun h => ?_, fun h => ?_⟩
    · have h : 0 ≤ (x + Int32.ofInt 1).toInt := h
      show in_zaf A q (x.toInt + 1).toNat S _ _ _
      rw [← hF]
      refine ⟨F / 64, ⟨?_, ?_, rfl, trivial⟩, rfl, rfl, Nat.le_refl _, (show F / 64 ≤ S / 64 by omega)⟩
      · show some (false, Value.int ((x + Int32.ofInt 1) >>> (Int32.ofInt 6 &&& 31))) = some (false, .int (Int32.ofNat (F / 64)))
        rw [ex, i32_s6 F (by omega)]
      · show some (false, Value.int (x + Int32.ofInt 1)) = some (false, .int (Int32.ofNat F))
        rw [ex]
    · have h : ¬ 0 ≤ (x + Int32.ofInt 1).toInt := h
      rw [ex, tF] at h
      omega
