/-! entries, over places: the class's -/
theorem fo_X2 : f_ok5 fl_X2 pl_X2 nw_X2 kl_X2 il_X2 = true := by decide +kernel
theorem fo_X4 : f_ok5 fl_X4 pI_X4 nw_X4 kl_X4 il_X4 = true := by decide +kernel
set_option maxRecDepth 20000 in
theorem zc_d {q k : Nat} (h : 385 ≤ q) : zc q k = 0 := by
  by_cases hz : zc q k = 0
  · exact hz
  · have := (zc_lt hz).1
    omega
theorem zkd_d {A : zW} {q : Nat} (h : 385 ≤ q) : zkd A q = (zK A q).1 := by
  unfold zkd
  rw [nltF h]
  rfl
theorem zfl_d {A : zW} {q k : Nat} (h : 385 ≤ q) : zfl A q k = zF A q k := zcr_z (zc_d h)
/-- a whole row written -/
def zsI (A : zW) (q : Nat) (f : Nat → Int32) : zW := (fun j x => bif Nat.beq j q then f x else zI A j x, A.2)
def zsJ (A : zW) (q : Nat) (f : Nat → Int64) : zW := (A.1, fun j x => bif Nat.beq j q then f x else zJ A j x, A.2.2)
theorem zsI_at {A : zW} {q x : Nat} {f : Nat → Int32} : zI (zsI A q f) q x = f x := by
  show (bif Nat.beq q q then f x else zI A q x) = f x
  rw [nbT]
  rfl
theorem zsJ_at {A : zW} {q x : Nat} {f : Nat → Int64} : zJ (zsJ A q f) q x = f x := by
  show (bif Nat.beq q q then f x else zJ A q x) = f x
  rw [nbT]
  rfl
theorem zsI_ne {A : zW} {q j x : Nat} {f : Nat → Int32} (h : j ≠ q) : zI (zsI A q f) j x = zI A j x := by
  show (bif Nat.beq j q then f x else zI A j x) = _
  rw [nbF h]
  rfl
theorem zsJ_ne {A : zW} {q j x : Nat} {f : Nat → Int64} (h : j ≠ q) : zJ (zsJ A q f) j x = zJ A j x := by
  show (bif Nat.beq j q then f x else zJ A j x) = _
  rw [nbF h]
  rfl
theorem zsI_self {A : zW} {q : Nat} {f : Nat → Int32} (h : ∀ x, f x = zI A q x) : zsI A q f = A := by
  refine Prod.ext (funext fun j => funext fun x => ?_) rfl
  show (bif Nat.beq j q then f x else zI A j x) = zI A j x
  by_cases e : j = q
  · rw [e, nbT]
    exact h x
  · rw [nbF e]
    rfl
theorem zsJ_self {A : zW} {q : Nat} {f : Nat → Int64} (h : ∀ x, f x = zJ A q x) : zsJ A q f = A := by
  refine Prod.ext rfl (Prod.ext (funext fun j => funext fun x => ?_) rfl)
  show (bif Nat.beq j q then f x else zJ A j x) = zJ A j x
  by_cases e : j = q
  · rw [e, nbT]
    exact h x
  · rw [nbF e]
    rfl
theorem zuI_zsI {A : zW} {q i : Nat} {f g : Nat → Int32} {v : Int32} (h : ∀ x, g x = if x = i then v else f x) : zuI (zsI A q f) q i v = zsI A q g := by
  refine Prod.ext (funext fun j => funext fun x => ?_) rfl
  show (bif Nat.beq j q && Nat.beq x i then v else (bif Nat.beq j q then f x else zI A j x)) = (bif Nat.beq j q then g x else zI A j x)
  cases hb : Nat.beq j q with
  | false => rfl
  | true =>
    show (bif Nat.beq x i then v else f x) = g x
    rw [h]
    by_cases e : x = i
    · rw [e, nbT, if_pos rfl]
      rfl
    · rw [nbF e, if_neg e]
      rfl
theorem zuJ_zsJ {A : zW} {q i : Nat} {f g : Nat → Int64} {v : Int64} (h : ∀ x, g x = if x = i then v else f x) : zuJ (zsJ A q f) q i v = zsJ A q g := by
  refine Prod.ext rfl (Prod.ext (funext fun j => funext fun x => ?_) rfl)
  show (bif Nat.beq j q && Nat.beq x i then v else (bif Nat.beq j q then f x else zJ A j x)) = (bif Nat.beq j q then g x else zJ A j x)
  cases hb : Nat.beq j q with
  | false => rfl
  | true =>
    show (bif Nat.beq x i then v else f x) = g x
    rw [h]
    by_cases e : x = i
    · rw [e, nbT, if_pos rfl]
      rfl
    · rw [nbF e, if_neg e]
      rfl
theorem zsI_ext {A : zW} {q : Nat} {f g : Nat → Int32} (h : ∀ x, f x = g x) : zsI A q f = zsI A q g := by
  rw [show f = g from funext h]
theorem zsJ_ext {A : zW} {q : Nat} {f g : Nat → Int64} (h : ∀ x, f x = g x) : zsJ A q f = zsJ A q g := by
  rw [show f = g from funext h]
/-- sets of bits: their place, their rows' -/
def zkT (q : Nat) : Nat := zn zt_k (zn lp_sh q)
theorem zkd_b {A : zW} {q : Nat} (h : q < 385) : zkd A q = zkT q := by
  unfold zkd
  rw [nltT h]
  rfl
def zB (q n : Nat) : Bool := decide (q + 1 < 385) && (decide (zc q 0 = q + 1) && (decide (zkT q = 1) && decide (zkT (q + 1) = n)))
theorem zB_at {q n : Nat} (h : zB q n = true) (A : zW) : zfl A q 0 = .ref (q + 1) ∧ zkd A q = 1 ∧ zkd A (q + 1) = n := by
  unfold zB at h
  rw [Bool.and_eq_true, Bool.and_eq_true, Bool.and_eq_true] at h
  obtain ⟨h1, h2, h3, h4⟩ := h
  have h1 := of_decide_eq_true h1
  refine ⟨?_, by rw [zkd_b (by omega)]; exact of_decide_eq_true h3, by rw [zkd_b h1]; exact of_decide_eq_true h4⟩
  unfold zfl
  rw [of_decide_eq_true h2]
  exact zcr_s (by omega)
theorem zB_sn : (List.range 60).all (fun i => zB (2 + 2 * i) 4) = true := by decide +kernel
theorem zB_s {i : Nat} (h : i < 60) : zB (2 + 2 * i) 4 = true := List.all_eq_true.mp zB_sn i (List.mem_range.mpr h)
theorem e32_4 : (Int32.ofNat 4).toInt = 4 := by decide
/-- whether a world is in a set -/
def zhW (f : Nat → Int64) (k : Nat) : Bool := hbB (f (k / 64)) (Int32.ofNat (k % 64))
def zq_has : zQ := zpu (fun a : Nat × Int32 => [.ref a.1, .int a.2]) (fun a _ => zB a.1 4 = true ∧ 0 ≤ a.2.toInt ∧ a.2.toInt < 256) (fun a A => .int (zb (zhW (zJ A (a.1 + 1)) a.2.toInt.toNat)))
set_option maxRecDepth 20000 in
set_option maxHeartbeats 4000000 in
theorem za_X1_has : zdo r_X1_has zq_has := by
  refine zdo_pu [] (fun _ _ => []) 60 fo_X1 rfl zs_nil k_X1_has (fun _ _ _ => no_zh) (fun a A hp => ?_)
  obtain ⟨q, k⟩ := a
  obtain ⟨hB, k0, k1⟩ := hp
  have k0 : 0 ≤ k.toInt := k0
  have k1 : k.toInt < 256 := k1
  obtain ⟨b1, b2, b3⟩ := zB_at hB A
  have ek : k = Int32.ofNat k.toInt.toNat := n32_of (by omega)
  obtain ⟨q1, -, q3, -⟩ := wd_n k.toInt.toNat (by omega)
  rw [← ek] at q1 q3
  have g : zfl A q (kfd fl_X1 13 (zkd A q)) = .ref (q + 1) := by
    rw [b2]
    exact b1
  have el : (Int32.ofNat (zkd A (rv_ (zfl A q (kfd fl_X1 13 (zkd A q)))))).toInt = 4 := by
    rw [g]
    show (Int32.ofNat (zkd A (q + 1))).toInt = 4
    rw [b3]
    exact e32_4
  have eu : zJ A (rv_ (zfl A q (kfd fl_X1 13 (zkd A q)))) (k >>> (Int32.ofInt 6 &&& 31)).toNatClampNeg = zJ A (q + 1) (k.toInt.toNat / 64) := by
    rw [g]
    show zJ A (q + 1) (k >>> (Int32.ofInt 6 &&& 31)).toInt.toNat = _
    rw [q1]
    rfl
  refine ⟨fun h1 => ?_, fun h1 => ⟨fun h2 => ?_, fun h2 => ⟨fun h3 => ?_, fun h3 => ?_⟩⟩⟩
  · have h1 : (k >>> (Int32.ofInt 6 &&& 31)).toInt < 0 := h1
    rw [q1] at h1
    omega
  · have h2 : (Int32.ofNat (zkd A (rv_ (zfl A q (kfd fl_X1 13 (zkd A q)))))).toInt ≤ (k >>> (Int32.ofInt 6 &&& 31)).toInt := h2
    rw [el, q1] at h2
    omega
  · have h3 : ck_cm .ne (lg_cmp (us_ (zJ A (rv_ (zfl A q (kfd fl_X1 13 (zkd A q)))) (k >>> (Int32.ofInt 6 &&& 31)).toNatClampNeg) (k &&& Int32.ofInt 63) &&& Int64.ofNat 1) (Int64.ofNat 1)).toInt 0 := h3
    rw [eu, q3] at h3
    have h3 : ¬ hb (zJ A (q + 1) (k.toInt.toNat / 64)) (Int32.ofNat (k.toInt.toNat % 64)) := ck_cm_lg.mp h3
    refine ⟨?_, rfl⟩
    show some (Value.int 0) = some (.int (zb (hbB (zJ A (q + 1) (k.toInt.toNat / 64)) (Int32.ofNat (k.toInt.toNat % 64)))))
    rw [show hbB (zJ A (q + 1) (k.toInt.toNat / 64)) (Int32.ofNat (k.toInt.toNat % 64)) = false from Bool.eq_false_iff.mpr (fun z => h3 (hbB_t.mp z))]
    rfl
  · have h3 : ¬ ck_cm .ne (lg_cmp (us_ (zJ A (rv_ (zfl A q (kfd fl_X1 13 (zkd A q)))) (k >>> (Int32.ofInt 6 &&& 31)).toNatClampNeg) (k &&& Int32.ofInt 63) &&& Int64.ofNat 1) (Int64.ofNat 1)).toInt 0 := h3
    rw [eu, q3] at h3
    have h3 : ¬ ¬ hb (zJ A (q + 1) (k.toInt.toNat / 64)) (Int32.ofNat (k.toInt.toNat % 64)) := fun z => h3 (ck_cm_lg.mpr z)
    refine ⟨?_, rfl⟩
    show some (Value.int 1) = some (.int (zb (hbB (zJ A (q + 1) (k.toInt.toNat / 64)) (Int32.ofNat (k.toInt.toNat % 64)))))
    rw [hbB_t.mpr (Classical.not_not.mp h3)]
    rfl
/-- the maker of a thing -/
def zq_Thing : zQ := zfu (fun a : Nat × Int32 × Nat × Nat => [.ref a.1, .int a.2.1]) (fun a A => 385 ≤ a.1 ∧ (zK A a.1).1 = a.2.2.1 ∧ kpd pI_X10 7 a.2.2.1 = a.2.2.2) (fun _ _ => none) (fun a A => zuF A a.1 a.2.2.2 (.int a.2.1))
set_option maxRecDepth 20000 in
theorem za_X10_init : zdo r_X10_init zq_Thing := by
  refine zdo_fu [(5, 1, fun _ A K => K none A)] (fun _ _ => []) 40 fo_X10 rfl (zs_cons rfl z_nop zs_nil) k_X10_init (fun _ _ _ => no_zh) (fun a A hp => ?_)
  obtain ⟨p, n, ci, k⟩ := a
  obtain ⟨hp, hc, hk⟩ := hp
  have hp : 385 ≤ p := hp
  refine ⟨zc_d hp, rfl, ?_⟩
  show zuF A p (kpd pI_X10 7 (zkd A p)) (.int n) = zuF A p k (.int n)
  rw [zkd_d hp, hc, hk]
def zent (A : zW) (p : Nat) (n s u f t k : Int32) : zW := zuF (zuF (zuF (zuF (zuF (zuF (zuF A p 0 (.int n)) p 1 (.int s)) p 2 (.int u)) p 3 (.int f)) p 4 (.int t)) p 5 (.int k)) p 6 (.int (Int32.ofInt (-9)))
def zq_Entry : zQ := zfu (fun a : Nat × Int32 × Int32 × Int32 × Int32 × Int32 × Int32 => [.ref a.1, .int a.2.1, .int a.2.2.1, .int a.2.2.2.1, .int a.2.2.2.2.1, .int a.2.2.2.2.2.1, .int a.2.2.2.2.2.2]) (fun a A => 385 ≤ a.1 ∧ (zK A a.1).1 = 4) (fun _ _ => none) (fun a A => zent A a.1 a.2.1 a.2.2.1 a.2.2.2.1 a.2.2.2.2.1 a.2.2.2.2.2.1 a.2.2.2.2.2.2)
set_option maxRecDepth 20000 in
set_option maxHeartbeats 4000000 in
theorem za_X4_init : zdo r_X4_init zq_Entry := by
  refine zdo_fu [(11, 2, zq_Thing)] (fun _ _ => []) 40 fo_X4 rfl (zs_cons rfl za_X10_init zs_nil) k_X4_init (fun _ _ _ => no_zh) (fun a A hp => ?_)
  obtain ⟨p, n, s, u, f, t, k⟩ := a
  obtain ⟨hp, hc⟩ := hp
  have hp : 385 ≤ p := hp
  have hz : zkd A p = 4 := by
    rw [zkd_d hp]
    exact hc
  refine ⟨(p, n, 4, 0), rfl, ⟨hp, hc, rfl⟩, zc_d hp, zc_d hp, zc_d hp, zc_d hp, zc_d hp, zc_d hp, rfl, ?_⟩
  show zuF (zuF (zuF (zuF (zuF (zuF (zuF A p 0 (.int n)) p (kpd pI_X4 9 (zkd A p)) (.int s)) p (kpd pI_X4 15 (zkd A p)) (.int u)) p (kpd pI_X4 18 (zkd A p)) (.int f)) p (kpd pI_X4 21 (zkd A p)) (.int t)) p (kpd pI_X4 24 (zkd A p)) (.int k)) p (kpd pI_X4 27 (zkd A p)) (.int (Int32.ofInt (-9))) = zent A p n s u f t k
  rw [hz]
  rfl
/-- the book: full, and an entry kept -/
def zcE (A : zW) (n : Int32) : Prop := zF A 193 1 = .int n ∧ 0 ≤ n.toInt ∧ n.toInt ≤ 12
theorem e32_12 : (Int32.ofNat 12).toInt = 12 := by decide
theorem zc195 {e : Nat} : zc 195 e = 0 := by
  by_cases hz : zc 195 e = 0
  · exact hz
  · have h := (zc_lt hz).2
    have h2 : zc 195 e = (bif true && Nat.blt e 70 then 0 else 0) := rfl
    rw [h2]
    cases Nat.blt e 70 <;> rfl
def zq_isFullE : zQ := zpu (fun _ : Int32 => [.ref 193]) (fun n A => zcE A n) (fun n _ => .int (zb (decide ¬ n.toInt < 12)))
set_option maxRecDepth 20000 in
theorem za_X2_isFull : zdo r_X2_isFull zq_isFullE := by
  refine zdo_pu [] (fun _ _ => []) 40 fo_X2 rfl zs_nil k_X2_isFull (fun _ _ _ => no_zh) (fun n A hp => ?_)
  obtain ⟨hn, n0, n1⟩ := hp
  have e := e32_12
  refine ⟨fun h => ?_, fun h => ?_⟩
  · have h : (iv (zF A 193 1)).toInt < (Int32.ofNat 12).toInt := h
    rw [hn] at h
    have h : n.toInt < (Int32.ofNat 12).toInt := h
    exact ⟨zbf (by omega), rfl⟩
  · have h : ¬ (iv (zF A 193 1)).toInt < (Int32.ofNat 12).toInt := h
    rw [hn] at h
    have h : ¬ n.toInt < (Int32.ofNat 12).toInt := h
    exact ⟨zbt (by omega), rfl⟩
/-- what is true in a world, with one entry more -/
def ztr (A : zW) (b : Nat) (m : Nat) (w : Nat) : Int32 := if w < m ∧ zhW (zJ A (b + 1)) w = true then zI A 196 w ||| (Int32.ofInt 1 <<< (iv (zF A 193 1) &&& 31)) else zI A 196 w
def zkp (A : zW) (p b : Nat) : zW := zuF (zuR (zsI A 196 (ztr A b 256)) 195 (iv (zF A 193 1)).toNatClampNeg (.ref p)) 193 1 (.int (iv (zF A 193 1) + Int32.ofInt 1))
def zq_keepE : zQ := zfu (fun a : Nat × Nat × Int32 × Int32 => [.ref 193, .ref a.1, .ref a.2.1]) (fun a A => zcE A a.2.2.1 ∧ a.2.2.1.toInt < 12 ∧ 385 ≤ a.1 ∧ (zK A a.1).1 = 4 ∧ zF A a.1 0 = .int a.2.2.2 ∧ zB a.2.1 4 = true) (fun a _ => some (.int a.2.2.2)) (fun a A => zkp A a.1 a.2.1)
def in_z17 (A : zW) (p b : Nat) : fL_ → List Value → zW → Prop := fun lg vs A' => ∃ i : Int32, f_sub [(3, false, .int i), (0, false, .ref 193), (1, false, .ref p), (2, false, .ref b)] lg ∧ vs = [] ∧ A' = zsI A 196 (ztr A b i.toInt.toNat) ∧ 0 ≤ i.toInt ∧ i.toInt ≤ 256
set_option maxRecDepth 20000 in
set_option maxHeartbeats 4000000 in
theorem za_X2_keep : zdo r_X2_keep zq_keepE := by
  refine zdo_fu [(183, 2, zq_has)] (fun a A => [(17, in_z17 A a.1 a.2.1)]) 60 fo_X2 rfl (zs_cons rfl za_X1_has zs_nil) k_X2_keep (fun a A hp => ?_) (fun a A hp => ?_)
  · obtain ⟨p, b, n, m⟩ := a
    obtain ⟨⟨hn, n0, n1⟩, n2, hp, hc, hm, hB⟩ := hp
    have hp : 385 ≤ p := hp
    have hn : zF A 193 1 = .int n := hn
    have hm : zF A p 0 = .int m := hm
    have hB : zB b 4 = true := hB
    have hp1 : b + 1 < 385 := by
      unfold zB at hB
      rw [Bool.and_eq_true] at hB
      exact of_decide_eq_true hB.1
    have hb196 : b + 1 ≠ 196 := fun z => by
      have h3 : b = 195 := by omega
      rw [h3] at hB
      exact absurd hB (by decide)
    refine List.forall_mem_cons.mpr ⟨?_, fun _ h => absurd h List.not_mem_nil⟩
    rintro lg vs A' ⟨i, hs, rfl, rfl, i0, i1⟩
    have e256 : (Int32.ofInt 256).toInt = 256 := by decide
    refine ⟨_, 60, hs, fun h => ?_, fun h => ?_⟩
    · have h : (Int32.ofInt 256).toInt ≤ i.toInt := h
      have ei : i.toInt.toNat = 256 := by omega
      rw [ei]
      refine ⟨zc195, rfl, ?_, ?_⟩
      · have hc : (zK A p).1 = 4 := hc
        have h1 : zF (zkp A p b) p 0 = zF A p 0 := zuF_ne (by omega)
        show some (zfl (zkp A p b) p (kfd fl_X2 65 (zkd A p))) = some (.int m)
        rw [zkd_d hp, hc, zfl_d hp]
        show some (zF (zkp A p b) p 0) = _
        rw [h1, hm]
      · rfl
    · have h : ¬ (Int32.ofInt 256).toInt ≤ i.toInt := h
      refine ⟨(b, i), rfl, ⟨hB, i0, by show i.toInt < 256; omega⟩, ?_⟩
      have hi1 := i_inc i0 (by omega)
      have hJ : zJ (zsI A 196 (ztr A b i.toInt.toNat)) (b + 1) = zJ A (b + 1) := rfl
      refine ⟨fun h2 => ?_, fun h2 => ?_⟩
      · have h2 : (zb (zhW (zJ A (b + 1)) i.toInt.toNat)).toInt = 0 := h2
        have h2 : zhW (zJ A (b + 1)) i.toInt.toNat = false := by
          cases hh : zhW (zJ A (b + 1)) i.toInt.toNat with
          | false => rfl
          | true =>
            rw [hh] at h2
            exact absurd h2 (by decide)
        refine ⟨i + 1, ⟨rfl, rfl, rfl, rfl, trivial⟩, rfl, zsI_ext (fun w => ?_), by omega, by omega⟩
        unfold ztr
        by_cases hw : w < i.toInt.toNat
        · by_cases hx : zhW (zJ A (b + 1)) w = true
          · rw [if_pos ⟨hw, hx⟩, if_pos ⟨by omega, hx⟩]
          · rw [if_neg (fun z => hx z.2), if_neg (fun z => hx z.2)]
        · rw [if_neg (fun z => hw z.1)]
          by_cases ew : w = i.toInt.toNat
          · rw [ew, h2, if_neg (fun z => by cases z.2)]
          · rw [if_neg (fun z => by omega)]
      · have h2 : ¬ (zb (zhW (zJ A (b + 1)) i.toInt.toNat)).toInt = 0 := h2
        have h2 : zhW (zJ A (b + 1)) i.toInt.toNat = true := by
          cases hh : zhW (zJ A (b + 1)) i.toInt.toNat with
          | true => rfl
          | false =>
            rw [hh] at h2
            exact absurd (by decide) h2
        refine ⟨i + 1, ⟨rfl, rfl, rfl, rfl, trivial⟩, rfl, zuI_zsI (fun w => ?_), by omega, by omega⟩
        show ztr A b (i + 1).toInt.toNat w = if w = i.toInt.toNat then zI (zsI A 196 (ztr A b i.toInt.toNat)) 196 i.toInt.toNat ||| (Int32.ofInt 1 <<< (iv (zF A 193 1) &&& 31)) else ztr A b i.toInt.toNat w
        rw [zsI_at]
        unfold ztr
        by_cases ew : w = i.toInt.toNat
        · rw [if_pos ew, ew, if_pos ⟨by omega, h2⟩, if_neg (fun z => by omega)]
        · rw [if_neg ew]
          by_cases hw : w < i.toInt.toNat
          · by_cases hx : zhW (zJ A (b + 1)) w = true
            · rw [if_pos ⟨by omega, hx⟩, if_pos ⟨hw, hx⟩]
            · rw [if_neg (fun z => hx z.2), if_neg (fun z => hx z.2)]
          · rw [if_neg (fun z => by omega), if_neg (fun z => hw z.1)]
  · obtain ⟨p, b, n, m⟩ := a
    obtain ⟨⟨hn, n0, n1⟩, n2, hp, hc, hm, hB⟩ := hp
    have e := e32_12
    have n2 : n.toInt < 12 := n2
    have hn : zF A 193 1 = .int n := hn
    refine ⟨fun h => ?_, fun h => ?_⟩
    · refine ⟨0, ⟨rfl, rfl, rfl, rfl, trivial⟩, rfl, (zsI_self (fun w => ?_)).symm, by decide, by decide⟩
      unfold ztr
      rw [if_neg (fun z => absurd z.1 (Nat.not_lt_zero w))]
    · have h : ¬ (iv (zF A 193 1)).toInt < (Int32.ofNat 12).toInt := h
      rw [hn] at h
      have h : ¬ n.toInt < (Int32.ofNat 12).toInt := h
      omega
