/-! sets of bits, over places: become, turn, none there -/
theorem zA.setJ {A : zW} {ws : va_W} {sh : List Nat} {q p n : Nat} {cA : ClassId} {f g : Nat → Int64} (h : zA A ws sh) (hq : ws[q]? = some (p, .inl (cA, n, .inr (.inl f)))) : zA (zsJ A q g) (ws.set q (p, .inl (cA, n, .inr (.inl g)))) sh := by
  refine h.put hq rfl (fun _ => rfl) (fun _ _ _ => rfl) (fun j i hj => zsJ_ne hj) (fun _ _ _ => rfl) (fun _ _ _ => rfl) ?_
  obtain ⟨-, h1, h2⟩ := h.2.2 q p _ hq
  exact ⟨h1, fun i => zsJ_at⟩
def zq_cpl : zQ := fun Us A K => ∃ (a0 a1 : Nat) (sp dp n : Int32), Us = [.ref a0, .int sp, .ref a1, .int dp, .int n] ∧ K none (zsJ A a1 (va_cpy (zJ A a0) (zJ A a1) sp.toNatClampNeg dp.toNatClampNeg n.toNatClampNeg))
theorem z_cpl : zdo f_cpl zq_cpl := by
  intro As ws sh rv ws' sh' hx
  obtain ⟨a0, a1, sp, dp, n, q0, q1, n0, n1, c0, c1, f, g, rfl, h0, h1, rfl, rfl, rfl⟩ := hx
  refine ⟨zx_set h1, fun A Us K hA hv hK => ?_⟩
  obtain ⟨b0, b1, sp', dp', n', rfl, hK⟩ := hK
  obtain ⟨v1, v2, v3, v4, v5, -⟩ := hv
  have e2 : sp' = sp := by
    have h := v2.int
    injection h
  have e4 : dp' = dp := by
    have h := v4.int
    injection h
  have e5 : n' = n := by
    have h := v5.int
    injection h
  subst e2
  subst e4
  subst e5
  obtain ⟨p0, e0, z0, y0⟩ := v1
  injection z0 with z0
  subst z0
  obtain ⟨p1, e1, z1, y1⟩ := v3
  injection z1 with z1
  subst z1
  have i0 := hA.at_ h0 y0
  subst i0
  have i1 := hA.at_ h1 y1
  subst i1
  have g0 : zJ A b0 = f := funext fun i => (hA.2.2 b0 _ _ h0).2.2 i
  have g1 : zJ A b1 = g := funext fun i => (hA.2.2 b1 _ _ h1).2.2 i
  rw [g0, g1] at hK
  exact ⟨_, none, hA.setJ h1, trivial, hK⟩
def zq_min : zQ := zpu (fun a : Int32 × Int32 => [.int a.1, .int a.2]) (fun _ _ => True) (fun a _ => .int (if a.1.toInt ≤ a.2.toInt then a.1 else a.2))
set_option maxRecDepth 20000 in
theorem za_J9_min : zdo r_J9_min_7cf53 zq_min := by
  refine zdo_pu [] (fun _ _ => []) 40 fo_J9 rfl zs_nil k_J9_min_7cf53 (fun _ _ _ => no_zh) (fun a A _ => ?_)
  obtain ⟨x, y⟩ := a
  refine ⟨fun h => ?_, fun h => ?_⟩
  · have h : y.toInt < x.toInt := h
    refine ⟨?_, rfl⟩
    show some (Value.int y) = some (.int (if x.toInt ≤ y.toInt then x else y))
    rw [if_neg (by omega)]
  · have h : ¬ y.toInt < x.toInt := h
    refine ⟨?_, rfl⟩
    show some (Value.int x) = some (.int (if x.toInt ≤ y.toInt then x else y))
    rw [if_pos (by omega)]
theorem zB_lt {q n : Nat} (h : zB q n = true) : q + 1 < 385 := by
  unfold zB at h
  rw [Bool.and_eq_true] at h
  exact of_decide_eq_true h.1
theorem zB_f {q n : Nat} (h : zB q n = true) (A : zW) : zfl A q (kfd fl_X1 13 (zkd A q)) = .ref (q + 1) := by
  obtain ⟨b1, b2, -⟩ := zB_at h A
  rw [b2]
  exact b1
theorem zB_l {q n : Nat} (h : zB q n = true) (A : zW) : zkd A (rv_ (zfl A q (kfd fl_X1 13 (zkd A q)))) = n := by
  rw [zB_f h]
  exact (zB_at h A).2.2
theorem e32N {n : Nat} (h : n ≤ 64) : (Int32.ofNat n).toInt = n := Int32.toInt_ofNat_of_lt (by omega)
/-- the words of another set come -/
def zbe (A : zW) (q p n : Nat) : zW := zsJ A (q + 1) (fun x => if x < n then zJ A (p + 1) x else zJ A (q + 1) x)
def zq_become : zQ := zfu (fun a : Nat × Nat × Nat => [.ref a.1, .ref a.2.1]) (fun a _ => zB a.1 a.2.2 = true ∧ zB a.2.1 a.2.2 = true ∧ a.2.2 ≤ 64) (fun _ _ => none) (fun a A => zbe A a.1 a.2.1 a.2.2)
set_option maxRecDepth 20000 in
set_option maxHeartbeats 4000000 in
theorem za_X1_become : zdo r_X1_become zq_become := by
  refine zdo_fu [(91, 2, zq_min), (100, 5, zq_cpl)] (fun _ _ => []) 60 fo_X1 rfl (zs_cons rfl za_J9_min (zs_cons rfl z_cpl zs_nil)) k_X1_become (fun _ _ _ => no_zh) (fun a A hp => ?_)
  obtain ⟨q, p, n⟩ := a
  obtain ⟨h1, h2, hn⟩ := hp
  have h1 : zB q n = true := h1
  have h2 : zB p n = true := h2
  have hn : n ≤ 64 := hn
  refine ⟨(Int32.ofNat (zkd A (rv_ (zfl A q (kfd fl_X1 13 (zkd A q))))), Int32.ofNat (zkd A (rv_ (zfl A p (kfd fl_X1 13 (zkd A p)))))), rfl, trivial, ?_⟩
  refine ⟨p + 1, q + 1, 0, 0, Int32.ofNat n, ?_, rfl, ?_⟩
  · show [zfl A p (kfd fl_X1 13 (zkd A p)), Value.int 0, zfl A q (kfd fl_X1 13 (zkd A q)), Value.int 0, .int (if (Int32.ofNat (zkd A (rv_ (zfl A q (kfd fl_X1 13 (zkd A q)))))).toInt ≤ (Int32.ofNat (zkd A (rv_ (zfl A p (kfd fl_X1 13 (zkd A p)))))).toInt then Int32.ofNat (zkd A (rv_ (zfl A q (kfd fl_X1 13 (zkd A q))))) else Int32.ofNat (zkd A (rv_ (zfl A p (kfd fl_X1 13 (zkd A p))))))] = _
    rw [zB_l h1, zB_l h2, zB_f h1, zB_f h2, if_pos (Int.le_refl _)]
  · show zsJ A (q + 1) (va_cpy (zJ A (p + 1)) (zJ A (q + 1)) (0 : Int32).toNatClampNeg (0 : Int32).toNatClampNeg (Int32.ofNat n).toNatClampNeg) = zbe A q p n
    refine zsJ_ext (fun x => ?_)
    have e : (Int32.ofNat n).toNatClampNeg = n := by
      show (Int32.ofNat n).toInt.toNat = n
      rw [e32N hn]
      rfl
    rw [e]
    show va_cpy (zJ A (p + 1)) (zJ A (q + 1)) 0 0 n x = _
    unfold va_cpy
    by_cases hx : x < n
    · rw [if_pos hx, if_pos (by omega)]
      exact congrArg _ (by omega)
    · rw [if_neg hx, if_neg (by omega)]
/-- each word turned -/
def ztn (A : zW) (q n : Nat) : zW := zsJ A (q + 1) (fun x => if x < n then o_turn (zJ A (q + 1) x) else zJ A (q + 1) x)
def zq_turn : zQ := zfu (fun a : Nat × Nat => [.ref a.1]) (fun a _ => zB a.1 a.2 = true ∧ a.2 ≤ 64) (fun _ _ => none) (fun a A => ztn A a.1 a.2)
def in_ztn (A : zW) (q n : Nat) : fL_ → List Value → zW → Prop := fun lg vs A' => ∃ t : Int32, f_sub [(1, false, .int t), (0, false, .ref q)] lg ∧ vs = [] ∧ A' = zsJ A (q + 1) (fun x => if x < t.toInt.toNat then o_turn (zJ A (q + 1) x) else zJ A (q + 1) x) ∧ 0 ≤ t.toInt ∧ t.toInt ≤ n
set_option maxRecDepth 20000 in
set_option maxHeartbeats 4000000 in
theorem za_X1_turn : zdo r_X1_turn zq_turn := by
  refine zdo_fu [] (fun a A => [(2, in_ztn A a.1 a.2)]) 60 fo_X1 rfl zs_nil k_X1_turn (fun a A hp => ?_) (fun a A hp => ?_)
  · obtain ⟨q, n⟩ := a
    obtain ⟨hB, hn⟩ := hp
    have hB : zB q n = true := hB
    have hn : n ≤ 64 := hn
    refine List.forall_mem_cons.mpr ⟨?_, fun _ h => absurd h List.not_mem_nil⟩
    rintro lg vs A' ⟨t, hs, rfl, rfl, t0, t1⟩
    have t1 : t.toInt ≤ (n : Int) := t1
    have g := zB_f hB (zsJ A (q + 1) (fun x => if x < t.toInt.toNat then o_turn (zJ A (q + 1) x) else zJ A (q + 1) x))
    have l := zB_l hB (zsJ A (q + 1) (fun x => if x < t.toInt.toNat then o_turn (zJ A (q + 1) x) else zJ A (q + 1) x))
    have en := e32N hn
    refine ⟨_, 60, hs, fun h => ?_, fun h => ?_⟩
    · have h : (Int32.ofNat (zkd (zsJ A (q + 1) (fun x => if x < t.toInt.toNat then o_turn (zJ A (q + 1) x) else zJ A (q + 1) x)) (rv_ (zfl (zsJ A (q + 1) (fun x => if x < t.toInt.toNat then o_turn (zJ A (q + 1) x) else zJ A (q + 1) x)) q (kfd fl_X1 13 (zkd (zsJ A (q + 1) (fun x => if x < t.toInt.toNat then o_turn (zJ A (q + 1) x) else zJ A (q + 1) x)) q)))))).toInt ≤ t.toInt := h
      rw [l, en] at h
      refine ⟨rfl, zsJ_ext (fun x => ?_)⟩
      show (if x < t.toInt.toNat then o_turn (zJ A (q + 1) x) else zJ A (q + 1) x) = if x < n then o_turn (zJ A (q + 1) x) else zJ A (q + 1) x
      rw [show t.toInt.toNat = n by omega]
    · have h : ¬ (Int32.ofNat (zkd (zsJ A (q + 1) (fun x => if x < t.toInt.toNat then o_turn (zJ A (q + 1) x) else zJ A (q + 1) x)) (rv_ (zfl (zsJ A (q + 1) (fun x => if x < t.toInt.toNat then o_turn (zJ A (q + 1) x) else zJ A (q + 1) x)) q (kfd fl_X1 13 (zkd (zsJ A (q + 1) (fun x => if x < t.toInt.toNat then o_turn (zJ A (q + 1) x) else zJ A (q + 1) x)) q)))))).toInt ≤ t.toInt := h
      rw [l, en] at h
      have hi := i_inc t0 (by omega)
      refine ⟨t + 1, ⟨rfl, rfl, trivial⟩, rfl, ?_, by omega, by omega⟩
      show zuJ (zsJ A (q + 1) (fun x => if x < t.toInt.toNat then o_turn (zJ A (q + 1) x) else zJ A (q + 1) x)) (rv_ (zfl (zsJ A (q + 1) (fun x => if x < t.toInt.toNat then o_turn (zJ A (q + 1) x) else zJ A (q + 1) x)) q (kfd fl_X1 13 (zkd (zsJ A (q + 1) (fun x => if x < t.toInt.toNat then o_turn (zJ A (q + 1) x) else zJ A (q + 1) x)) q)))) t.toInt.toNat (o_turn (zJ (zsJ A (q + 1) (fun x => if x < t.toInt.toNat then o_turn (zJ A (q + 1) x) else zJ A (q + 1) x)) (rv_ (zfl (zsJ A (q + 1) (fun x => if x < t.toInt.toNat then o_turn (zJ A (q + 1) x) else zJ A (q + 1) x)) q (kfd fl_X1 13 (zkd (zsJ A (q + 1) (fun x => if x < t.toInt.toNat then o_turn (zJ A (q + 1) x) else zJ A (q + 1) x)) q)))) t.toInt.toNat)) = _
      rw [g]
      refine zuJ_zsJ (fun x => ?_)
      show _ = if x = t.toInt.toNat then o_turn (zJ (zsJ A (q + 1) _) (q + 1) t.toInt.toNat) else _
      rw [zsJ_at, if_neg (Nat.lt_irrefl _)]
      by_cases ex : x = t.toInt.toNat
      · rw [if_pos ex, ex, if_pos (by omega)]
      · rw [if_neg ex]
        by_cases hx : x < t.toInt.toNat
        · rw [if_pos hx, if_pos (by omega)]
        · rw [if_neg hx, if_neg (by omega)]
  · refine ⟨0, ⟨rfl, rfl, trivial⟩, rfl, (zsJ_self (fun x => ?_)).symm, by decide, ?_⟩
    · rw [if_neg (show ¬ x < (0 : Int32).toInt.toNat from fun z => absurd z (Nat.not_lt_zero x))]
    · have e0 : (0 : Int32).toInt = 0 := by decide
      rw [e0]
      omega
/-- no word has a bit -/
def zzB (f : Nat → Int64) (n : Nat) : Bool := (List.range n).all (fun x => decide ((f x).toInt = (Int64.ofNat 0).toInt))
theorem zzB_t {f : Nat → Int64} {n : Nat} : zzB f n = true ↔ ∀ x, x < n → (f x).toInt = (Int64.ofNat 0).toInt := by
  unfold zzB
  rw [List.all_eq_true]
  exact ⟨fun h x hx => of_decide_eq_true (h x (List.mem_range.mpr hx)), fun h x hx => decide_eq_true (h x (List.mem_range.mp hx))⟩
theorem zzB_f {f : Nat → Int64} {n x : Nat} (hx : x < n) (h : ¬ (f x).toInt = (Int64.ofNat 0).toInt) : zzB f n = false := by
  cases hb : zzB f n with
  | false => rfl
  | true => exact absurd (zzB_t.mp hb x hx) h
def zq_isEmpty : zQ := zpu (fun a : Nat × Nat => [.ref a.1]) (fun a _ => zB a.1 a.2 = true ∧ a.2 ≤ 64) (fun a A => .int (zb (zzB (zJ A (a.1 + 1)) a.2)))
def in_zem (A : zW) (q n : Nat) : fL_ → List Value → zW → Prop := fun lg vs A' => ∃ t : Int32, f_sub [(1, false, .int t), (0, false, .ref q)] lg ∧ vs = [] ∧ A' = A ∧ (0 ≤ t.toInt ∧ t.toInt ≤ n) ∧ ∀ x, x < t.toInt.toNat → (zJ A (q + 1) x).toInt = (Int64.ofNat 0).toInt
set_option maxRecDepth 20000 in
set_option maxHeartbeats 4000000 in
theorem za_X1_isEmpty : zdo r_X1_isEmpty zq_isEmpty := by
  refine zdo_pu [] (fun a A => [(2, in_zem A a.1 a.2)]) 60 fo_X1 rfl zs_nil k_X1_isEmpty (fun a A hp => ?_) (fun a A hp => ?_)
  · obtain ⟨q, n⟩ := a
    obtain ⟨hB, hn⟩ := hp
    have hB : zB q n = true := hB
    have hn : n ≤ 64 := hn
    refine List.forall_mem_cons.mpr ⟨?_, fun _ h => absurd h List.not_mem_nil⟩
    rintro lg vs A' ⟨t, hs, rfl, rfl, ⟨t0, t1⟩, hz⟩
    have t1 : t.toInt ≤ (n : Int) := t1
    have g := zB_f hB A'
    have l := zB_l hB A'
    have en := e32N hn
    refine ⟨_, 60, hs, fun h => ?_, fun h => ⟨fun h2 => ?_, fun h2 => ?_⟩⟩
    · have h : (Int32.ofNat (zkd A' (rv_ (zfl A' q (kfd fl_X1 13 (zkd A' q)))))).toInt ≤ t.toInt := h
      rw [l, en] at h
      refine ⟨?_, rfl⟩
      show some (Value.int 1) = some (.int (zb (zzB (zJ A' (q + 1)) n)))
      rw [zzB_t.mpr (fun x hx => hz x (by omega))]
      rfl
    · have h : ¬ (Int32.ofNat (zkd A' (rv_ (zfl A' q (kfd fl_X1 13 (zkd A' q)))))).toInt ≤ t.toInt := h
      rw [l, en] at h
      have h2 : ck_cm .eq (lg_cmp (zJ A' (rv_ (zfl A' q (kfd fl_X1 13 (zkd A' q)))) t.toInt.toNat) (Int64.ofNat 0)).toInt 0 := h2
      rw [g] at h2
      have h2 : (zJ A' (q + 1) t.toInt.toNat).toInt = (Int64.ofNat 0).toInt := ck_cm_lg.mp h2
      have hi := i_inc t0 (by omega)
      refine ⟨t + 1, ⟨rfl, rfl, trivial⟩, rfl, rfl, ⟨by omega, by show (t + 1).toInt ≤ (n : Int); omega⟩, fun x hx => ?_⟩
      by_cases ex : x = t.toInt.toNat
      · rw [ex]
        exact h2
      · exact hz x (by omega)
    · have h : ¬ (Int32.ofNat (zkd A' (rv_ (zfl A' q (kfd fl_X1 13 (zkd A' q)))))).toInt ≤ t.toInt := h
      rw [l, en] at h
      have h2 : ¬ ck_cm .eq (lg_cmp (zJ A' (rv_ (zfl A' q (kfd fl_X1 13 (zkd A' q)))) t.toInt.toNat) (Int64.ofNat 0)).toInt 0 := h2
      rw [g] at h2
      have h2 : ¬ (zJ A' (q + 1) t.toInt.toNat).toInt = (Int64.ofNat 0).toInt := fun z => h2 (ck_cm_lg.mpr z)
      refine ⟨?_, rfl⟩
      show some (Value.int 0) = some (.int (zb (zzB (zJ A' (q + 1)) n)))
      rw [zzB_f (show t.toInt.toNat < n by omega) h2]
      rfl
  · refine ⟨0, ⟨rfl, rfl, trivial⟩, rfl, rfl, ⟨by decide, ?_⟩, fun x hx => ?_⟩
    · have e0 : (0 : Int32).toInt = 0 := by decide
      rw [e0]
      omega
    · exact absurd (show x < (0 : Int32).toInt.toNat from hx) (Nat.not_lt_zero x)
/-- the reference's counts -/
def zq_countBits : zQ := zpu (fun a : Int64 => [.long a]) (fun _ _ => True) (fun a _ => .int (cbA a 64))
def in_zcb (A : zW) (a : Int64) : fL_ → List Value → zW → Prop := fun lg vs A' => ∃ t : Int32, f_sub [(3, false, .int t), (2, false, .int (cbA a t.toInt.toNat)), (0, true, .long a)] lg ∧ vs = [] ∧ A' = A ∧ 0 ≤ t.toInt ∧ t.toInt ≤ 64
set_option maxRecDepth 20000 in
set_option maxHeartbeats 4000000 in
theorem za_X12_countBits : zdo r_X12_countBits zq_countBits := by
  refine zdo_pu [] (fun a A => [(4, in_zcb A a)]) 60 fo_X12 rfl zs_nil k_X12_countBits (fun a A hp => ?_) (fun a A hp => ?_)
  · refine List.forall_mem_cons.mpr ⟨?_, fun _ h => absurd h List.not_mem_nil⟩
    rintro lg vs A' ⟨t, hs, rfl, rfl, t0, t4⟩
    have e64 : (Int32.ofInt 64).toInt = 64 := by decide
    refine ⟨_, 60, hs, fun hc => ?_, fun hc => ?_⟩
    · have hc : (Int32.ofInt 64).toInt ≤ t.toInt := hc
      rw [e64] at hc
      refine ⟨?_, rfl⟩
      show some (Value.int (cbA a t.toInt.toNat)) = some (.int (cbA a 64))
      rw [show t.toInt.toNat = 64 by omega]
    · have hc : ¬ (Int32.ofInt 64).toInt ≤ t.toInt := hc
      rw [e64] at hc
      have i0 := i_inc t0 (by omega)
      have i3 : (t + 1).toInt.toNat = t.toInt.toNat + 1 := by rw [i0]; omega
      have et : t = Int32.ofNat t.toInt.toNat := n32_of (by omega)
      refine ⟨t + 1, ⟨rfl, ?_, rfl, trivial⟩, rfl, rfl, by omega, by omega⟩
      rw [i3]
      show some (false, Value.int (cbA a t.toInt.toNat + (us_ a t &&& Int64.ofNat 1).toInt32)) = some (false, .int (cbA a t.toInt.toNat + (us_ a (Int32.ofNat t.toInt.toNat) &&& Int64.ofNat 1).toInt32))
      rw [← et]
  · exact ⟨0, ⟨rfl, rfl, rfl, trivial⟩, rfl, rfl, by decide, by decide⟩
/-- the words of the reference's sentence -/
def zsw (A : zW) (s : Nat) : Nat → Int64 := fun x => zJ A 344 (4 * s + x)
def zq_countAt : zQ := zpu (fun s : Int32 => [.ref 343, .int s]) (fun s _ => 0 ≤ s.toInt ∧ s.toInt < 60) (fun s A => .int (szA (fun v => cbA v 64) (zsw A s.toInt.toNat) 4))
def in_zca (A : zW) (s : Int32) : fL_ → List Value → zW → Prop := fun lg vs A' => ∃ t : Int32, f_sub [(3, false, .int t), (2, false, .int (szA (fun v => cbA v 64) (zsw A s.toInt.toNat) t.toInt.toNat)), (0, false, .ref 343), (1, false, .int s)] lg ∧ vs = [] ∧ A' = A ∧ 0 ≤ t.toInt ∧ t.toInt ≤ 4
set_option maxRecDepth 20000 in
set_option maxHeartbeats 4000000 in
theorem za_X12_countAt : zdo r_X12_countAt zq_countAt := by
  refine zdo_pu [(679, 1, zq_countBits)] (fun s A => [(4, in_zca A s)]) 60 fo_X12 rfl (zs_cons rfl za_X12_countBits zs_nil) k_X12_countAt (fun s A hp => ?_) (fun s A hp => ?_)
  · refine List.forall_mem_cons.mpr ⟨?_, fun _ h => absurd h List.not_mem_nil⟩
    rintro lg vs A' ⟨t, hs, rfl, rfl, t0, t4⟩
    have e4 : (Int32.ofInt 4).toInt = 4 := by decide
    refine ⟨_, 60, hs, fun hc => ?_, fun hc => ?_⟩
    · have hc : (Int32.ofInt 4).toInt ≤ t.toInt := hc
      rw [e4] at hc
      refine ⟨?_, rfl⟩
      show some (Value.int (szA (fun v => cbA v 64) (zsw A' s.toInt.toNat) t.toInt.toNat)) = some (.int (szA (fun v => cbA v 64) (zsw A' s.toInt.toNat) 4))
      rw [t_end t4 hc]
    · have hc : ¬ (Int32.ofInt 4).toInt ≤ t.toInt := hc
      rw [e4] at hc
      obtain ⟨i1, i2, i3⟩ := t_inc t0 (show t.toInt < 4 by omega)
      have eu : zJ A' 344 (Int32.ofInt 4 * s + t).toNatClampNeg = zsw A' s.toInt.toNat t.toInt.toNat := by
        show zJ A' 344 (Int32.ofInt 4 * s + t).toInt.toNat = _
        rw [four_ix hp t0 t4]
        rfl
      refine ⟨zJ A' 344 (Int32.ofInt 4 * s + t).toNatClampNeg, rfl, trivial, t + 1, ⟨rfl, ?_, rfl, rfl, trivial⟩, rfl, rfl, i1, i2⟩
      show some (false, Value.int (szA (fun v => cbA v 64) (zsw A' s.toInt.toNat) t.toInt.toNat + cbA (zJ A' 344 (Int32.ofInt 4 * s + t).toNatClampNeg) 64)) = some (false, .int (szA (fun v => cbA v 64) (zsw A' s.toInt.toNat) (t + 1).toInt.toNat))
      rw [eu, i3]
      rfl
  · exact ⟨0, ⟨rfl, rfl, rfl, rfl, trivial⟩, rfl, rfl, by decide, by decide⟩
