/-! sets of sets, over places: clear, add -/
theorem fo_J7z : f_ok5 fl_J7 pl_J7 nw_J7 kl_J7 il_J7 = true := by decide +kernel
def zfi (A : zW) (q n : Nat) (v : Int64) : zW := zsJ A q (fun x => if x < n then v else zJ A q x)
def zq_fillJ : zQ := zfu (fun a : Nat × Nat × Int64 => [.ref a.1, .long a.2.2]) (fun a A => zkd A a.1 = a.2.1 ∧ a.2.1 ≤ 64) (fun _ _ => none) (fun a A => zfi A a.1 a.2.1 a.2.2)
def in_zfi (A : zW) (q n : Nat) (v : Int64) : fL_ → List Value → zW → Prop := fun lg vs A' => ∃ t : Int32, f_sub [(3, false, .int t), (4, false, .int (Int32.ofNat n)), (0, false, .ref q), (1, true, .long v)] lg ∧ vs = [] ∧ A' = zsJ A q (fun x => if x < t.toInt.toNat then v else zJ A q x) ∧ 0 ≤ t.toInt ∧ t.toInt ≤ (n : Int)
set_option maxRecDepth 20000 in
set_option maxHeartbeats 4000000 in
theorem za_J7_fillJ : zdo r_J7_fill_d0a16 zq_fillJ := by
  refine zdo_fu [] (fun a A => [(6, in_zfi A a.1 a.2.1 a.2.2)]) 60 fo_J7z rfl zs_nil k_J7_fill_d0a16 (fun a A hp => ?_) (fun a A hp => ?_)
  · obtain ⟨q, n, v⟩ := a
    obtain ⟨hB, hn⟩ := hp
    have hn : n ≤ 64 := hn
    refine List.forall_mem_cons.mpr ⟨?_, fun _ h => absurd h List.not_mem_nil⟩
    rintro lg vs A' ⟨t, hs, rfl, rfl, t0, t1⟩
    have t1 : t.toInt ≤ (n : Int) := t1
    have en := e32N hn
    refine ⟨_, 60, hs, fun h => ?_, fun h => ?_⟩
    · have h : (Int32.ofNat n).toInt ≤ t.toInt := h
      rw [en] at h
      refine ⟨rfl, zsJ_ext (fun x => ?_)⟩
      show (if x < t.toInt.toNat then v else zJ A q x) = if x < n then v else zJ A q x
      rw [show t.toInt.toNat = n by omega]
    · have h : ¬ (Int32.ofNat n).toInt ≤ t.toInt := h
      rw [en] at h
      have hi := i_inc t0 (by omega)
      refine ⟨t + 1, ⟨rfl, rfl, rfl, rfl, trivial⟩, rfl, ?_, (show 0 ≤ (t + 1).toInt by omega), (show (t + 1).toInt ≤ (n : Int) by omega)⟩
      show zuJ (zsJ A q (fun x => if x < t.toInt.toNat then v else zJ A q x)) q t.toInt.toNat v = _
      refine zuJ_zsJ (fun x => ?_)
      show _ = if x = t.toInt.toNat then v else _
      by_cases ex : x = t.toInt.toNat
      · rw [if_pos ex, if_pos (by omega)]
      · rw [if_neg ex]
        by_cases hx : x < t.toInt.toNat
        · rw [if_pos hx, if_pos (by omega)]
        · rw [if_neg hx, if_neg (by omega)]
  · obtain ⟨q, n, v⟩ := a
    obtain ⟨hB, hn⟩ := hp
    have hB : zkd A q = n := hB
    refine ⟨0, ⟨rfl, ?_, rfl, rfl, trivial⟩, rfl, (zsJ_self (fun x => ?_)).symm, by decide, ?_⟩
    · show some (false, Value.int (Int32.ofNat (zkd A q))) = some (false, .int (Int32.ofNat n))
      rw [hB]
    · rw [if_neg (show ¬ x < (0 : Int32).toInt.toNat from fun z => absurd z (Nat.not_lt_zero x))]
    · have e0 : (0 : Int32).toInt = 0 := by decide
      rw [e0]
      omega
def zq_clear : zQ := zfu (fun a : Nat × Nat => [.ref a.1]) (fun a _ => zB a.1 a.2 = true ∧ a.2 ≤ 64) (fun _ _ => none) (fun a A => zfi A (a.1 + 1) a.2 (Int64.ofNat 0))
set_option maxRecDepth 20000 in
theorem za_X1_clear : zdo r_X1_clear zq_clear := by
  refine zdo_fu [(58, 2, zq_fillJ)] (fun _ _ => []) 40 fo_X1 rfl (zs_cons rfl za_J7_fillJ zs_nil) k_X1_clear (fun _ _ _ => no_zh) (fun a A hp => ?_)
  obtain ⟨q, n⟩ := a
  obtain ⟨hB, hn⟩ := hp
  have hB : zB q n = true := hB
  have hn : n ≤ 64 := hn
  refine ⟨(q + 1, n, Int64.ofNat 0), ?_, ⟨(zB_at hB A).2.2, hn⟩, rfl, rfl⟩
  show [zfl A q (kfd fl_X1 13 (zkd A q)), Value.long (Int64.ofNat 0)] = _
  rw [zB_f hB]
theorem zB_n {q n : Nat} (h : zB q n = true) : n ≤ 49152 := by
  have h1 : ∀ t, zn zt_k t ≤ 49152 := fun t => by
    by_cases c : t < 94
    · have h2 : (List.range 94).all (fun t => decide (zn zt_k t ≤ 49152)) = true := by decide +kernel
      exact of_decide_eq_true (List.all_eq_true.mp h2 t (List.mem_range.mpr c))
    · have h3 : ∀ (l : List Nat) (t : Nat), l.length ≤ t → zn l t = 0 := fun l => by
        induction l with
        | nil => exact fun _ _ => rfl
        | cons x l ih =>
          intro t ht
          cases t with
          | zero => exact absurd ht (Nat.not_succ_le_zero _)
          | succ t => exact ih t (Nat.le_of_succ_le_succ ht)
      rw [h3 zt_k t (by rw [show zt_k.length = 94 by decide]; omega)]
      exact Nat.zero_le _
  unfold zB at h
  rw [Bool.and_eq_true, Bool.and_eq_true, Bool.and_eq_true] at h
  have h4 : zkT (q + 1) = n := of_decide_eq_true h.2.2.2
  rw [← h4]
  exact h1 _
/-- a set comes -/
def zad (A : zW) (q S : Nat) : zW := zuJ A (q + 1) (S / 64) (zJ A (q + 1) (S / 64) ||| (Int64.ofNat 1 <<< ((Int32.ofNat (S % 64)).toInt64 &&& 63)))
def zq_add : zQ := zfu (fun a : Nat × Nat × Nat => [.ref a.1, .int (Int32.ofNat a.2.2)]) (fun a _ => zB a.1 a.2.1 = true ∧ a.2.2 / 64 < a.2.1 ∧ a.2.2 < 4096) (fun _ _ => none) (fun a A => zad A a.1 a.2.2)
set_option maxRecDepth 20000 in
set_option maxHeartbeats 4000000 in
theorem za_X1_add : zdo r_X1_add zq_add := by
  refine zdo_fu [] (fun _ _ => []) 60 fo_X1 rfl zs_nil k_X1_add (fun _ _ _ => no_zh) (fun a A hp => ?_)
  obtain ⟨q, n, S⟩ := a
  obtain ⟨hB, hn, hS⟩ := hp
  have hB : zB q n = true := hB
  have hn : S / 64 < n := hn
  have hS : S < 4096 := hS
  have s6 := i32_s6 S hS
  have s63 := i32_63 S hS
  have ts := n64_t (S / 64) (by omega)
  have g := zB_f hB A
  have l := zB_l hB A
  refine ⟨fun h => ?_, fun h => ⟨fun h2 => ?_, fun h2 => ?_⟩⟩
  · have h : (Int32.ofNat S >>> (Int32.ofInt 6 &&& 31)).toInt < 0 := h
    rw [s6, ts] at h
    omega
  · have h2 : (Int32.ofNat (zkd A (rv_ (zfl A q (kfd fl_X1 13 (zkd A q)))))).toInt ≤ (Int32.ofNat S >>> (Int32.ofInt 6 &&& 31)).toInt := h2
    have hn64 : n ≤ 49152 := zB_n hB
    have en : (Int32.ofNat n).toInt = (n : Int) := Int32.toInt_ofNat_of_lt (by omega)
    rw [l, s6, en, ts] at h2
    omega
  · refine ⟨rfl, ?_⟩
    show zuJ A (rv_ (zfl A q (kfd fl_X1 13 (zkd A q)))) (Int32.ofNat S >>> (Int32.ofInt 6 &&& 31)).toInt.toNat (zJ A (rv_ (zfl A q (kfd fl_X1 13 (zkd A q)))) (Int32.ofNat S >>> (Int32.ofInt 6 &&& 31)).toInt.toNat ||| (Int64.ofNat 1 <<< ((Int32.ofNat S &&& Int32.ofInt 63).toInt64 &&& 63))) = zad A q S
    rw [g, s6, s63, ts]
    rfl
