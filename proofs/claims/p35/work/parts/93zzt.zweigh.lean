/-! weights, on both sides -/
/-- the source of an entry, on the class's side -/
def zsr (A : zW) (e : Nat) : Int32 := iv (zF A (rv_ (zR A 195 e)) 2)
def zcw (A : zW) (set : Int32) : Nat → Int32
  | 0 => 0
  | e + 1 => if zbi set e = true then zcw A set e + zI A 194 (zsr A e).toInt.toNat else zcw A set e
def zmw (A : zW) (set : Int32) : Nat → Int32
  | 0 => 0
  | e + 1 => zmw A set e + (if zbi set e = true then zI A 345 (zI A 349 e).toInt.toNat else 0)
set_option maxRecDepth 20000 in
theorem zcw_eq {A : zW} {set : Int32} : ∀ {n : Nat}, (∀ e, e < n → zI A 194 (zsr A e).toInt.toNat = zI A 345 (zI A 349 e).toInt.toNat) → zcw A set n = zmw A set n
  | 0, _ => rfl
  | n + 1, h => by
    show (if zbi set n = true then zcw A set n + _ else zcw A set n) = zmw A set n + (if zbi set n = true then _ else 0)
    rw [zcw_eq (fun e he => h e (by omega)), h n (by omega)]
    by_cases hb : zbi set n = true
    · rw [if_pos hb, if_pos hb]
    · rw [if_neg hb, if_neg hb, Int32.add_zero]
/-- entries that are there, with their sources -/
def zeS (A : zW) (n : Int32) : Prop := zcE A n ∧ ∀ e : Nat, (e : Int) < n.toInt → ∃ (j : Nat) (u : Int32), zR A 195 e = .ref j ∧ 385 ≤ j ∧ (zK A j).1 = 4 ∧ zF A j 2 = .int u ∧ 0 ≤ u.toInt ∧ u.toInt < 6
def zq_weigh : zQ := zpu (fun a : Int32 × Int32 => [.ref 193, .int a.1]) (fun a A => zeS A a.2) (fun a A => .int (zcw A a.1 a.2.toInt.toNat))
def in_zwg (A : zW) (set n : Int32) : fL_ → List Value → zW → Prop := fun lg vs A' => ∃ t : Int32, f_sub [(3, false, .int t), (2, false, .int (zcw A set t.toInt.toNat)), (0, false, .ref 193), (1, false, .int set)] lg ∧ vs = [] ∧ A' = A ∧ 0 ≤ t.toInt ∧ t.toInt ≤ n.toInt
set_option maxRecDepth 20000 in
set_option maxHeartbeats 8000000 in
theorem za_X2_weigh : zdo r_X2_weigh zq_weigh := by
  refine zdo_pu [(204, 2, zq_entryAt), (271, 1, q_isSource)] (fun a A => [(4, in_zwg A a.1 a.2)]) 60 fo_X2 rfl (zs_cons rfl za_X2_entryAt (zs_cons rfl za_X11_isSource zs_nil)) k_X2_weigh (fun a A hp => ?_) (fun a A hp => ?_)
  · obtain ⟨set, n⟩ := a
    obtain ⟨⟨hn, n0, n1⟩, hE⟩ := hp
    have hn : zF A 193 1 = .int n := hn
    have n1 : n.toInt ≤ 12 := n1
    have hE : ∀ e : Nat, (e : Int) < n.toInt → ∃ (j : Nat) (u : Int32), zR A 195 e = .ref j ∧ 385 ≤ j ∧ (zK A j).1 = 4 ∧ zF A j 2 = .int u ∧ 0 ≤ u.toInt ∧ u.toInt < 6 := hE
    refine List.forall_mem_cons.mpr ⟨?_, fun _ h => absurd h List.not_mem_nil⟩
    rintro lg vs A' ⟨t, hs, rfl, rfl, t0, t1⟩
    have t1 : t.toInt ≤ n.toInt := t1
    refine ⟨_, 60, hs, fun h => ?_, fun h => ?_⟩
    · have h : (iv (zF A' 193 1)).toInt ≤ t.toInt := h
      rw [hn] at h
      have h : n.toInt ≤ t.toInt := h
      refine ⟨?_, rfl⟩
      show some (Value.int (zcw A' set t.toInt.toNat)) = some (.int (zcw A' set n.toInt.toNat))
      rw [show t.toInt.toNat = n.toInt.toNat by omega]
    · have h : ¬ (iv (zF A' 193 1)).toInt ≤ t.toInt := h
      rw [hn] at h
      have h : ¬ n.toInt ≤ t.toInt := h
      have hi := i_inc t0 (by omega)
      have i3 : (t + 1).toInt.toNat = t.toInt.toNat + 1 := by omega
      have et : t = Int32.ofNat t.toInt.toNat := n32_of (by omega)
      obtain ⟨j, u, g1, g2, g3, g4, u0, u1⟩ := hE t.toInt.toNat (by omega)
      have ez : zat n t (zR A' 195 t.toInt.toNat) = .ref j := by
        unfold zat
        rw [if_pos ⟨t0, by omega⟩, g1]
      have eb : (set >>> (t &&& 31) &&& Int32.ofInt 1).toInt = if zbi set t.toInt.toNat = true then 1 else 0 := by
        rw [et, zbt_c (e := t.toInt.toNat) (by omega)]
        rw [← et]
      have ef : zfl A' (rv_ (zat n t (zR A' 195 t.toInt.toNat))) (kfd fl_X2 87 (zkd A' (rv_ (zat n t (zR A' 195 t.toInt.toNat))))) = .int u := by
        rw [ez]
        show zfl A' j (kfd fl_X2 87 (zkd A' j)) = _
        rw [zkd_d g2, g3, zfl_d g2]
        exact g4
      have es : zsr A' t.toInt.toNat = u := by
        unfold zsr
        rw [g1]
        show iv (zF A' j 2) = u
        rw [g4]
        rfl
      have e1 : (Int32.ofInt 1).toInt = 1 := by decide
      refine ⟨(t, n), rfl, ⟨hn, n0, n1⟩, fun h2 => ?_, fun h2 => ⟨fun h3 => ?_, fun h3 => ⟨u, ?_, trivial, fun h4 => ?_, fun h4 => ?_⟩⟩⟩
      · have h2 : ¬ (set >>> (t &&& 31) &&& Int32.ofInt 1).toInt = (Int32.ofInt 1).toInt := h2
        rw [eb, e1] at h2
        have hb : ¬ zbi set t.toInt.toNat = true := fun z => h2 (if_pos z)
        refine ⟨t + 1, ⟨rfl, ?_, rfl, rfl, trivial⟩, rfl, rfl, (show 0 ≤ (t + 1).toInt by omega), (show (t + 1).toInt ≤ n.toInt by omega)⟩
        rw [i3]
        show some (false, Value.int (zcw A' set t.toInt.toNat)) = some (false, .int (if zbi set t.toInt.toNat = true then zcw A' set t.toInt.toNat + zI A' 194 (zsr A' t.toInt.toNat).toInt.toNat else zcw A' set t.toInt.toNat))
        rw [if_neg hb]
      · have h3 : zat n t (zR A' 195 t.toInt.toNat) = .null := h3
        rw [ez] at h3
        cases h3
      · show [zfl A' (rv_ (zat n t (zR A' 195 t.toInt.toNat))) (kfd fl_X2 87 (zkd A' (rv_ (zat n t (zR A' 195 t.toInt.toNat)))))] = [.int u]
        rw [ef]
      · exact absurd ⟨u0, u1⟩ (zb_n h4)
      · have h2 : ¬ ¬ (set >>> (t &&& 31) &&& Int32.ofInt 1).toInt = (Int32.ofInt 1).toInt := h2
        rw [eb, e1] at h2
        have hb : zbi set t.toInt.toNat = true := by
          cases z : zbi set t.toInt.toNat with
          | true => rfl
          | false =>
            rw [z] at h2
            exact absurd (fun y => absurd y (by decide)) h2
        refine ⟨t + 1, ⟨rfl, ?_, rfl, rfl, trivial⟩, rfl, rfl, (show 0 ≤ (t + 1).toInt by omega), (show (t + 1).toInt ≤ n.toInt by omega)⟩
        rw [i3]
        show some (false, Value.int (zcw A' set t.toInt.toNat + zI A' 194 (iv (zfl A' (rv_ (zat n t (zR A' 195 t.toInt.toNat))) (kfd fl_X2 87 (zkd A' (rv_ (zat n t (zR A' 195 t.toInt.toNat))))))).toInt.toNat)) = some (false, .int (if zbi set t.toInt.toNat = true then zcw A' set t.toInt.toNat + zI A' 194 (zsr A' t.toInt.toNat).toInt.toNat else zcw A' set t.toInt.toNat))
        rw [if_pos hb, ef, es]
        rfl
  · obtain ⟨set, n⟩ := a
    obtain ⟨⟨hn, n0, n1⟩, hE⟩ := hp
    exact ⟨0, ⟨rfl, rfl, rfl, rfl, trivial⟩, rfl, rfl, by decide, n0⟩
/-- sets of entries -/
def zsO (set n : Int32) : Prop := 0 ≤ set.toInt ∧ set.toInt < ((2 ^ n.toInt.toNat : Nat) : Int)
theorem zsO_d (set n : Int32) : zsO set n ↔ (0 ≤ set.toInt ∧ set.toInt < ((2 ^ n.toInt.toNat : Nat) : Int)) := Iff.rfl
def zq_areEntries : zQ := zpu (fun a : Int32 × Int32 => [.ref 193, .int a.1]) (fun a A => zcE A a.2) (fun a _ => .int (zb (decide (0 ≤ a.1.toInt ∧ a.1.toInt < ((2 ^ a.2.toInt.toNat : Nat) : Int)))))
set_option maxRecDepth 20000 in
theorem za_X2_areEntries : zdo r_X2_areEntries zq_areEntries := by
  refine zdo_pu [] (fun _ _ => []) 60 fo_X2 rfl zs_nil k_X2_areEntries (fun _ _ _ => no_zh) (fun a A hp => ?_)
  obtain ⟨set, n⟩ := a
  obtain ⟨hn, n0, n1⟩ := hp
  have hn : zF A 193 1 = .int n := hn
  have n0 : 0 ≤ n.toInt := n0
  have n1 : n.toInt ≤ 12 := n1
  have en : n = Int32.ofNat n.toInt.toNat := n32_of (by omega)
  have key := zes_c (x := set) (n := n.toInt.toNat) (by omega)
  rw [← en] at key
  refine ⟨fun h => ?_, fun h => ?_⟩
  · have h : ¬ (set &&& (((Int32.ofInt 1 <<< (iv (zF A 193 1) &&& 31)) - Int32.ofInt 1) ^^^ Int32.ofInt (-1))).toInt = 0 := h
    rw [hn] at h
    have h : ¬ (set &&& (((Int32.ofInt 1 <<< (n &&& 31)) - Int32.ofInt 1) ^^^ Int32.ofInt (-1))).toInt = 0 := h
    exact ⟨zbf (fun z => h (key.mpr z)), rfl⟩
  · have h : ¬ ¬ (set &&& (((Int32.ofInt 1 <<< (iv (zF A 193 1) &&& 31)) - Int32.ofInt 1) ^^^ Int32.ofInt (-1))).toInt = 0 := h
    rw [hn] at h
    have h : ¬ ¬ (set &&& (((Int32.ofInt 1 <<< (n &&& 31)) - Int32.ofInt 1) ^^^ Int32.ofInt (-1))).toInt = 0 := h
    exact ⟨zbt (key.mp (Classical.not_not.mp h)), rfl⟩
def zwtV (set n v : Int32) : Int32 := if 0 ≤ set.toInt ∧ set.toInt < ((2 ^ n.toInt.toNat : Nat) : Int) then v else -2
def zq_weight : zQ := zpu (fun a : Int32 × Int32 => [.ref 0, .int a.1]) (fun a A => zeS A a.2) (fun a A => .int (zwtV a.1 a.2 (zcw A a.1 a.2.toInt.toNat)))
set_option maxRecDepth 20000 in
theorem za_X11_weight : zdo r_X11_weight zq_weight := by
  refine zdo_pu [(699, 2, zq_areEntries), (708, 2, zq_weigh)] (fun _ _ => []) 60 fo_X11 rfl (zs_cons rfl za_X2_areEntries (zs_cons rfl za_X2_weigh zs_nil)) k_X11_weight (fun _ _ _ => no_zh) (fun a A hp => ?_)
  obtain ⟨set, n⟩ := a
  refine ⟨(set, n), rfl, hp.1, fun h => ?_, fun h => ⟨(set, n), rfl, hp, ?_⟩⟩
  · have h := zb_n h
    refine ⟨?_, rfl⟩
    show some (Value.int (-2)) = some (.int (zwtV set n _))
    unfold zwtV
    rw [if_neg h]
  · have h := zb_y h
    refine ⟨?_, rfl⟩
    show some (Value.int (zcw A set n.toInt.toNat)) = some (.int (zwtV set n _))
    unfold zwtV
    rw [if_pos h]
/-- the reference's -/
def zq_weightOf : zQ := zpu (fun a : Int32 × Int32 => [.ref 343, .int a.1]) (fun a A => zF A 343 8 = .int a.2 ∧ 0 ≤ a.2.toInt ∧ a.2.toInt ≤ 12) (fun a A => .int (zmw A a.1 a.2.toInt.toNat))
def in_zmw (A : zW) (set n : Int32) : fL_ → List Value → zW → Prop := fun lg vs A' => ∃ t : Int32, f_sub [(3, false, .int t), (2, false, .int (zmw A set t.toInt.toNat)), (0, false, .ref 343), (1, false, .int set)] lg ∧ vs = [] ∧ A' = A ∧ 0 ≤ t.toInt ∧ t.toInt ≤ n.toInt
set_option maxRecDepth 20000 in
set_option maxHeartbeats 8000000 in
theorem za_X12_weightOf : zdo r_X12_weightOf zq_weightOf := by
  refine zdo_pu [(475, 2, zq_hasBit)] (fun a A => [(4, in_zmw A a.1 a.2)]) 60 fo_X12 rfl (zs_cons rfl za_X12_hasBit zs_nil) k_X12_weightOf (fun a A hp => ?_) (fun a A hp => ?_)
  · obtain ⟨set, n⟩ := a
    obtain ⟨hn, n0, n1⟩ := hp
    have hn : zF A 343 8 = .int n := hn
    have n1 : n.toInt ≤ 12 := n1
    refine List.forall_mem_cons.mpr ⟨?_, fun _ h => absurd h List.not_mem_nil⟩
    rintro lg vs A' ⟨t, hs, rfl, rfl, t0, t1⟩
    have t1 : t.toInt ≤ n.toInt := t1
    refine ⟨_, 60, hs, fun h => ?_, fun h => ?_⟩
    · have h : (iv (zF A' 343 8)).toInt ≤ t.toInt := h
      rw [hn] at h
      have h : n.toInt ≤ t.toInt := h
      refine ⟨?_, rfl⟩
      show some (Value.int (zmw A' set t.toInt.toNat)) = some (.int (zmw A' set n.toInt.toNat))
      rw [show t.toInt.toNat = n.toInt.toNat by omega]
    · have h : ¬ (iv (zF A' 343 8)).toInt ≤ t.toInt := h
      rw [hn] at h
      have h : ¬ n.toInt ≤ t.toInt := h
      have hi := i_inc t0 (by omega)
      have i3 : (t + 1).toInt.toNat = t.toInt.toNat + 1 := by omega
      have et : t = Int32.ofNat t.toInt.toNat := n32_of (by omega)
      have eb : hbB set.toInt64 t = zbi set t.toInt.toNat := by
        rw [et, zbt_m (e := t.toInt.toNat) (by omega)]
        rw [← et]
      refine ⟨(set.toInt64, t), rfl, trivial, fun h2 => ?_, fun h2 => ?_⟩
      · have h2 : (zb (hbB set.toInt64 t)).toInt = 0 := h2
        have hb := zb_f h2
        rw [eb] at hb
        refine ⟨t + 1, ⟨rfl, ?_, rfl, rfl, trivial⟩, rfl, rfl, (show 0 ≤ (t + 1).toInt by omega), (show (t + 1).toInt ≤ n.toInt by omega)⟩
        rw [i3]
        show some (false, Value.int (zmw A' set t.toInt.toNat + 0)) = some (false, .int (zmw A' set t.toInt.toNat + (if zbi set t.toInt.toNat = true then zI A' 345 (zI A' 349 t.toInt.toNat).toInt.toNat else 0)))
        rw [if_neg (by rw [hb]; exact Bool.false_ne_true)]
      · have h2 : ¬ (zb (hbB set.toInt64 t)).toInt = 0 := h2
        have hb := zb_t h2
        rw [eb] at hb
        refine ⟨t + 1, ⟨rfl, ?_, rfl, rfl, trivial⟩, rfl, rfl, (show 0 ≤ (t + 1).toInt by omega), (show (t + 1).toInt ≤ n.toInt by omega)⟩
        rw [i3]
        show some (false, Value.int (zmw A' set t.toInt.toNat + zI A' 345 (zI A' 349 t.toInt.toNat).toInt.toNat)) = some (false, .int (zmw A' set t.toInt.toNat + (if zbi set t.toInt.toNat = true then zI A' 345 (zI A' 349 t.toInt.toNat).toInt.toNat else 0)))
        rw [if_pos hb]
  · obtain ⟨set, n⟩ := a
    obtain ⟨hn, n0, n1⟩ := hp
    exact ⟨0, ⟨rfl, rfl, rfl, rfl, trivial⟩, rfl, rfl, by decide, n0⟩
def zq_isEntrySet : zQ := zpu (fun a : Int32 × Int32 => [.ref 343, .int a.1]) (fun a A => zF A 343 8 = .int a.2 ∧ 0 ≤ a.2.toInt ∧ a.2.toInt ≤ 12) (fun a _ => .int (zb (decide (0 ≤ a.1.toInt ∧ a.1.toInt < ((2 ^ a.2.toInt.toNat : Nat) : Int)))))
set_option maxRecDepth 20000 in
theorem za_X12_isEntrySet : zdo r_X12_isEntrySet zq_isEntrySet := by
  refine zdo_pu [(457, 3, zq_in)] (fun _ _ => []) 60 fo_X12 rfl (zs_cons rfl za_X12_in zs_nil) k_X12_isEntrySet (fun _ _ _ => no_zh) (fun a A hp => ?_)
  obtain ⟨set, n⟩ := a
  obtain ⟨hn, n0, n1⟩ := hp
  have hn : zF A 343 8 = .int n := hn
  have n0 : 0 ≤ n.toInt := n0
  have n1 : n.toInt ≤ 12 := n1
  have en : n = Int32.ofNat n.toInt.toNat := n32_of (by omega)
  have key := (zes_p n.toInt.toNat (by omega)).2
  rw [← en] at key
  have e0 := ze0
  have e1 := ze1
  have es := Int32.toInt_toInt64 set
  have hp2 : 2 ^ n.toInt.toNat ≤ 4096 := by
    have : ∀ n, n < 13 → 2 ^ n ≤ 4096 := by decide
    exact this _ (by omega)
  have ed : ((Int64.ofNat 1 <<< ((iv (zF A 343 8)).toInt64 &&& 63)) - Int64.ofNat 1).toInt = ((2 ^ n.toInt.toNat : Nat) : Int) - 1 := by
    rw [hn]
    show ((Int64.ofNat 1 <<< (n.toInt64 &&& 63)) - Int64.ofNat 1).toInt = _
    rw [Int64.toInt_sub, key, e1]
    generalize 2 ^ n.toInt.toNat = w at hp2
    exact Int.bmod_eq_of_le (by omega) (by omega)
  refine ⟨(set.toInt64, Int64.ofNat 0, (Int64.ofNat 1 <<< ((iv (zF A 343 8)).toInt64 &&& 63)) - Int64.ofNat 1), rfl, trivial, ?_, rfl⟩
  show some (Value.int (zb (decide ((Int64.ofNat 0).toInt ≤ set.toInt64.toInt ∧ set.toInt64.toInt ≤ ((Int64.ofNat 1 <<< ((iv (zF A 343 8)).toInt64 &&& 63)) - Int64.ofNat 1).toInt)))) = some (.int (zb (decide (0 ≤ set.toInt ∧ set.toInt < ((2 ^ n.toInt.toNat : Nat) : Int)))))
  rw [ed, es, e0]
  by_cases h : 0 ≤ set.toInt ∧ set.toInt < ((2 ^ n.toInt.toNat : Nat) : Int)
  · rw [decide_eq_true h, decide_eq_true ⟨h.1, by omega⟩]
  · rw [decide_eq_false h, decide_eq_false (fun z => h ⟨z.1, by omega⟩)]
def zq_weightM : zQ := zpu (fun a : Int32 × Int32 => [.ref 343, .int a.1]) (fun a A => zF A 343 8 = .int a.2 ∧ 0 ≤ a.2.toInt ∧ a.2.toInt ≤ 12) (fun a A => .int (zwtV a.1 a.2 (zmw A a.1 a.2.toInt.toNat)))
set_option maxRecDepth 20000 in
theorem za_X12_weight : zdo r_X12_weight zq_weightM := by
  refine zdo_pu [(951, 2, zq_isEntrySet), (897, 2, zq_weightOf)] (fun _ _ => []) 60 fo_X12 rfl (zs_cons rfl za_X12_isEntrySet (zs_cons rfl za_X12_weightOf zs_nil)) k_X12_weight (fun _ _ _ => no_zh) (fun a A hp => ?_)
  obtain ⟨set, n⟩ := a
  refine ⟨(set, n), rfl, hp, fun h => ?_, fun h => ⟨(set, n), rfl, hp, ?_⟩⟩
  · have h := zb_n h
    refine ⟨?_, rfl⟩
    show some (Value.int (-2)) = some (.int (zwtV set n _))
    unfold zwtV
    rw [if_neg h]
  · have h := zb_y h
    refine ⟨?_, rfl⟩
    show some (Value.int (zmw A set n.toInt.toNat)) = some (.int (zwtV set n _))
    unfold zwtV
    rw [if_pos h]
