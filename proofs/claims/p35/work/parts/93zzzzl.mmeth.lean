/-! merging, the methods -/
/-- within another set of worlds -/
def wiB (f g : Nat → Int64) (n : Nat) : Bool := alN (fun x => decide (f x &&& (g x ^^^ Int64.ofInt (-1)) = Int64.ofNat 0)) n
def zq_within : zQ := zpu (fun a : Nat × Nat => [.ref a.1, .ref a.2]) (fun a _ => zB a.1 4 = true ∧ zB a.2 4 = true) (fun a A => .int (zb (wiB (zJ A (a.1 + 1)) (zJ A (a.2 + 1)) 4)))
def in_zwi (A : zW) (q p : Nat) : fL_ → List Value → zW → Prop := fun lg vs A' => ∃ x : Nat, f_sub [(2, false, .int (Int32.ofNat x)), (0, false, .ref q), (1, false, .ref p)] lg ∧ vs = [] ∧ A' = A ∧ x ≤ 4 ∧ wiB (zJ A (q + 1)) (zJ A (p + 1)) x = true
set_option maxRecDepth 20000 in
set_option maxHeartbeats 4000000 in
theorem za_X1_within9 : zdo r_X1_within zq_within := by
  refine zdo_pu [] (fun a A => [(2, in_zwi A a.1 a.2)]) 60 fo_X1 rfl zs_nil k_X1_within (fun a A hp => ?_) (fun a A hp => ?_)
  · obtain ⟨q, p⟩ := a
    obtain ⟨hB, hB2⟩ := hp
    have hB : zB q 4 = true := hB
    have hB2 : zB p 4 = true := hB2
    refine List.forall_mem_cons.mpr ⟨?_, fun _ h => absurd h List.not_mem_nil⟩
    rintro lg vs A' ⟨x, hs, rfl, rfl, hx, hal⟩
    have hx : x ≤ 4 := hx
    have tx := n32_t (show x < 4096 by omega)
    have ex := n32_c (show x < 4096 by omega)
    have e4 := e32_4
    have done : 4 ≤ x → some (Value.int (Int32.ofInt 1)) = some (.int (zb (wiB (zJ A' (q + 1)) (zJ A' (p + 1)) 4))) := fun h => by
      rw [← show x = 4 by omega, hal]
      rfl
    refine ⟨_, 60, hs, fun h => ?_, fun h => ⟨fun h2 => ?_, fun h2 => ⟨fun h3 => ?_, fun h3 => ?_⟩⟩⟩
    · have h : (Int32.ofNat (zkd A' (rv_ (zfl A' q (kfd fl_X1 13 (zkd A' q)))))).toInt ≤ (Int32.ofNat x).toInt := h
      rw [zB_l hB, e4, tx] at h
      exact ⟨done (by omega), rfl⟩
    · have h2 : (Int32.ofNat (zkd A' (rv_ (zfl A' p (kfd fl_X1 13 (zkd A' p)))))).toInt ≤ (Int32.ofNat x).toInt := h2
      rw [zB_l hB2, e4, tx] at h2
      exact ⟨done (by omega), rfl⟩
    · have h : ¬ (Int32.ofNat (zkd A' (rv_ (zfl A' q (kfd fl_X1 13 (zkd A' q)))))).toInt ≤ (Int32.ofNat x).toInt := h
      rw [zB_l hB, e4, tx] at h
      have h3 : (lg_cmp (zJ A' (rv_ (zfl A' q (kfd fl_X1 13 (zkd A' q)))) (Int32.ofNat x).toNatClampNeg &&& (zJ A' (rv_ (zfl A' p (kfd fl_X1 13 (zkd A' p)))) (Int32.ofNat x).toNatClampNeg ^^^ Int64.ofInt (-1))) (Int64.ofNat 0)).toInt = 0 := h3
      rw [zB_f hB, zB_f hB2, ex] at h3
      have h3 : zJ A' (q + 1) x &&& (zJ A' (p + 1) x ^^^ Int64.ofInt (-1)) = Int64.ofNat 0 := lg_cmp_0.mp h3
      refine ⟨x + 1, ⟨?_, rfl, rfl, trivial⟩, rfl, rfl, (show x + 1 ≤ 4 by omega), ?_⟩
      · show some (false, Value.int (Int32.ofNat x + Int32.ofInt 1)) = some (false, .int (Int32.ofNat (x + 1)))
        rw [n32_s (by omega)]
      · show (wiB (zJ A' (q + 1)) (zJ A' (p + 1)) x && decide (zJ A' (q + 1) x &&& (zJ A' (p + 1) x ^^^ Int64.ofInt (-1)) = Int64.ofNat 0)) = true
        rw [hal, decide_eq_true h3]
        rfl
    · have h : ¬ (Int32.ofNat (zkd A' (rv_ (zfl A' q (kfd fl_X1 13 (zkd A' q)))))).toInt ≤ (Int32.ofNat x).toInt := h
      rw [zB_l hB, e4, tx] at h
      have h3 : ¬ (lg_cmp (zJ A' (rv_ (zfl A' q (kfd fl_X1 13 (zkd A' q)))) (Int32.ofNat x).toNatClampNeg &&& (zJ A' (rv_ (zfl A' p (kfd fl_X1 13 (zkd A' p)))) (Int32.ofNat x).toNatClampNeg ^^^ Int64.ofInt (-1))) (Int64.ofNat 0)).toInt = 0 := h3
      rw [zB_f hB, zB_f hB2, ex] at h3
      have h3 : ¬ zJ A' (q + 1) x &&& (zJ A' (p + 1) x ^^^ Int64.ofInt (-1)) = Int64.ofNat 0 := fun z => h3 (lg_cmp_0.mpr z)
      refine ⟨?_, rfl⟩
      show some (Value.int (Int32.ofInt 0)) = some (.int (zb (wiB (zJ A' (q + 1)) (zJ A' (p + 1)) 4)))
      unfold wiB
      rw [alN_no (show x < 4 by omega) (decide_eq_false h3)]
      rfl
  · exact ⟨0, ⟨rfl, rfl, rfl, trivial⟩, rfl, rfl, Nat.zero_le _, rfl⟩
/-- the i-th of a set of worlds -/
def zq_at4w : zQ := zs (fun a : Nat × Int32 => [.ref a.1, .int a.2]) (fun a _ => zB a.1 4 = true) (fun a A rv A' => ∃ v : Int32, rv = some (.int v) ∧ atR (bF (zJ A (a.1 + 1))) 256 a.2 v ∧ A' = A)
def in_at4w (A : zW) (q : Nat) (i : Int32) : fL_ → List Value → zW → Prop := fun lg vs A' => ∃ (r : Nat) (l : Int32), f_sub [(3, false, .int (Int32.ofNat r)), (2, false, .int l), (0, false, .ref q)] lg ∧ vs = [] ∧ A' = A ∧ r ≤ 4 ∧ l.toInt = i.toInt - ((cN (bF (zJ A (q + 1))) (64 * r) : Nat) : Int) ∧ (0 ≤ l.toInt ∨ r = 0)
def in_at38w (A : zW) (q : Nat) (i : Int32) : fL_ → List Value → zW → Prop := fun lg vs A' => ∃ (r j : Nat) (l : Int32) (x : Int64), f_sub [(4, true, .long x), (3, false, .int (Int32.ofNat r)), (2, false, .int l), (0, false, .ref q)] lg ∧ vs = [] ∧ A' = A ∧ r < 4 ∧ 0 ≤ l.toInt ∧ ((cN (bF (zJ A (q + 1))) (64 * r) : Nat) : Int) + (j : Int) + l.toInt = i.toInt ∧ (j : Int) + l.toInt < ((cN (fun u => (zJ A (q + 1) r).toBitVec.getLsbD u) 64 : Nat) : Int) ∧ ∀ u, u < 64 → x.toBitVec.getLsbD u = rkB (zJ A (q + 1) r) j u
set_option maxRecDepth 20000 in
set_option maxHeartbeats 16000000 in
theorem zc_X1_at4 : zdo r_X1_at zq_at4w := by
  refine zdo_of _ _ _ [(139, 1, zq_lbc), (157, 1, zq_lowest)] (fun a A => [(4, in_at4w A a.1 a.2), (38, in_at38w A a.1 a.2)]) 80 fo_X1 rfl (zs_cons rfl za_J13_bitCount (zs_cons rfl za_X1_lowest zs_nil)) k_X1_at (fun a A hp => ?_) (fun a A hp => ?_)
  · obtain ⟨q, i⟩ := a
    have hB : zB q 4 = true := hp
    have e64 : (Int32.ofNat 4).toInt = 4 := by decide
    refine List.forall_mem_cons.mpr ⟨?_, List.forall_mem_cons.mpr ⟨?_, fun _ h => absurd h List.not_mem_nil⟩⟩
    · rintro lg vs A' ⟨r, l, hs, rfl, rfl, hr, hl, hc⟩
      have hr : r ≤ 4 := hr
      have hl : l.toInt = i.toInt - ((cN (bF (zJ A' (q + 1))) (64 * r) : Nat) : Int) := hl
      have tr := n32_t (show r < 4096 by omega)
      have none_ : (¬ ∃ S, nthP (bF (zJ A' (q + 1))) 256 i.toInt S) → ∃ v : Int32, some (Value.int (Int32.ofInt (-1))) = some (.int v) ∧ atR (bF (zJ A' (q + 1))) 256 i v ∧ A' = A' := fun h => ⟨-1, rfl, Or.inr ⟨h, rfl⟩, rfl⟩
      refine ⟨_, 80, hs, fun h => ?_, fun h => ⟨fun h2 => ?_, fun h2 => ?_⟩⟩
      · have h : (Int32.ofNat (zkd A' (rv_ (zfl A' q (kfd fl_X1 13 (zkd A' q)))))).toInt ≤ (Int32.ofNat r).toInt := h
        rw [zB_l hB, e64, tr] at h
        have e4 : 64 * r = 256 := by omega
        rw [e4] at hl
        refine none_ (fun ⟨S, hS⟩ => ?_)
        have h2 := nthP_lt hS
        rcases hc with hc | hc <;> omega
      · have h2 : l.toInt < 0 := h2
        refine none_ (fun ⟨S, hS⟩ => ?_)
        have h3 := nthP_lt hS
        rcases hc with hc | hc
        · omega
        · rw [hc] at hl
          have h4 : cN (bF (zJ A' (q + 1))) (64 * 0) = 0 := rfl
          rw [h4] at hl
          omega
      · have h : ¬ (Int32.ofNat (zkd A' (rv_ (zfl A' q (kfd fl_X1 13 (zkd A' q)))))).toInt ≤ (Int32.ofNat r).toInt := h
        rw [zB_l hB, e64, tr] at h
        have h2 : ¬ l.toInt < 0 := h2
        have hr6 : r < 4 := by omega
        have eR : zJ A' (rv_ (zfl A' q (kfd fl_X1 13 (zkd A' q)))) (Int32.ofNat r).toNatClampNeg = zJ A' (q + 1) r := by
          rw [zB_f hB, n32_c (by omega)]
          rfl
        have hbc := bc_cN (x := zJ A' (q + 1) r)
        have hcl := cN_le (p := fun u => (zJ A' (q + 1) r).toBitVec.getLsbD u) (n := 64)
        refine ⟨zJ A' (q + 1) r, ?_, trivial, fun h3 => ?_, fun h3 => ?_⟩
        · show [Value.long (zJ A' (rv_ (zfl A' q (kfd fl_X1 13 (zkd A' q)))) (Int32.ofNat r).toNatClampNeg)] = _
          rw [eR]
        · have h3 : (bcV (zJ A' (q + 1) r)).toInt ≤ l.toInt := h3
          rw [hbc] at h3
          have e1 := cN_row (f := zJ A' (q + 1)) (r := r) (u := 64) (Nat.le_refl 64)
          rw [show 64 * r + 64 = 64 * (r + 1) by omega] at e1
          have hls : (l - bcV (zJ A' (q + 1) r)).toInt = l.toInt - ((cN (fun u => (zJ A' (q + 1) r).toBitVec.getLsbD u) 64 : Nat) : Int) := by
            have := Int32.toInt_lt l
            rw [Int32.toInt_sub, hbc]
            exact Int.bmod_eq_of_le (by omega) (by omega)
          refine ⟨r + 1, l - bcV (zJ A' (q + 1) r), ⟨?_, rfl, rfl, trivial⟩, rfl, rfl, (show r + 1 ≤ 4 by omega), ?_, Or.inl ?_⟩
          · show some (false, Value.int (Int32.ofNat r + Int32.ofInt 1)) = some (false, .int (Int32.ofNat (r + 1)))
            rw [n32_s (by omega)]
          · show (l - bcV (zJ A' (q + 1) r)).toInt = i.toInt - ((cN (bF (zJ A' (q + 1))) (64 * (r + 1)) : Nat) : Int)
            rw [hls, e1, Int.natCast_add]
            exact (at_m hl h3 (Int.natCast_nonneg _)).1
          · rw [hls]
            exact (at_m hl h3 (Int.natCast_nonneg _)).2
        · have h3 : ¬ (bcV (zJ A' (q + 1) r)).toInt ≤ l.toInt := h3
          rw [hbc] at h3
          have l0 : 0 ≤ l.toInt := by omega
          have hz := at_z hl l0 h3
          refine ⟨r, 0, l, zJ A' (q + 1) r, ⟨?_, rfl, rfl, rfl, trivial⟩, rfl, rfl, hr6, l0, hz.1, hz.2, fun u hu => ?_⟩
          · show some (true, Value.long (zJ A' (rv_ (zfl A' q (kfd fl_X1 13 (zkd A' q)))) (Int32.ofNat r).toNatClampNeg)) = _
            rw [eR]
          · unfold rkB
            rw [decide_eq_true (Nat.zero_le _), Bool.and_true]
    · rintro lg vs A' ⟨r, j, l, x, hs, rfl, rfl, hr, l0, hl, hlt, hx⟩
      have hr : r < 4 := hr
      have l0 : 0 ≤ l.toInt := l0
      have hl : ((cN (bF (zJ A' (q + 1))) (64 * r) : Nat) : Int) + (j : Int) + l.toInt = i.toInt := hl
      have hlt : (j : Int) + l.toInt < ((cN (fun u => (zJ A' (q + 1) r).toBitVec.getLsbD u) 64 : Nat) : Int) := hlt
      obtain ⟨p, hp⟩ : ∃ p : Nat → Bool, p = fun u => (zJ A' (q + 1) r).toBitVec.getLsbD u := ⟨_, rfl⟩
      rw [← hp] at hlt
      have hx : ∀ u, u < 64 → x.toBitVec.getLsbD u = (p u && decide (j ≤ cN p u)) := by
        rw [hp]
        exact hx
      -- the lowest one
      obtain ⟨e, e64, e1, e2⟩ := nthP_ex (p := p) (i := (j : Int)) (m := 64) (at_e l0 hlt).1 (at_e l0 hlt).2
      have e2 : cN p e = j := Int.ofNat.inj e2
      have lo1 : x.toBitVec.getLsbD e = true := by rw [hx e e64, e1, e2, decide_eq_true (Nat.le_refl j)]; rfl
      have lo2 : ∀ v, v < e → x.toBitVec.getLsbD v = false := fun v hv => by
        rw [hx v (by omega)]
        cases hpv : p v with
        | false => rfl
        | true =>
          have := cN_lt (p := p) hv hpv
          rw [decide_eq_false (by omega)]
          rfl
      refine ⟨_, 80, hs, fun h => ?_, fun h => ?_⟩
      · have h : l.toInt ≤ 0 := h
        have hv := lwV_ok e64 lo1 lo2
        have t1 := n32_t (show 64 * r < 4096 by omega)
        have es : (Int32.ofNat r <<< (Int32.ofInt 6 &&& 31)) + lwV x = Int32.ofNat (64 * r + e) := by
          refine Int32.toInt_inj.mp ?_
          rw [n32_s6 r (by omega), i_add (by rw [t1, hv]; omega) (by rw [t1, hv]; omega), t1, hv, n32_t (by omega)]
          omega
        refine ⟨x, rfl, trivial, _, rfl, Or.inl ⟨64 * r + e, ⟨by omega, ?_, ?_⟩, es⟩, rfl⟩
        · rw [bF_at e64]
          rw [hp] at e1
          exact e1
        · rw [cN_row (by omega)]
          have e3 : cN (fun i => (zJ A' (q + 1) r).toBitVec.getLsbD i) e = j := by
            rw [← hp]
            exact e2
          rw [e3, Int.natCast_add]
          exact at_f hl h l0 rfl
      · have h : ¬ l.toInt ≤ 0 := h
        have em1 : (Int32.ofInt (-1)).toInt = -1 := by decide
        have hls : (l + Int32.ofInt (-1)).toInt = l.toInt - 1 := by
          have := Int32.toInt_lt l
          rw [i_add (by rw [em1]; omega) (by rw [em1]; omega), em1]
          omega
        refine ⟨r, j + 1, l + Int32.ofInt (-1), x &&& (x - Int64.ofNat 1), ⟨rfl, rfl, rfl, rfl, trivial⟩, rfl, rfl, hr, (by rw [hls]; exact (at_n hl hlt h).1), ?_, ?_, fun u hu => ?_⟩
        · show ((cN (bF (zJ A' (q + 1))) (64 * r) : Nat) : Int) + ((j + 1 : Nat) : Int) + (l + Int32.ofInt (-1)).toInt = i.toInt
          rw [hls]
          exact (at_n hl hlt h).2.1
        · show ((j + 1 : Nat) : Int) + (l + Int32.ofInt (-1)).toInt < ((cN (fun u => (zJ A' (q + 1) r).toBitVec.getLsbD u) 64 : Nat) : Int)
          rw [hls, ← hp]
          exact (at_n hl hlt h).2.2
        · have h1 := and1_b lo1 lo2 e64 u
          rw [hx u hu] at h1
          have h2 : rkB (zJ A' (q + 1) r) (j + 1) u = (p u && decide (j + 1 ≤ cN p u)) := by
            rw [hp]
            rfl
          rw [h2]
          cases hpu : p u with
          | false =>
            rw [hpu] at h1
            refine Bool.eq_false_iff.mpr (fun z => ?_)
            have := (h1.mp z).1
            cases this
          | true =>
            rw [hpu] at h1
            by_cases c : j + 1 ≤ cN p u
            · rw [decide_eq_true c]
              refine h1.mpr ⟨by rw [decide_eq_true (show j ≤ cN p u by omega)]; rfl, fun z => ?_⟩
              rw [z] at c
              omega
            · rw [decide_eq_false c]
              refine Bool.eq_false_iff.mpr (fun z => ?_)
              obtain ⟨z1, z2⟩ := h1.mp z
              have z1 : decide (j ≤ cN p u) = true := z1
              have z1 := of_decide_eq_true z1
              have h5 : cN p u = cN p e := by omega
              rcases Nat.lt_trichotomy u e with h6 | h6 | h6
              · have := cN_lt (p := p) h6 hpu
                omega
              · exact z2 h6
              · have := cN_lt (p := p) h6 e1
                omega
  · obtain ⟨q, i⟩ := a
    exact ⟨0, i, ⟨rfl, rfl, rfl, trivial⟩, rfl, rfl, (by decide : 0 ≤ 4), (by
      show i.toInt = i.toInt - ((0 : Nat) : Int)
      omega), Or.inr rfl⟩
/-! parts, far, merged, mergedWorld, agreed of the class -/
def zq_partsC : zQ := zs (fun _ : msA => [.ref 0]) msP (fun a A rv A' => rv = some (.int (icV (Int32.ofNat (vwN (tkC A (msV a A) a.1) 6)))) ∧ msR A a.1 (msV a A) A')
set_option maxRecDepth 20000 in
theorem zc_X11_parts : zdo r_X11_parts zq_partsC := by
  refine zdo_of _ _ _ [(1161, 2, zq_msettle), (589, 1, zq_ibc)] (fun _ _ => []) 60 fo_X11 rfl (zs_cons rfl zc_X6_settle (zs_cons rfl za_J6_ibc zs_nil)) k_X11_parts (fun _ _ _ => no_zh) (fun a A hp => ?_)
  refine ⟨a, rfl, hp, ?_⟩
  rintro rv A' ⟨rfl, hR⟩
  refine ⟨Int32.ofNat (vwN (tkC A (msV a A) a.1) 6), ?_, trivial, rfl, hR⟩
  show [zF A' 324 1] = _
  rw [hR.2.2.1]
abbrev lwPs (x : Int32) : Prop := 0 ≤ x.toInt ∧ x.toInt < 3
abbrev wdPs (w u : Int32) : Prop := (0 ≤ w.toInt ∧ w.toInt < 256) ∧ (0 ≤ u.toInt ∧ u.toInt < 6)
def farV (b : Bool) (d : Nat) : Int32 := if b = true then Int32.ofNat d else Int32.ofInt (-3)
def zq_farC : zQ := zs (fun a : msA × Int32 × Int32 => [.ref 0, .int a.2.1, .int a.2.2]) (fun a A => msP a.1 A) (fun a A rv A' => (¬ wdPs a.2.1 a.2.2 ∧ rv = some (.int (-1)) ∧ A' = A) ∨ (wdPs a.2.1 a.2.2 ∧ msR A a.1.1 (msV a.1 A) A' ∧ rv = some (.int (farV (tkC A (msV a.1 A) a.1.1 a.2.2.toInt.toNat) (dsC A (msV a.1 A) a.1.1 a.2.1.toInt.toNat a.2.2.toInt.toNat)))))
set_option maxRecDepth 20000 in
set_option maxHeartbeats 4000000 in
theorem zc_X11_far : zdo r_X11_far zq_farC := by
  refine zdo_of _ _ _ [(448, 1, q_isWorld), (487, 1, q_isSource), (1161, 2, zq_msettle)] (fun _ _ => []) 80 fo_X11 rfl (zs_cons rfl za_X11_isWorld (zs_cons rfl za_X11_isSource (zs_cons rfl zc_X6_settle zs_nil))) k_X11_far (fun _ _ _ => no_zh) (fun a A hp => ?_)
  obtain ⟨a, w, u⟩ := a
  have go : wdPs w u → ∀ A', msR A a.1 (msV a A) A' → (¬ (iv (zF A' 324 1) >>> (u &&& 31) &&& Int32.ofInt 1).toInt = 0 ↔ tkC A (msV a A) a.1 u.toInt.toNat = true) ∧ (tkC A (msV a A) a.1 u.toInt.toNat = true → zI A' (rv_ (zrl A' 325 u.toNatClampNeg)) w.toNatClampNeg = Int32.ofNat (dsC A (msV a A) a.1 w.toInt.toNat u.toInt.toNat)) := fun hwu A' hR => by
    have u6 : u.toInt.toNat < 6 := by have := hwu.2; omega
    have eu : u = Int32.ofNat u.toInt.toNat := n32_of (by have := hwu.2; omega)
    have hbit := zbt_c (x := iv (zF A' 324 1)) (e := u.toInt.toNat) (by omega)
    rw [← eu, hR.2.2.1] at hbit
    have hbit : (Int32.ofNat (vwN (tkC A (msV a A) a.1) 6) >>> (u &&& 31) &&& Int32.ofInt 1).toInt = if zbi (Int32.ofNat (vwN (tkC A (msV a A) a.1) 6)) u.toInt.toNat = true then 1 else 0 := hbit
    rw [n32_zbi (by omega), tk_bit u6] at hbit
    rw [hR.2.2.1]
    refine ⟨?_, fun ht => ?_⟩
    · show ¬ (Int32.ofNat (vwN (tkC A (msV a A) a.1) 6) >>> (u &&& 31) &&& Int32.ofInt 1).toInt = 0 ↔ _
      rw [hbit]
      cases tkC A (msV a A) a.1 u.toInt.toNat with
      | true => exact ⟨fun _ => rfl, fun _ => by rw [if_pos rfl]; decide⟩
      | false => exact ⟨fun z => absurd (if_neg Bool.false_ne_true) z, fun z => absurd z Bool.false_ne_true⟩
    · rw [show u.toNatClampNeg = u.toInt.toNat from rfl, zrl_325 u6]
      exact hR.2.2.2 _ u6 ht _ (show w.toInt.toNat < 256 by have := hwu.1; omega)
  refine ⟨w, rfl, trivial, fun h => ?_, fun h => ?_⟩
  · have h := zb_n h
    exact Or.inl ⟨fun z => h z.1, rfl, rfl⟩
  · have hw := zb_y h
    refine ⟨u, rfl, trivial, fun h2 => ?_, fun h2 => ?_⟩
    · have hu := zb_y h2
      refine ⟨a, rfl, hp, ?_⟩
      rintro rv A' ⟨rfl, hR⟩
      obtain ⟨g1, g2⟩ := go ⟨hw, hu⟩ A' hR
      refine ⟨fun h3 => ?_, fun h3 => ?_⟩
      · have h3 : ¬ (iv (zF A' 324 1) >>> (u &&& 31) &&& Int32.ofInt 1).toInt = 0 := h3
        have ht := g1.mp h3
        refine Or.inr ⟨⟨hw, hu⟩, hR, ?_⟩
        show some (Value.int (zI A' (rv_ (zrl A' 325 u.toNatClampNeg)) w.toNatClampNeg)) = _
        rw [g2 ht]
        unfold farV
        rw [if_pos ht]
      · have h3 : ¬ ¬ (iv (zF A' 324 1) >>> (u &&& 31) &&& Int32.ofInt 1).toInt = 0 := h3
        have ht : ¬ tkC A (msV a A) a.1 u.toInt.toNat = true := fun z => h3 (g1.mpr z)
        refine Or.inr ⟨⟨hw, hu⟩, hR, ?_⟩
        unfold farV
        rw [if_neg ht]
    · have h2 := zb_n (Classical.not_not.mp h2)
      exact Or.inl ⟨fun z => h2 z.2, rfl, rfl⟩
/-- by a law -/
def lwQ9 (law : Int32) (a : msA) (A : zW) (V : Option Value → zW → Prop) (rv : Option Value) (A' : zW) : Prop := (¬ lwPs law ∧ rv = some (.int (-2)) ∧ A' = A) ∨ (lwPs law ∧ chQ (a, law.toInt.toNat) A A' ∧ V rv A')
abbrev mdA : Type := msA × Int32
def mdP (a : mdA) (A : zW) : Prop := msP a.1 A ∧ trP A
theorem law_n {x : Int32} (h : lwPs x) : x = Int32.ofNat x.toInt.toNat ∧ x.toInt.toNat < 3 := ⟨n32_of (by have := h.1; omega), by have := h.2; have := h.1; omega⟩
def zq_mergedC : zQ := zs (fun a : mdA => [.ref 0, .int a.2]) mdP (fun a A => lwQ9 a.2 a.1 A (fun rv A' => rv = some (.int (szA bcV (zJ A' 333) 4))))
set_option maxRecDepth 20000 in
theorem zc_X11_merged : zdo r_X11_merged zq_mergedC := by
  refine zdo_of _ _ _ [(1183, 1, q_isLaw), (1191, 3, zq_chosen), (438, 1, zq_size)] (fun _ _ => []) 60 fo_X11 rfl (zs_cons rfl za_X11_isLaw (zs_cons rfl zc_X6_chosen (zs_cons rfl za_X1_size zs_nil))) k_X11_merged (fun _ _ _ => no_zh) (fun a A hp => ?_)
  obtain ⟨a, x⟩ := a
  refine ⟨x, rfl, trivial, fun h => ?_, fun h => ?_⟩
  · exact Or.inl ⟨zb_n h, rfl, rfl⟩
  · have hx : lwPs x := zb_y h
    obtain ⟨e1, e2⟩ := law_n hx
    refine ⟨(a, x.toInt.toNat), ?_, ⟨hp.1, hp.2, e2⟩, ?_⟩
    · show [Value.ref 324, .int x, .ref 193] = [.ref 324, .int (Int32.ofNat x.toInt.toNat), .ref 193]
      rw [← e1]
    · rintro rv A' ⟨rfl, hQ⟩
      exact ⟨(332, 4), rfl, ⟨zB_332, (by decide : 4 ≤ 64)⟩, Or.inr ⟨hx, hQ, rfl⟩⟩
def zq_mergedWorldC : zQ := zs (fun a : mdA × Int32 => [.ref 0, .int a.1.2, .int a.2]) (fun a A => mdP a.1 A) (fun a A => lwQ9 a.1.2 a.1.1 A (fun rv A' => ∃ v : Int32, rv = some (.int v) ∧ atR (bF (zJ A' 333)) 256 a.2 v))
set_option maxRecDepth 20000 in
theorem zc_X11_mergedWorld : zdo r_X11_mergedWorld zq_mergedWorldC := by
  refine zdo_of _ _ _ [(1183, 1, q_isLaw), (1191, 3, zq_chosen), (753, 2, zq_at4w)] (fun _ _ => []) 60 fo_X11 rfl (zs_cons rfl za_X11_isLaw (zs_cons rfl zc_X6_chosen (zs_cons rfl zc_X1_at4 zs_nil))) k_X11_mergedWorld (fun _ _ _ => no_zh) (fun a A hp => ?_)
  obtain ⟨⟨a, x⟩, i⟩ := a
  refine ⟨x, rfl, trivial, fun h => ?_, fun h => ?_⟩
  · have hx : lwPs x := zb_y h
    obtain ⟨e1, e2⟩ := law_n hx
    refine ⟨(a, x.toInt.toNat), ?_, ⟨hp.1, hp.2, e2⟩, ?_⟩
    · show [Value.ref 324, .int x, .ref 193] = [.ref 324, .int (Int32.ofNat x.toInt.toNat), .ref 193]
      rw [← e1]
    · rintro rv A' ⟨rfl, hQ⟩
      refine ⟨(332, i), rfl, zB_332, ?_⟩
      rintro rv A2 ⟨v, rfl, hv, rfl⟩
      have hv : atR (bF (zJ A2 333)) 256 i v := hv
      refine ⟨fun h2 => ?_, fun h2 => ?_⟩
      · exact Or.inr ⟨hx, hQ, v, rfl, hv⟩
      · have h2 : ¬ 0 ≤ v.toInt := h2
        refine Or.inr ⟨hx, hQ, Int32.ofInt (-1), rfl, ?_⟩
        rcases hv with ⟨S, hS, rfl⟩ | ⟨hn, -⟩
        · rw [n32_t (show S < 4096 by have := hS.1; omega)] at h2
          omega
        · exact Or.inr ⟨hn, rfl⟩
  · exact Or.inl ⟨zb_n (Classical.not_not.mp h), rfl, rfl⟩
def agQ (c s law : Int32) (A : zW) (Q : Option Value → zW → Prop) (W : zW → Bool) (rv : Option Value) (A' : zW) : Prop := (¬ lePs c s ∧ rv = some (.int (-1)) ∧ A' = A) ∨ (lePs c s ∧ ¬ lwPs law ∧ rv = some (.int (-2)) ∧ A' = A) ∨ (lePs c s ∧ lwPs law ∧ Q rv A' ∧ rv = some (.int (zb (W A'))))
def zq_agreedC : zQ := zs (fun a : mdA × Int32 × Int32 => [.ref 0, .int a.2.2, .int a.1.2]) (fun a A => mdP a.1 A ∧ zF A 0 1 = .int a.2.1 ∧ a.2.1.toInt ≤ 60) (fun a A => agQ a.2.1 a.2.2 a.1.2 A (fun _ A' => chQ (a.1.1, a.1.2.toInt.toNat) A A') (fun A' => wiB (zJ A' 333) (zJ A' (leq a.2.2 + 1)) 4))
set_option maxRecDepth 20000 in
set_option maxHeartbeats 4000000 in
theorem zc_X11_agreed : zdo r_X11_agreed zq_agreedC := by
  refine zdo_of _ _ _ [(381, 2, zq_sentenceAt), (1183, 1, q_isLaw), (1191, 3, zq_chosen), (465, 2, zq_within)] (fun _ _ => []) 80 fo_X11 rfl (zs_cons rfl za_X11_sentenceAt (zs_cons rfl za_X11_isLaw (zs_cons rfl zc_X6_chosen (zs_cons rfl za_X1_within9 zs_nil)))) k_X11_agreed (fun _ _ _ => no_zh) (fun a A hp => ?_)
  obtain ⟨⟨a, x⟩, c, s⟩ := a
  obtain ⟨⟨hm, hT⟩, hc, hc60⟩ := hp
  have hc60 : c.toInt ≤ 60 := hc60
  refine ⟨(s, c), rfl, ⟨hc, hc60⟩, fun h => ?_, fun h => ?_⟩
  rotate_left
  · exact Or.inl ⟨fun z => zat_n (fun z => by cases z) h z, rfl, rfl⟩
  have hs : lePs c s := zat_y h
  have e0 : zat c s (.ref (2 + 2 * s.toInt.toNat)) = .ref (2 + 2 * s.toInt.toNat) := if_pos hs
  refine ⟨x, rfl, trivial, fun h2 => ?_, fun h2 => ?_⟩
  · have hx : lwPs x := zb_y h2
    obtain ⟨e1, e2⟩ := law_n hx
    refine ⟨(a, x.toInt.toNat), ?_, ⟨hm, hT, e2⟩, ?_⟩
    · show [Value.ref 324, .int x, .ref 193] = [.ref 324, .int (Int32.ofNat x.toInt.toNat), .ref 193]
      rw [← e1]
    · rintro rv A' ⟨rfl, hQ⟩
      refine ⟨(332, 2 + 2 * s.toInt.toNat), ?_, ⟨zB_332, zB_s (show s.toInt.toNat < 60 by have := hs.1; have := hs.2; omega)⟩, fun h3 => ?_, fun h3 => ?_⟩
      · show [Value.ref 332, zat c s (.ref (2 + 2 * s.toInt.toNat))] = _
        rw [e0]
      · refine Or.inr (Or.inr ⟨hs, hx, hQ, ?_⟩)
        show some (Value.int (Int32.ofInt 0)) = some (.int (zb (wiB (zJ A' 333) (zJ A' (2 + 2 * s.toInt.toNat + 1)) 4)))
        rw [zb_f h3]
        rfl
      · refine Or.inr (Or.inr ⟨hs, hx, hQ, ?_⟩)
        show some (Value.int (Int32.ofInt 1)) = some (.int (zb (wiB (zJ A' 333) (zJ A' (2 + 2 * s.toInt.toNat + 1)) 4)))
        rw [zb_t h3]
        rfl
  · exact Or.inr (Or.inl ⟨hs, zb_n (Classical.not_not.mp h2), rfl, rfl⟩)
