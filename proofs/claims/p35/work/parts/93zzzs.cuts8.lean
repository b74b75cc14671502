/-! cuts, cutOf, many -/
/-- the i-th of them -/
def nthP (p : Nat → Bool) (m : Nat) (i : Int) (S : Nat) : Prop := S < m ∧ p S = true ∧ ((cN p S : Nat) : Int) = i
theorem cN_succ {p : Nat → Bool} {n : Nat} (h : p n = true) : cN p (n + 1) = cN p n + 1 := by
  show cN p n + (if p n = true then 1 else 0) = _
  rw [if_pos h]
theorem cN_lt {p : Nat → Bool} {a b : Nat} (h : a < b) (ha : p a = true) : cN p a < cN p b := by
  have h1 := cN_mono (p := p) (show a + 1 ≤ b by omega)
  rw [cN_succ ha] at h1
  omega
theorem nthP_uni {p : Nat → Bool} {m : Nat} {i : Int} {S T : Nat} (h1 : nthP p m i S) (h2 : nthP p m i T) : S = T := by
  obtain ⟨-, a2, a3⟩ := h1
  obtain ⟨-, b2, b3⟩ := h2
  rcases Nat.lt_trichotomy S T with h | h | h
  · have := cN_lt (p := p) h a2
    omega
  · exact h
  · have := cN_lt (p := p) h b2
    omega
theorem nthP_ex {p : Nat → Bool} {i : Int} : ∀ {m : Nat}, 0 ≤ i → i < ((cN p m : Nat) : Int) → ∃ S, nthP p m i S
  | 0, h0, h1 => by
    have h1 : i < ((0 : Nat) : Int) := h1
    omega
  | m + 1, h0, h1 => by
    by_cases c : i < ((cN p m : Nat) : Int)
    · obtain ⟨S, a1, a2, a3⟩ := nthP_ex h0 c
      exact ⟨S, by omega, a2, a3⟩
    · by_cases hp : p m = true
      · rw [cN_succ hp] at h1
        exact ⟨m, Nat.lt_succ_self m, hp, by omega⟩
      · have h2 : cN p (m + 1) = cN p m := by
          show cN p m + (if p m = true then 1 else 0) = _
          rw [if_neg hp]
          rfl
        rw [h2] at h1
        exact absurd h1 c
theorem nthP_lt {p : Nat → Bool} {m : Nat} {i : Int} {S : Nat} (h : nthP p m i S) : 0 ≤ i ∧ i < ((cN p m : Nat) : Int) := by
  obtain ⟨a1, a2, a3⟩ := h
  have := cN_lt (p := p) a1 a2
  omega
/-- the answer of a list -/
def atR (p : Nat → Bool) (m : Nat) (i v : Int32) : Prop := (∃ S, nthP p m i.toInt S ∧ v = Int32.ofNat S) ∨ ((¬ ∃ S, nthP p m i.toInt S) ∧ v = -1)
theorem atR_uni {p p' : Nat → Bool} {m m' : Nat} {i v v' : Int32} (he : ∀ S, nthP p m i.toInt S ↔ nthP p' m' i.toInt S) (h : atR p m i v) (h' : atR p' m' i v') : v = v' := by
  rcases h with ⟨S, a, rfl⟩ | ⟨a, rfl⟩
  · rcases h' with ⟨T, b, rfl⟩ | ⟨b, rfl⟩
    · rw [nthP_uni a ((he T).mpr b)]
    · exact absurd ⟨S, (he S).mp a⟩ b
  · rcases h' with ⟨T, b, rfl⟩ | ⟨b, rfl⟩
    · exact absurd ⟨T, (he T).mpr b⟩ a
    · rfl
/-- a word's bits of rank j and above -/
def rkB (x : Int64) (j u : Nat) : Bool := x.toBitVec.getLsbD u && decide (j ≤ cN (fun i => x.toBitVec.getLsbD i) u)
theorem and1_b {x : Int64} {e : Nat} (h1 : x.toBitVec.getLsbD e = true) (h2 : ∀ i, i < e → x.toBitVec.getLsbD i = false) (he : e < 64) (i : Nat) : (x &&& (x - Int64.ofNat 1)).toBitVec.getLsbD i = true ↔ x.toBitVec.getLsbD i = true ∧ i ≠ e := by
  have hn1 : (nL x).testBit e = true := by rw [nL_b]; exact h1
  have hge := Nat.ge_two_pow_of_testBit hn1
  have hp := Nat.two_pow_pos e
  have es : nL (x - Int64.ofNat 1) = nL x - 1 := by
    rw [nL_sub (by rw [one_64]; omega), one_64]
  have h := low_b (i := i) hn1 (fun i hi => by rw [nL_b]; exact h2 i hi)
  rw [Nat.testBit_and, ← es, nL_b, nL_b] at h
  rw [Int64.toBitVec_and, BitVec.getLsbD_and]
  exact h
theorem at_n {C D l i : Int} {j : Nat} (h1 : C + (j : Int) + l = i) (h2 : (j : Int) + l < D) (h3 : ¬ l ≤ 0) : 0 ≤ l - 1 ∧ C + ((j + 1 : Nat) : Int) + (l - 1) = i ∧ ((j + 1 : Nat) : Int) + (l - 1) < D := ⟨by omega, by omega, by omega⟩
theorem at_z {C D l i : Int} (h1 : l = i - C) (h2 : 0 ≤ l) (h3 : ¬ D ≤ l) : C + ((0 : Nat) : Int) + l = i ∧ ((0 : Nat) : Int) + l < D := ⟨by omega, by omega⟩
theorem at_m {C D l i : Int} (h1 : l = i - C) (h2 : D ≤ l) (h4 : 0 ≤ D) : l - D = i - (C + D) ∧ 0 ≤ l - D := ⟨by omega, by omega⟩
theorem at_e {D l : Int} {j : Nat} (h1 : 0 ≤ l) (h2 : (j : Int) + l < D) : (0 : Int) ≤ (j : Int) ∧ (j : Int) < D := ⟨by omega, by omega⟩
theorem at_f {C l i : Int} {j : Nat} {ce : Nat} (h1 : C + (j : Int) + l = i) (h2 : l ≤ 0) (h3 : 0 ≤ l) (h4 : ce = j) : C + (ce : Int) = i := by omega
def zq_at : zQ := zs (fun a : Nat × Int32 => [.ref a.1, .int a.2]) (fun a _ => zB a.1 64 = true) (fun a A rv A' => ∃ v : Int32, rv = some (.int v) ∧ atR (bF (zJ A (a.1 + 1))) 4096 a.2 v ∧ A' = A)
def in_at4 (A : zW) (q : Nat) (i : Int32) : fL_ → List Value → zW → Prop := fun lg vs A' => ∃ (r : Nat) (l : Int32), f_sub [(3, false, .int (Int32.ofNat r)), (2, false, .int l), (0, false, .ref q)] lg ∧ vs = [] ∧ A' = A ∧ r ≤ 64 ∧ l.toInt = i.toInt - ((cN (bF (zJ A (q + 1))) (64 * r) : Nat) : Int) ∧ (0 ≤ l.toInt ∨ r = 0)
def in_at38 (A : zW) (q : Nat) (i : Int32) : fL_ → List Value → zW → Prop := fun lg vs A' => ∃ (r j : Nat) (l : Int32) (x : Int64), f_sub [(4, true, .long x), (3, false, .int (Int32.ofNat r)), (2, false, .int l), (0, false, .ref q)] lg ∧ vs = [] ∧ A' = A ∧ r < 64 ∧ 0 ≤ l.toInt ∧ ((cN (bF (zJ A (q + 1))) (64 * r) : Nat) : Int) + (j : Int) + l.toInt = i.toInt ∧ (j : Int) + l.toInt < ((cN (fun u => (zJ A (q + 1) r).toBitVec.getLsbD u) 64 : Nat) : Int) ∧ ∀ u, u < 64 → x.toBitVec.getLsbD u = rkB (zJ A (q + 1) r) j u
theorem cN_row {f : Nat → Int64} {r u : Nat} (hu : u ≤ 64) : cN (bF f) (64 * r + u) = cN (bF f) (64 * r) + cN (fun i => (f r).toBitVec.getLsbD i) u := by
  rw [cN_add]
  have e : cN (fun i => bF f (64 * r + i)) u = cN (fun i => (f r).toBitVec.getLsbD i) u := cN_eq (fun i hi => bF_at (by omega))
  rw [e]
set_option maxRecDepth 20000 in
set_option maxHeartbeats 16000000 in
theorem zc_X1_at : zdo r_X1_at zq_at := by
  refine zdo_of _ _ _ [(139, 1, zq_lbc), (157, 1, zq_lowest)] (fun a A => [(4, in_at4 A a.1 a.2), (38, in_at38 A a.1 a.2)]) 80 fo_X1 rfl (zs_cons rfl za_J13_bitCount (zs_cons rfl za_X1_lowest zs_nil)) k_X1_at (fun a A hp => ?_) (fun a A hp => ?_)
  · obtain ⟨q, i⟩ := a
    have hB : zB q 64 = true := hp
    have e64 : (Int32.ofNat 64).toInt = 64 := by decide
    refine List.forall_mem_cons.mpr ⟨?_, List.forall_mem_cons.mpr ⟨?_, fun _ h => absurd h List.not_mem_nil⟩⟩
    · rintro lg vs A' ⟨r, l, hs, rfl, rfl, hr, hl, hc⟩
      have hr : r ≤ 64 := hr
      have hl : l.toInt = i.toInt - ((cN (bF (zJ A' (q + 1))) (64 * r) : Nat) : Int) := hl
      have tr := n32_t (show r < 4096 by omega)
      have none_ : (¬ ∃ S, nthP (bF (zJ A' (q + 1))) 4096 i.toInt S) → ∃ v : Int32, some (Value.int (Int32.ofInt (-1))) = some (.int v) ∧ atR (bF (zJ A' (q + 1))) 4096 i v ∧ A' = A' := fun h => ⟨-1, rfl, Or.inr ⟨h, rfl⟩, rfl⟩
      refine ⟨_, 80, hs, fun h => ?_, fun h => ⟨fun h2 => ?_, fun h2 => ?_⟩⟩
      · have h : (Int32.ofNat (zkd A' (rv_ (zfl A' q (kfd fl_X1 13 (zkd A' q)))))).toInt ≤ (Int32.ofNat r).toInt := h
        rw [zB_l hB, e64, tr] at h
        have e4 : 64 * r = 4096 := by omega
        rw [e4] at hl
        refine none_ (fun ⟨S, hS⟩ => ?_)
        have h2 := nthP_lt hS
        rcases hc with hc | hc <;> omega
      · have h2 : l.toInt < 0 := h2
        refine none_ (fun ⟨S, hS⟩ => ?_)
        have h3 := nthP_lt hS
        rcases hc with hc | hc
        · omega
        · rw [hc] at hl
          have h4 : cN (bF (zJ A' (q + 1))) (64 * 0) = 0 := rfl
          rw [h4] at hl
          omega
      · have h : ¬ (Int32.ofNat (zkd A' (rv_ (zfl A' q (kfd fl_X1 13 (zkd A' q)))))).toInt ≤ (Int32.ofNat r).toInt := h
        rw [zB_l hB, e64, tr] at h
        have h2 : ¬ l.toInt < 0 := h2
        have hr6 : r < 64 := by omega
        have eR : zJ A' (rv_ (zfl A' q (kfd fl_X1 13 (zkd A' q)))) (Int32.ofNat r).toNatClampNeg = zJ A' (q + 1) r := by
          rw [zB_f hB, n32_c (by omega)]
          rfl
        have hbc := bc_cN (x := zJ A' (q + 1) r)
        have hcl := cN_le (p := fun u => (zJ A' (q + 1) r).toBitVec.getLsbD u) (n := 64)
        refine ⟨zJ A' (q + 1) r, ?_, trivial, fun h3 => ?_, fun h3 => ?_⟩
        · show [Value.long (zJ A' (rv_ (zfl A' q (kfd fl_X1 13 (zkd A' q)))) (Int32.ofNat r).toNatClampNeg)] = _
          rw [eR]
        · have h3 : (bcV (zJ A' (q + 1) r)).toInt ≤ l.toInt := h3
          rw [hbc] at h3
          have e1 := cN_row (f := zJ A' (q + 1)) (r := r) (u := 64) (Nat.le_refl 64)
          rw [show 64 * r + 64 = 64 * (r + 1) by omega] at e1
          have hls : (l - bcV (zJ A' (q + 1) r)).toInt = l.toInt - ((cN (fun u => (zJ A' (q + 1) r).toBitVec.getLsbD u) 64 : Nat) : Int) := by
            have := Int32.toInt_lt l
            rw [Int32.toInt_sub, hbc]
            exact Int.bmod_eq_of_le (by omega) (by omega)
          refine ⟨r + 1, l - bcV (zJ A' (q + 1) r), ⟨?_, rfl, rfl, trivial⟩, rfl, rfl, (show r + 1 ≤ 64 by omega), ?_, Or.inl ?_⟩
          · show some (false, Value.int (Int32.ofNat r + Int32.ofInt 1)) = some (false, .int (Int32.ofNat (r + 1)))
            rw [n32_s (by omega)]
          · show (l - bcV (zJ A' (q + 1) r)).toInt = i.toInt - ((cN (bF (zJ A' (q + 1))) (64 * (r + 1)) : Nat) : Int)
            rw [hls, e1, Int.natCast_add]
            exact (at_m hl h3 (Int.natCast_nonneg _)).1
          · rw [hls]
            exact (at_m hl h3 (Int.natCast_nonneg _)).2
        · have h3 : ¬ (bcV (zJ A' (q + 1) r)).toInt ≤ l.toInt := h3
          rw [hbc] at h3
          have l0 : 0 ≤ l.toInt := by omega
          have hz := at_z hl l0 h3
          refine ⟨r, 0, l, zJ A' (q + 1) r, ⟨?_, rfl, rfl, rfl, trivial⟩, rfl, rfl, hr6, l0, hz.1, hz.2, fun u hu => ?_⟩
          · show some (true, Value.long (zJ A' (rv_ (zfl A' q (kfd fl_X1 13 (zkd A' q)))) (Int32.ofNat r).toNatClampNeg)) = _
            rw [eR]
          · unfold rkB
            rw [decide_eq_true (Nat.zero_le _), Bool.and_true]
    · rintro lg vs A' ⟨r, j, l, x, hs, rfl, rfl, hr, l0, hl, hlt, hx⟩
      have hr : r < 64 := hr
      have l0 : 0 ≤ l.toInt := l0
      have hl : ((cN (bF (zJ A' (q + 1))) (64 * r) : Nat) : Int) + (j : Int) + l.toInt = i.toInt := hl
      have hlt : (j : Int) + l.toInt < ((cN (fun u => (zJ A' (q + 1) r).toBitVec.getLsbD u) 64 : Nat) : Int) := hlt
      obtain ⟨p, hp⟩ : ∃ p : Nat → Bool, p = fun u => (zJ A' (q + 1) r).toBitVec.getLsbD u := ⟨_, rfl⟩
      rw [← hp] at hlt
      have hx : ∀ u, u < 64 → x.toBitVec.getLsbD u = (p u && decide (j ≤ cN p u)) := by
        rw [hp]
        exact hx
      -- the lowest one
      obtain ⟨e, e64, e1, e2⟩ := nthP_ex (p := p) (i := (j : Int)) (m := 64) (at_e l0 hlt).1 (at_e l0 hlt).2
      have e2 : cN p e = j := Int.ofNat.inj e2
      have lo1 : x.toBitVec.getLsbD e = true := by rw [hx e e64, e1, e2, decide_eq_true (Nat.le_refl j)]; rfl
      have lo2 : ∀ v, v < e → x.toBitVec.getLsbD v = false := fun v hv => by
        rw [hx v (by omega)]
        cases hpv : p v with
        | false => rfl
        | true =>
          have := cN_lt (p := p) hv hpv
          rw [decide_eq_false (by omega)]
          rfl
      refine ⟨_, 80, hs, fun h => ?_, fun h => ?_⟩
      · have h : l.toInt ≤ 0 := h
        have hv := lwV_ok e64 lo1 lo2
        have t1 := n32_t (show 64 * r < 4096 by omega)
        have es : (Int32.ofNat r <<< (Int32.ofInt 6 &&& 31)) + lwV x = Int32.ofNat (64 * r + e) := by
          refine Int32.toInt_inj.mp ?_
          rw [n32_s6 r hr, i_add (by rw [t1, hv]; omega) (by rw [t1, hv]; omega), t1, hv, n32_t (by omega)]
          omega
        refine ⟨x, rfl, trivial, _, rfl, Or.inl ⟨64 * r + e, ⟨by omega, ?_, ?_⟩, es⟩, rfl⟩
        · rw [bF_at e64]
          rw [hp] at e1
          exact e1
        · rw [cN_row (by omega)]
          have e3 : cN (fun i => (zJ A' (q + 1) r).toBitVec.getLsbD i) e = j := by
            rw [← hp]
            exact e2
          rw [e3, Int.natCast_add]
          exact at_f hl h l0 rfl
      · have h : ¬ l.toInt ≤ 0 := h
        have em1 : (Int32.ofInt (-1)).toInt = -1 := by decide
        have hls : (l + Int32.ofInt (-1)).toInt = l.toInt - 1 := by
          have := Int32.toInt_lt l
          rw [i_add (by rw [em1]; omega) (by rw [em1]; omega), em1]
          omega
        refine ⟨r, j + 1, l + Int32.ofInt (-1), x &&& (x - Int64.ofNat 1), ⟨rfl, rfl, rfl, rfl, trivial⟩, rfl, rfl, hr, (by rw [hls]; exact (at_n hl hlt h).1), ?_, ?_, fun u hu => ?_⟩
        · show ((cN (bF (zJ A' (q + 1))) (64 * r) : Nat) : Int) + ((j + 1 : Nat) : Int) + (l + Int32.ofInt (-1)).toInt = i.toInt
          rw [hls]
          exact (at_n hl hlt h).2.1
        · show ((j + 1 : Nat) : Int) + (l + Int32.ofInt (-1)).toInt < ((cN (fun u => (zJ A' (q + 1) r).toBitVec.getLsbD u) 64 : Nat) : Int)
          rw [hls, ← hp]
          exact (at_n hl hlt h).2.2
        · have h1 := and1_b lo1 lo2 e64 u
          rw [hx u hu] at h1
          have h2 : rkB (zJ A' (q + 1) r) (j + 1) u = (p u && decide (j + 1 ≤ cN p u)) := by
            rw [hp]
            rfl
          rw [h2]
          cases hpu : p u with
          | false =>
            rw [hpu] at h1
            refine Bool.eq_false_iff.mpr (fun z => ?_)
            have := (h1.mp z).1
            cases this
          | true =>
            rw [hpu] at h1
            by_cases c : j + 1 ≤ cN p u
            · rw [decide_eq_true c]
              refine h1.mpr ⟨by rw [decide_eq_true (show j ≤ cN p u by omega)]; rfl, fun z => ?_⟩
              rw [z] at c
              omega
            · rw [decide_eq_false c]
              refine Bool.eq_false_iff.mpr (fun z => ?_)
              obtain ⟨z1, z2⟩ := h1.mp z
              have z1 : decide (j ≤ cN p u) = true := z1
              have z1 := of_decide_eq_true z1
              have h5 : cN p u = cN p e := by omega
              rcases Nat.lt_trichotomy u e with h6 | h6 | h6
              · have := cN_lt (p := p) h6 hpu
                omega
              · exact z2 h6
              · have := cN_lt (p := p) h6 e1
                omega
  · obtain ⟨q, i⟩ := a
    exact ⟨0, i, ⟨rfl, rfl, rfl, trivial⟩, rfl, rfl, (by decide : 0 ≤ 64), (by
      show i.toInt = i.toInt - ((0 : Nat) : Int)
      omega), Or.inr rfl⟩
/-! cuts -/
def cuQ (c s : Int32) (F : Nat → Bool) (G : zW) (A : zW) (rv : Option Value) (A' : zW) : Prop := (¬ lePs c s ∧ rv = some (.int (-1)) ∧ A' = A) ∨ (lePs c s ∧ rv = some (.int (Int32.ofNat (cN F 4096))) ∧ A' = G)
def coQ (c s i : Int32) (F : Nat → Bool) (G : zW) (A : zW) (rv : Option Value) (A' : zW) : Prop := (¬ lePs c s ∧ rv = some (.int (-1)) ∧ A' = A) ∨ (lePs c s ∧ (∃ v, rv = some (.int v) ∧ atR F 4096 i v) ∧ A' = G)
theorem le_zcu {a : leA} {A : zW} (hp : leP a A) (hs : lePs a.1.1 a.2) : zcuP (lecA a) A := (le_zlc hp hs).1
def zq_cutsC : zQ := zs (fun a : leA => [.ref 0, .int a.2]) leP (fun a A => cuQ a.1.1 a.2 (zlcF (lecA a) A) (zcuW A (leq a.2) (zcuV (lecA a) A)) A)
set_option maxRecDepth 20000 in
set_option maxHeartbeats 4000000 in
theorem zc_X11_cuts : zdo r_X11_cuts zq_cutsC := by
  refine zdo_of _ _ _ [(381, 2, zq_sentenceAt), (792, 2, zq_cutsFor), (438, 1, zq_size)] (fun _ _ => []) 60 fo_X11 rfl (zs_cons rfl za_X11_sentenceAt (zs_cons rfl zc_X2_cutsFor (zs_cons rfl za_X1_size zs_nil))) k_X11_cuts (fun _ _ _ => no_zh) (fun a A hp => ?_)
  have hp0 := hp
  obtain ⟨⟨c, n, t, k⟩, s⟩ := a
  obtain ⟨⟨hc, hc60⟩, -⟩ := hp
  refine ⟨(s, c), rfl, ⟨hc, hc60⟩, fun h => ?_, fun h => ?_⟩
  · have hs : lePs c s := zat_y h
    have e1 : zat c s (.ref (2 + 2 * s.toInt.toNat)) = .ref (2 + 2 * s.toInt.toNat) := if_pos hs
    refine ⟨lecA ((c, n, t, k), s), ?_, le_zcu hp0 hs, ?_⟩
    · show [Value.ref 193, zat c s (.ref (2 + 2 * s.toInt.toNat))] = [.ref 193, .ref (leq s)]
      rw [e1]
      rfl
    · refine ⟨(201, 64), rfl, ⟨zB_201, (by decide : 64 ≤ 64)⟩, Or.inr ⟨hs, ?_, rfl⟩⟩
      have eJ : zJ (zcuW A (leq s) (zcuV (lecA ((c, n, t, k), s)) A)) 202 = fun x => if x < 64 then lwR (zcuG A (leq s) (zcuV (lecA ((c, n, t, k), s)) A)) 12 x else zJ A 202 x := zJ_s
      have e := szA_cN (f := zJ (zcuW A (leq s) (zcuV (lecA ((c, n, t, k), s)) A)) 202) (k := 64) (by decide)
      rw [show (64 : Nat) * 64 = 4096 from rfl, eJ] at e
      show some (Value.int (szA bcV (zJ (zcuW A (leq s) (zcuV (lecA ((c, n, t, k), s)) A)) 202) 64)) = _
      rw [eJ]
      refine congrArg (fun z => some (Value.int z)) (Int32.toInt_inj.mp ?_)
      have hle := cN_le (p := zlcF (lecA ((c, n, t, k), s)) A) (n := 4096)
      rw [e, Int32.toInt_ofNat_of_lt (by omega)]
      rfl
  · have h : zat c s (.ref (2 + 2 * s.toInt.toNat)) = .null := h
    exact Or.inl ⟨fun z => zat_n (fun z => by cases z) h z, rfl, rfl⟩
def zq_cutOfC : zQ := zs (fun a : leA × Int32 => [.ref 0, .int a.1.2, .int a.2]) (fun a A => leP a.1 A) (fun a A => coQ a.1.1.1 a.1.2 a.2 (zlcF (lecA a.1) A) (zcuW A (leq a.1.2) (zcuV (lecA a.1) A)) A)
set_option maxRecDepth 20000 in
set_option maxHeartbeats 4000000 in
theorem zc_X11_cutOf : zdo r_X11_cutOf zq_cutOfC := by
  refine zdo_of _ _ _ [(381, 2, zq_sentenceAt), (792, 2, zq_cutsFor), (753, 2, zq_at)] (fun _ _ => []) 60 fo_X11 rfl (zs_cons rfl za_X11_sentenceAt (zs_cons rfl zc_X2_cutsFor (zs_cons rfl zc_X1_at zs_nil))) k_X11_cutOf (fun _ _ _ => no_zh) (fun a A hp => ?_)
  have hp0 := hp
  obtain ⟨⟨⟨c, n, t, k⟩, s⟩, i⟩ := a
  obtain ⟨⟨hc, hc60⟩, -⟩ := hp
  refine ⟨(s, c), rfl, ⟨hc, hc60⟩, fun h => ?_, fun h => ?_⟩
  · have hs : lePs c s := zat_y h
    have e1 : zat c s (.ref (2 + 2 * s.toInt.toNat)) = .ref (2 + 2 * s.toInt.toNat) := if_pos hs
    refine ⟨lecA ((c, n, t, k), s), ?_, le_zcu hp0 hs, ?_⟩
    · show [Value.ref 193, zat c s (.ref (2 + 2 * s.toInt.toNat))] = [.ref 193, .ref (leq s)]
      rw [e1]
      rfl
    · refine ⟨(201, i), rfl, zB_201, ?_⟩
      rintro rv A' ⟨v, rfl, hv, rfl⟩
      have eJ : zJ (zcuW A (leq s) (zcuV (lecA ((c, n, t, k), s)) A)) 202 = fun x => if x < 64 then lwR (zcuG A (leq s) (zcuV (lecA ((c, n, t, k), s)) A)) 12 x else zJ A 202 x := zJ_s
      have hv : atR (bF (zJ (zcuW A (leq s) (zcuV (lecA ((c, n, t, k), s)) A)) 202)) 4096 i v := hv
      rw [eJ] at hv
      have hv0 : 0 ≤ v.toInt ∨ v = -1 := by
        rcases hv with ⟨S, hS, rfl⟩ | ⟨-, rfl⟩
        · exact Or.inl (by rw [n32_t hS.1]; omega)
        · exact Or.inr rfl
      refine ⟨fun h2 => ?_, fun h2 => ?_⟩
      · exact Or.inr ⟨hs, ⟨v, rfl, hv⟩, rfl⟩
      · have h2 : ¬ 0 ≤ v.toInt := h2
        have ev : v = -1 := hv0.resolve_left h2
        refine Or.inr ⟨hs, ⟨v, ?_, hv⟩, rfl⟩
        rw [ev]
        rfl
  · have h : zat c s (.ref (2 + 2 * s.toInt.toNat)) = .null := h
    exact Or.inl ⟨fun z => zat_n (fun z => by cases z) h z, rfl, rfl⟩
/-- the reference's -/
def icF (A : zW) (a : laA) (s : Nat) : Nat → Bool := fun S => icN A (vwN (mvP A a.2.1 a.2.2) a.1.toInt.toNat) S s (Int32.ofInt 0) a.1.toInt.toNat
abbrev caA : Type := laA × Nat × Int32
def caQ (a : caA) (A : zW) (rv : Option Value) (A' : zW) : Prop := laQ a.1 A A' ∧ ∃ v, rv = some (.int v) ∧ ((a.2.2.toInt < 0 ∧ v = Int32.ofNat (cN (icF A' a.1 a.2.1) (2 ^ a.1.1.toInt.toNat))) ∨ (0 ≤ a.2.2.toInt ∧ atR (icF A' a.1 a.2.1) (2 ^ a.1.1.toInt.toNat) a.2.2 v))
def zq_cutAt : zQ := zs (fun a : caA => [.ref 343, .int (Int32.ofNat a.2.1), .int a.2.2]) (fun a A => laP a.1 A ∧ a.2.1 < 60) caQ
def in_cat (a : caA) (A : zW) : fL_ → List Value → zW → Prop := fun lg vs A' => ∃ c : Nat, f_sub [(4, false, .int (Int32.ofNat c)), (3, false, .int (Int32.ofNat (cN (icF A' a.1 a.2.1) c))), (0, false, .ref 343), (1, false, .int (Int32.ofNat a.2.1)), (2, false, .int a.2.2)] lg ∧ vs = [] ∧ laQ a.1 A A' ∧ c ≤ 2 ^ a.1.1.toInt.toNat ∧ ∀ S, S < c → icF A' a.1 a.2.1 S = true → ¬ ((cN (icF A' a.1 a.2.1) S : Nat) : Int) = a.2.2.toInt
set_option maxRecDepth 20000 in
set_option maxHeartbeats 8000000 in
theorem zc_X12_cutAt : zdo r_X12_cutAt zq_cutAt := by
  refine zdo_of _ _ _ [(924, 1, zq_lay8), (1014, 4, zq_isCut)] (fun a A => [(9, in_cat a A)]) 80 fo_X12 rfl (zs_cons rfl zc_X12_lay (zs_cons rfl zc_X12_isCut zs_nil)) k_X12_cutAt (fun a A hp => ?_) (fun a A hp => ?_)
  · obtain ⟨⟨n, t, k⟩, s, i⟩ := a
    obtain ⟨hla, hs6⟩ := hp
    have n0 : 0 ≤ n.toInt := hla.1.2.1
    have n1 : n.toInt ≤ 12 := hla.1.2.2
    have h2n := n32_n n0 n1
    have hm := p2_le n.toInt.toNat (by omega)
    refine List.forall_mem_cons.mpr ⟨?_, fun _ h => absurd h List.not_mem_nil⟩
    rintro lg vs A' ⟨c, hs, rfl, hQ, hc, hno⟩
    have hc : c ≤ 2 ^ n.toInt.toNat := hc
    have hQ : laQ (n, t, k) A A' := hQ
    obtain ⟨g, ⟨⟨r8, -, -⟩, hs0, ⟨r15, r16⟩, -⟩, hLw, h20⟩ := id hQ
    have r8 : zF A' 343 8 = .int n := r8
    have h20 : zF A' 343 20 = .int (Int32.ofNat (vwN (mvP A' t k) n.toInt.toNat)) := h20
    have hVn : vwN (mvP A' t k) n.toInt.toNat < 2 ^ n.toInt.toNat := vwN_lt
    have tc : (Int32.ofNat c).toInt = (c : Int) := Int32.toInt_ofNat_of_lt (by omega)
    have eq1 : some (false, Value.int (Int32.ofNat c + Int32.ofInt 1)) = some (false, .int (Int32.ofNat (c + 1))) := by rw [n32_s (by omega)]
    obtain ⟨p, hp⟩ : ∃ p, p = icF A' (n, t, k) s := ⟨_, rfl⟩
    have hs : f_sub [(4, false, .int (Int32.ofNat c)), (3, false, .int (Int32.ofNat (cN p c))), (0, false, .ref 343), (1, false, .int (Int32.ofNat s)), (2, false, .int i)] lg := by
      rw [hp]
      exact hs
    have hno : ∀ S, S < c → p S = true → ¬ ((cN p S : Nat) : Int) = i.toInt := by
      rw [hp]
      exact hno
    have hcl := cN_le (p := p) (n := c)
    have tcn : (Int32.ofNat (cN p c)).toInt = ((cN p c : Nat) : Int) := Int32.toInt_ofNat_of_lt (by omega)
    refine ⟨_, 80, hs, fun h => ?_, fun h => ?_⟩
    · have h : (Int32.ofInt 1 <<< (iv (zF A' 343 8) &&& 31)).toInt ≤ (Int32.ofNat c).toInt := h
      rw [r8] at h
      have h : (Int32.ofInt 1 <<< (n &&& 31)).toInt ≤ (Int32.ofNat c).toInt := h
      rw [h2n, tc] at h
      have ec : c = 2 ^ n.toInt.toNat := by omega
      refine ⟨fun h2 => ?_, fun h2 => ?_⟩
      · have h2 : 0 ≤ i.toInt := h2
        refine ⟨hQ, -1, rfl, Or.inr ⟨h2, Or.inr ⟨?_, rfl⟩⟩⟩
        rintro ⟨S, a1, a2, a3⟩
        refine hno S (by rw [ec]; exact a1) ?_ ?_
        · rw [hp]
          exact a2
        · rw [hp]
          exact a3
      · have h2 : ¬ 0 ≤ i.toInt := h2
        refine ⟨hQ, Int32.ofNat (cN p c), rfl, Or.inl ⟨(show i.toInt < 0 by omega), ?_⟩⟩
        rw [hp, ec]
    · have h : ¬ (Int32.ofInt 1 <<< (iv (zF A' 343 8) &&& 31)).toInt ≤ (Int32.ofNat c).toInt := h
      rw [r8] at h
      have h : ¬ (Int32.ofInt 1 <<< (n &&& 31)).toInt ≤ (Int32.ofNat c).toInt := h
      rw [h2n, tc] at h
      have hc4 : c < 4096 := by omega
      have le1 : c + 1 ≤ 2 ^ n.toInt.toNat := by omega
      refine ⟨((c, n, vwN (mvP A' t k) n.toInt.toNat), s, Int32.ofInt 0), rfl, ⟨⟨r8, n0, n1⟩, ⟨h20, hVn⟩, hc4, hs6⟩, fun h2 => ?_, fun h2 => ⟨fun h3 => ?_, fun h3 => ?_⟩⟩
      · have h2 : (zb (p c)).toInt = 0 := by
          rw [hp]
          exact h2
        have h2 := zb_f h2
        have e1 : cN p (c + 1) = cN p c := by
          show cN p c + (if p c = true then 1 else 0) = _
          rw [if_neg (by rw [h2]; exact Bool.false_ne_true)]
          rfl
        refine ⟨c + 1, ⟨eq1, ?_, rfl, rfl, rfl, trivial⟩, rfl, hQ, le1, fun S hS hpS => ?_⟩
        · show some (false, Value.int (Int32.ofNat (cN p c))) = some (false, .int (Int32.ofNat (cN (icF A' (n, t, k) s) (c + 1))))
          rw [← hp, e1]
        · show ¬ ((cN (icF A' (n, t, k) s) S : Nat) : Int) = i.toInt
          have hpS : icF A' (n, t, k) s S = true := hpS
          rw [← hp] at hpS ⊢
          by_cases e : S = c
          · rw [e, h2] at hpS
            cases hpS
          · exact hno S (by omega) hpS
      · have h2 : ¬ (zb (p c)).toInt = 0 := by
          rw [hp]
          exact h2
        have h2 := zb_t h2
        have h3 : ¬ (Int32.ofNat (cN p c)).toInt = i.toInt := h3
        rw [tcn] at h3
        have e1 : cN p (c + 1) = cN p c + 1 := cN_succ h2
        refine ⟨c + 1, ⟨eq1, ?_, rfl, rfl, rfl, trivial⟩, rfl, hQ, le1, fun S hS hpS => ?_⟩
        · show some (false, Value.int (Int32.ofNat (cN p c) + Int32.ofInt 1)) = some (false, .int (Int32.ofNat (cN (icF A' (n, t, k) s) (c + 1))))
          rw [← hp, e1, n32_s (by omega)]
        · show ¬ ((cN (icF A' (n, t, k) s) S : Nat) : Int) = i.toInt
          have hpS : icF A' (n, t, k) s S = true := hpS
          rw [← hp] at hpS ⊢
          by_cases e : S = c
          · rw [e]
            exact h3
          · exact hno S (by omega) hpS
      · have h2 : ¬ (zb (p c)).toInt = 0 := by
          rw [hp]
          exact h2
        have h2 := zb_t h2
        have h3 : ¬ ¬ (Int32.ofNat (cN p c)).toInt = i.toInt := h3
        rw [tcn] at h3
        have h3 := Classical.not_not.mp h3
        refine ⟨hQ, Int32.ofNat c, rfl, Or.inr ⟨(show 0 ≤ i.toInt by omega), Or.inl ⟨c, ⟨(show c < 2 ^ n.toInt.toNat from le1), ?_, ?_⟩, rfl⟩⟩⟩
        · rw [← hp]
          exact h2
        · rw [← hp]
          exact h3
  · obtain ⟨⟨n, t, k⟩, s, i⟩ := a
    obtain ⟨hla, hs6⟩ := hp
    refine ⟨(n, t, k), rfl, hla, ?_⟩
    rintro rv A' ⟨rfl, hQ⟩
    exact ⟨0, ⟨rfl, rfl, rfl, rfl, rfl, trivial⟩, rfl, hQ, Nat.zero_le _, fun S hS => absurd hS (Nat.not_lt_zero S)⟩
def cmQ (a : lmmA) (A : zW) (rv : Option Value) (A' : zW) : Prop := (¬ lePs a.1.1 a.2 ∧ rv = some (.int (-1)) ∧ A' = A) ∨ (lePs a.1.1 a.2 ∧ caQ (a.1.2, a.2.toInt.toNat, Int32.ofInt (-1)) A rv A')
def zq_cutsM : zQ := zs (fun a : lmmA => [.ref 343, .int a.2]) lmmP cmQ
set_option maxRecDepth 20000 in
theorem zc_X12_cuts : zdo r_X12_cuts zq_cutsM := by
  refine zdo_of _ _ _ [(669, 2, q_noSentence), (1023, 3, zq_cutAt)] (fun _ _ => []) 60 fo_X12 rfl (zs_cons rfl za_X12_noSentence (zs_cons rfl zc_X12_cutAt zs_nil)) k_X12_cuts (fun _ _ _ => no_zh) (fun a A hp => ?_)
  obtain ⟨⟨c, n, t, k⟩, s⟩ := a
  obtain ⟨⟨hc, hc60⟩, hla, hw⟩ := hp
  have hc60 : c.toInt ≤ 60 := hc60
  refine ⟨(s, c), rfl, hc, fun h => ?_, fun h => ?_⟩
  · have hs : lePs c s := Classical.not_not.mp (zb_n h)
    have es : s = Int32.ofNat s.toInt.toNat := n32_of (by have := hs.1; omega)
    refine ⟨((n, t, k), s.toInt.toNat, Int32.ofInt (-1)), ?_, ⟨hla, (show s.toInt.toNat < 60 by have := hs.1; have := hs.2; omega)⟩, ?_⟩
    · show [Value.ref 343, .int s, .int (Int32.ofInt (-1))] = [.ref 343, .int (Int32.ofNat s.toInt.toNat), .int (Int32.ofInt (-1))]
      rw [← es]
    · rintro rv A' ⟨hQ, v, rfl, hv⟩
      exact Or.inr ⟨hs, hQ, v, rfl, hv⟩
  · exact Or.inl ⟨zb_y h, rfl, rfl⟩
def comQ (a : lmmA) (i : Int32) (A : zW) (rv : Option Value) (A' : zW) : Prop := (¬ (lePs a.1.1 a.2 ∧ 0 ≤ i.toInt) ∧ rv = some (.int (-1)) ∧ A' = A) ∨ ((lePs a.1.1 a.2 ∧ 0 ≤ i.toInt) ∧ caQ (a.1.2, a.2.toInt.toNat, i) A rv A')
def zq_cutOfM : zQ := zs (fun a : lmmA × Int32 => [.ref 343, .int a.1.2, .int a.2]) (fun a A => lmmP a.1 A) (fun a A => comQ a.1 a.2 A)
set_option maxRecDepth 20000 in
theorem zc_X12_cutOf : zdo r_X12_cutOf zq_cutOfM := by
  refine zdo_of _ _ _ [(669, 2, q_noSentence), (1023, 3, zq_cutAt)] (fun _ _ => []) 60 fo_X12 rfl (zs_cons rfl za_X12_noSentence (zs_cons rfl zc_X12_cutAt zs_nil)) k_X12_cutOf (fun _ _ _ => no_zh) (fun a A hp => ?_)
  obtain ⟨⟨⟨c, n, t, k⟩, s⟩, i⟩ := a
  obtain ⟨⟨hc, hc60⟩, hla, hw⟩ := hp
  have hc60 : c.toInt ≤ 60 := hc60
  refine ⟨(s, c), rfl, hc, fun h => ?_, fun h => ⟨fun h2 => ?_, fun h2 => ?_⟩⟩
  · exact Or.inl ⟨fun z => zb_y h z.1, rfl, rfl⟩
  · have hs : lePs c s := Classical.not_not.mp (zb_n (Classical.not_not.mp h))
    have h2 : 0 ≤ i.toInt := h2
    have es : s = Int32.ofNat s.toInt.toNat := n32_of (by have := hs.1; omega)
    refine ⟨((n, t, k), s.toInt.toNat, i), ?_, ⟨hla, (show s.toInt.toNat < 60 by have := hs.1; have := hs.2; omega)⟩, ?_⟩
    · show [Value.ref 343, .int s, .int i] = [.ref 343, .int (Int32.ofNat s.toInt.toNat), .int i]
      rw [← es]
    · rintro rv A' ⟨hQ, v, rfl, hv⟩
      exact Or.inr ⟨⟨hs, h2⟩, hQ, v, rfl, hv⟩
  · exact Or.inl ⟨fun z => h2 z.2, rfl, rfl⟩
/-- the class's cuts are the reference's -/
theorem O8.cut {A A' : zW} {n m q t k c : Int32} (o : O8 A n m q t k c) {p i : Nat} (hw : ∀ x, x < 4 → zJ A (p + 1) x = fwW A i (Int32.ofInt 0) x) (g : agj S_N A' A) (hL : lwOK A' (zJ A' 354) (2 ^ n.toInt.toNat)) : (∀ S, S < 2 ^ n.toInt.toNat → zlcF (p, n, t, k) A S = icF A' (n, t, k) i S) ∧ ∀ S, 2 ^ n.toInt.toNat ≤ S → S < 4096 → ¬ zlcF (p, n, t, k) A S = true := by
  obtain ⟨⟨-, -, -, hm, hg⟩, hr, -⟩ := o.y
  have gM := g.sub sM_N
  have hm4 := p2_le n.toInt.toNat (by have := o.n; omega)
  have efw : ∀ x, fwW A' i (Int32.ofInt 0) x = fwW A i (Int32.ofInt 0) x := fun x => by
    unfold fwW
    rw [g.2 344 _ (by decide) (by decide +kernel)]
  have hVe : vwN (cvP A t k) n.toInt.toNat = vwN (mvP A' t k) n.toInt.toNat := by
    rw [mvP_m gM]
    exact jv_eq o.e hg
  have hVl : vwN (mvP A' t k) n.toInt.toNat < 2 ^ n.toInt.toNat := vwN_lt
  have ho : ∀ w, w < 256 → (zouF A p w = true ↔ outM A' i (Int32.ofInt 0) w) := fun w hw2 => by
    unfold zouF outM zhW
    rw [hbB_b (by omega), hw (w / 64) (by omega), efw, Bool.not_eq_true', Bool.not_eq_true]
  have ht : ∀ w, w < 256 → ztw A w = trN A' n.toInt.toNat w := fun w hw2 => by
    rw [jM_tr hm o.n.1 o.n.2 hw2]
    have es : seb A' w = seb A w := funext (fun e => by
      unfold seb
      rw [sew_m gM])
    unfold trN
    rw [es]
  have hopS : ∀ T, opS (fun w => zouF A p w = true) (ztw A) (vwN (mvP A' t k) n.toInt.toNat) T ↔ opS (outM A' i (Int32.ofInt 0)) (trN A' n.toInt.toNat) (vwN (mvP A' t k) n.toInt.toNat) T := fun T => by
    constructor
    · rintro ⟨w, w1, w2, w3⟩
      refine ⟨w, w1, (ho w w1).mp w2, fun i a b => w3 i a ?_⟩
      rw [ht w w1]
      exact b
    · rintro ⟨w, w1, w2, w3⟩
      refine ⟨w, w1, (ho w w1).mpr w2, fun i a b => w3 i a ?_⟩
      rw [← ht w w1]
      exact b
  have hp : ∀ S, S < 4096 → (zlcF (p, n, t, k) A S = true ↔ isC (outM A' i (Int32.ofInt 0)) (trN A' n.toInt.toNat) (vwN (mvP A' t k) n.toInt.toNat) S) := fun S hS => by
    have h := zcu_iff (A := A) (q := p) (V := zcuV (p, n, t, k) A) (by show vwN (cvP A t k) n.toInt.toNat < 4096; rw [hVe]; omega) hS
    have e : zcuV (p, n, t, k) A = vwN (mvP A' t k) n.toInt.toNat := hVe
    refine h.trans ?_
    rw [e, cut_iff, cut_iff, hopS S]
    constructor
    · rintro ⟨a, b⟩
      exact ⟨a, fun k hk z => b k hk ((hopS _).mpr z)⟩
    · rintro ⟨a, b⟩
      exact ⟨a, fun k hk z => b k hk ((hopS _).mp z)⟩
  refine ⟨fun S hS => ?_, fun S h1 h2 z => ?_⟩
  · have h2 := icN_iff (A := A') (V := vwN (mvP A' t k) n.toInt.toNat) (c := S) (s := i) (way := Int32.ofInt 0) hL hVl hS
    have h3 := hp S (by omega)
    show zlcF (p, n, t, k) A S = icN A' (vwN (mvP A' t k) n.toInt.toNat) S i (Int32.ofInt 0) n.toInt.toNat
    cases ha : zlcF (p, n, t, k) A S with
    | true => exact (h2.mpr (h3.mp ha)).symm
    | false =>
      cases hb : icN A' (vwN (mvP A' t k) n.toInt.toNat) S i (Int32.ofInt 0) n.toInt.toNat with
      | false => rfl
      | true =>
        have := h3.mpr (h2.mp hb)
        rw [ha] at this
        exact this
  · have h := ((hp S h2).mp z).1
    have hle : S ≤ vwN (mvP A' t k) n.toInt.toNat := Nat.le_of_testBit h
    omega
theorem cut_nth {p p' : Nat → Bool} {m : Nat} {i : Int} (hm : m ≤ 4096) (h1 : ∀ S, S < m → p S = p' S) (h2 : ∀ S, m ≤ S → S < 4096 → ¬ p S = true) : cN p 4096 = cN p' m ∧ ∀ S, nthP p 4096 i S ↔ nthP p' m i S := by
  have e0 : ∀ S, S ≤ m → cN p S = cN p' S := fun S hS => cN_eq (fun i hi => h1 i (by omega))
  refine ⟨?_, fun S => ?_⟩
  · have e := cN_none (p := p) (m := m) (k := 4096 - m) (fun i a b => h2 i a (by omega))
    rw [show m + (4096 - m) = 4096 by omega] at e
    rw [e, e0 m (Nat.le_refl m)]
  · constructor
    · rintro ⟨a1, a2, a3⟩
      have hS : S < m := Nat.lt_of_not_le (fun z => h2 S z a1 a2)
      exact ⟨hS, by rw [← h1 S hS]; exact a2, by rw [← e0 S (by omega)]; exact a3⟩
    · rintro ⟨a1, a2, a3⟩
      exact ⟨by omega, by rw [h1 S a1]; exact a2, by rw [e0 S (by omega)]; exact a3⟩
theorem O8.w0 {A : zW} {n m q t k c s : Int32} (o : O8 A n m q t k c) (hs : lePs c s) : ∀ x, x < 4 → zJ A (leq s + 1) x = fwW A s.toInt.toNat (Int32.ofInt 0) x := fun x hx => by
  unfold fwW
  rw [if_pos (show (Int32.ofInt 0).toInt = 0 by decide)]
  exact o.w s.toInt.toNat (by have := hs.1; have := hs.2; omega) x hx
set_option maxRecDepth 20000 in
theorem pk8_cuts {B : Nat → Nat} : ∀ (w w1 w2 : lW) (rv1 rv2 : Option Value) (s : Int32), J8 B w → fLr r_X11_cuts [.ref (B 0), .int s] w rv1 w1 → fLr r_X12_cuts [.ref (B 343), .int s] w1 rv2 w2 → rv1 = rv2 := by
  intro w w1 w2 rv1 rv2 s hJ h1 h2
  have hb := hJ.1.1.1.b
  have hb1 : bI B w1 := hb.keep h1 (by decide)
  obtain ⟨tys, hw, -⟩ := h1.2.2.2.2.1
  obtain ⟨A, n, m, q, t, k, c, hA, o⟩ := hJ.o hw
  obtain ⟨A1, u1, hA1, hv1, hQ1⟩ := zrun zc_X11_cuts h1 hA (zargs hb (by decide) (s := [.int s]) ⟨rfl, trivial⟩) (K := cuQ c s (zlcF (leq s, n, t, k) A) (zcuW A (leq s) (zcuV (leq s, n, t, k) A)) A) ⟨((c, n, t, k), s), rfl, o.le, fun _ _ h => h⟩
  have g : agj S_R8 A1 A := by
    rcases hQ1 with ⟨-, -, rfl⟩ | ⟨-, -, rfl⟩
    · exact agj.rf
    · exact agj_cu (by decide)
  obtain ⟨A2, u2, hA2, hv2, hQ2⟩ := zrun zc_X12_cuts h2 hA1 (zargs hb1 (by decide) (s := [.int s]) ⟨rfl, trivial⟩) (K := cmQ ((c, n, t, k), s) A1) ⟨((c, n, t, k), s), rfl, o.lm g, fun _ _ h => h⟩
  rcases hQ1 with ⟨d1, e1, -⟩ | ⟨d1, e1, -⟩
  · rcases hQ2 with ⟨k1, e3, -⟩ | ⟨k1, -⟩
    · exact (zv_int hv1 e1).trans (zv_int hv2 e3).symm
    · exact absurd k1 d1
  · rcases hQ2 with ⟨k1, -⟩ | ⟨k1, hq, v, e3, hv⟩
    · exact absurd d1 k1
    · rcases hv with ⟨-, hv⟩ | ⟨z, -⟩
      · obtain ⟨c1, c2⟩ := o.cut (o.w0 d1) ((g.sub sN_R).tr (hq.1.sub sN_Y)) hq.2.2.1
        have e := (cut_nth (i := 0) (p2_le n.toInt.toNat (by have := o.n; omega)) c1 c2).1
        rw [e] at e1
        rw [hv] at e3
        exact (zv_int hv1 e1).trans (zv_int hv2 e3).symm
      · exact absurd (show 0 ≤ (Int32.ofInt (-1)).toInt from z) (by decide)
set_option maxRecDepth 20000 in
theorem pk8_cutOf {B : Nat → Nat} : ∀ (w w1 w2 : lW) (rv1 rv2 : Option Value) (s i : Int32), J8 B w → fLr r_X11_cutOf [.ref (B 0), .int s, .int i] w rv1 w1 → fLr r_X12_cutOf [.ref (B 343), .int s, .int i] w1 rv2 w2 → rv1 = rv2 := by
  intro w w1 w2 rv1 rv2 s i hJ h1 h2
  have hb := hJ.1.1.1.b
  have hb1 : bI B w1 := hb.keep h1 (by decide)
  obtain ⟨tys, hw, -⟩ := h1.2.2.2.2.1
  obtain ⟨A, n, m, q, t, k, c, hA, o⟩ := hJ.o hw
  obtain ⟨A1, u1, hA1, hv1, hQ1⟩ := zrun zc_X11_cutOf h1 hA (zargs hb (by decide) (s := [.int s, .int i]) ⟨rfl, rfl, trivial⟩) (K := coQ c s i (zlcF (leq s, n, t, k) A) (zcuW A (leq s) (zcuV (leq s, n, t, k) A)) A) ⟨(((c, n, t, k), s), i), rfl, o.le, fun _ _ h => h⟩
  have g : agj S_R8 A1 A := by
    rcases hQ1 with ⟨-, -, rfl⟩ | ⟨-, -, rfl⟩
    · exact agj.rf
    · exact agj_cu (by decide)
  obtain ⟨A2, u2, hA2, hv2, hQ2⟩ := zrun zc_X12_cutOf h2 hA1 (zargs hb1 (by decide) (s := [.int s, .int i]) ⟨rfl, rfl, trivial⟩) (K := comQ ((c, n, t, k), s) i A1) ⟨(((c, n, t, k), s), i), rfl, o.lm g, fun _ _ h => h⟩
  rcases hQ1 with ⟨d1, e1, -⟩ | ⟨d1, ⟨v, e1, ha⟩, -⟩
  · rcases hQ2 with ⟨k1, e3, -⟩ | ⟨k1, -⟩
    · exact (zv_int hv1 e1).trans (zv_int hv2 e3).symm
    · exact absurd k1.1 d1
  · rcases hQ2 with ⟨k1, e3, -⟩ | ⟨k1, hq, v', e3, hv⟩
    · have hi : ¬ 0 ≤ i.toInt := fun z => k1 ⟨d1, z⟩
      rcases ha with ⟨S, hS, -⟩ | ⟨-, rfl⟩
      · exact absurd (nthP_lt hS).1 hi
      · exact (zv_int hv1 e1).trans (zv_int hv2 e3).symm
    · rcases hv with ⟨z, -⟩ | ⟨-, hv⟩
      · have := k1.2
        have z : i.toInt < 0 := z
        omega
      · obtain ⟨c1, c2⟩ := o.cut (o.w0 d1) ((g.sub sN_R).tr (hq.1.sub sN_Y)) hq.2.2.1
        have e := (cut_nth (i := i.toInt) (p2_le n.toInt.toNat (by have := o.n; omega)) c1 c2).2
        rw [atR_uni e ha hv] at e1
        exact (zv_int hv1 e1).trans (zv_int hv2 e3).symm
