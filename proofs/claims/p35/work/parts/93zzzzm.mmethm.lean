/-! merging, the reference's methods -/
def mlW (a : mlA) (A A1 A2 : zW) : Prop := laQ a.1 A A1 ∧ gSame A1 A2 ∧ (∃ m : Int32, zF A2 343 55 = .int m ∧ ¬ m.toInt = 0) ∧ mmR A1 (mvV a.1 A) a.1.1 A2
def zq_partsM : zQ := zs (fun _ : mlA => [.ref 343]) mlP (fun a A rv A' => ∃ A1, mlW a A A1 A' ∧ rv = some (.int (cbA (Int32.ofNat (vwN (tkM A1 (mvV a.1 A) a.1.1) 6)).toInt64 64)))
set_option maxRecDepth 20000 in
theorem zc_X12_parts : zdo r_X12_parts zq_partsM := by
  refine zdo_of _ _ _ [(1386, 1, zq_layMerge), (679, 1, zq_countBits)] (fun _ _ => []) 60 fo_X12 rfl (zs_cons rfl zc_X12_layMerge (zs_cons rfl za_X12_countBits zs_nil)) k_X12_parts (fun _ _ _ => no_zh) (fun a A hp => ?_)
  refine ⟨a, rfl, hp, ?_⟩
  rintro rv A' ⟨rfl, A1, hQ, g, h5, hm⟩
  refine ⟨(Int32.ofNat (vwN (tkM A1 (mvV a.1 A) a.1.1) 6)).toInt64, ?_, trivial, A1, ⟨hQ, g, h5, hm⟩, rfl⟩
  show [Value.long (iv (zF A' 343 56)).toInt64] = _
  rw [hm.1]
  rfl
def zq_farM : zQ := zs (fun a : mlA × Int32 × Int32 => [.ref 343, .int a.2.1, .int a.2.2]) (fun a A => mlP a.1 A) (fun a A rv A' => (¬ wdPs a.2.1 a.2.2 ∧ rv = some (.int (-1)) ∧ A' = A) ∨ (wdPs a.2.1 a.2.2 ∧ ∃ A1, mlW a.1 A A1 A' ∧ rv = some (.int (farV (tkM A1 (mvV a.1.1 A) a.1.1.1 a.2.2.toInt.toNat) (dsM2 A1 (mvV a.1.1 A) a.1.1.1 a.2.1.toInt.toNat a.2.2.toInt.toNat)))))
set_option maxRecDepth 20000 in
set_option maxHeartbeats 4000000 in
theorem zc_X12_far : zdo r_X12_far zq_farM := by
  refine zdo_of _ _ _ [(457, 3, zq_in), (727, 1, q_noSource), (1386, 1, zq_layMerge), (475, 2, zq_hasBit)] (fun _ _ => []) 80 fo_X12 rfl (zs_cons rfl za_X12_in (zs_cons rfl za_X12_noSource (zs_cons rfl zc_X12_layMerge (zs_cons rfl za_X12_hasBit zs_nil)))) k_X12_far (fun _ _ _ => no_zh) (fun a A hp => ?_)
  obtain ⟨a, w, u⟩ := a
  have e0 : (Int64.ofNat 0).toInt = 0 := by decide
  have e255 : (Int64.ofInt 255).toInt = 255 := by decide
  have ew := Int32.toInt_toInt64 w
  refine ⟨(w.toInt64, Int64.ofNat 0, Int64.ofInt 255), rfl, trivial, fun h => ?_, fun h => ?_⟩
  · have h : ¬ ((Int64.ofNat 0).toInt ≤ w.toInt64.toInt ∧ w.toInt64.toInt ≤ (Int64.ofInt 255).toInt) := zb_n h
    rw [e0, e255, ew] at h
    exact Or.inl ⟨fun z => h ⟨z.1.1, by have z2 : w.toInt < 256 := z.1.2; omega⟩, rfl, rfl⟩
  · have h : (Int64.ofNat 0).toInt ≤ w.toInt64.toInt ∧ w.toInt64.toInt ≤ (Int64.ofInt 255).toInt := zb_y h
    rw [e0, e255, ew] at h
    refine ⟨u, rfl, trivial, fun h2 => ?_, fun h2 => ?_⟩
    · have hu : 0 ≤ u.toInt ∧ u.toInt < 6 := Classical.not_not.mp (zb_n h2)
      have hwu : wdPs w u := ⟨⟨h.1, by have := h.2; omega⟩, hu⟩
      have u6 : u.toInt.toNat < 6 := by omega
      have eu : u = Int32.ofNat u.toInt.toNat := n32_of (by omega)
      have ew2 : w = Int32.ofNat w.toInt.toNat := n32_of (by omega)
      refine ⟨a, rfl, hp, ?_⟩
      rintro rv A' ⟨rfl, A1, hQ, g, h5, hm⟩
      have eb : hbB (iv (zF A' 343 56)).toInt64 u = tkM A1 (mvV a.1 A) a.1.1 u.toInt.toNat := by
        rw [hm.1]
        show hbB (Int32.ofNat (vwN (tkM A1 (mvV a.1 A) a.1.1) 6)).toInt64 u = _
        have h7 := zbt_m (x := Int32.ofNat (vwN (tkM A1 (mvV a.1 A) a.1.1) 6)) (e := u.toInt.toNat) (by omega)
        rw [← eu] at h7
        rw [h7, n32_zbi (by omega), tkM_bit u6]
      refine ⟨((iv (zF A' 343 56)).toInt64, u), rfl, trivial, fun h3 => ?_, fun h3 => ?_⟩
      · have h3 : (zb (hbB (iv (zF A' 343 56)).toInt64 u)).toInt = 0 := h3
        rw [eb] at h3
        refine Or.inr ⟨hwu, A1, ⟨hQ, g, h5, hm⟩, ?_⟩
        unfold farV
        rw [if_neg (fun z => by rw [zb_f h3] at z; cases z)]
      · have h3 : ¬ (zb (hbB (iv (zF A' 343 56)).toInt64 u)).toInt = 0 := h3
        rw [eb] at h3
        have ht := zb_t h3
        refine Or.inr ⟨hwu, A1, ⟨hQ, g, h5, hm⟩, ?_⟩
        have ei : (Int32.ofInt 256 * u + w).toNatClampNeg = 256 * u.toInt.toNat + w.toInt.toNat := by
          have h7 := n32_m256 (u := u.toInt.toNat) (w := w.toInt.toNat) u6 (by omega)
          rw [← eu, ← ew2] at h7
          exact h7
        show some (Value.int (zI A' 375 (Int32.ofInt 256 * u + w).toNatClampNeg)) = _
        unfold farV
        rw [ei, if_pos ht]
        exact congrArg (fun z => some (Value.int z)) (hm.2 _ u6 ht _ (by omega))
    · have h2 : ¬ (0 ≤ u.toInt ∧ u.toInt < 6) := zb_y h2
      exact Or.inl ⟨fun z => h2 z.2, rfl, rfl⟩
/-- by a law -/
def lwQM (law : Int32) (a : mlA) (A : zW) (V : Option Value → zW → Prop) (rv : Option Value) (A' : zW) : Prop := (¬ lwPs law ∧ rv = some (.int (-2)) ∧ A' = A) ∨ (lwPs law ∧ mgQ (a, law.toInt.toNat) A A' ∧ V rv A')
abbrev mrA : Type := mlA × Int32
def mrP (a : mrA) (A : zW) : Prop := mlP a.1 A ∧ trM A
theorem in_law {x : Int32} : ((Int64.ofNat 0).toInt ≤ x.toInt64.toInt ∧ x.toInt64.toInt ≤ (Int64.ofInt 2).toInt) ↔ lwPs x := by
  have e0 : (Int64.ofNat 0).toInt = 0 := by decide
  have e2 : (Int64.ofInt 2).toInt = 2 := by decide
  rw [e0, e2, Int32.toInt_toInt64]
  constructor
  · rintro ⟨a, b⟩
    exact ⟨a, by omega⟩
  · rintro ⟨a, b⟩
    exact ⟨a, by omega⟩
def m4 (f : Nat → Int64) : Int32 := cbA (f 0) 64 + cbA (f 1) 64 + cbA (f 2) 64 + cbA (f 3) 64
def zq_mergedM : zQ := zs (fun a : mrA => [.ref 343, .int a.2]) mrP (fun a A => lwQM a.2 a.1 A (fun rv A' => rv = some (.int (m4 (zJ A' 378)))))
set_option maxRecDepth 20000 in
set_option maxHeartbeats 4000000 in
theorem zc_X12_merged : zdo r_X12_merged zq_mergedM := by
  refine zdo_of _ _ _ [(457, 3, zq_in), (1413, 2, zq_merge), (679, 1, zq_countBits)] (fun _ _ => []) 80 fo_X12 rfl (zs_cons rfl za_X12_in (zs_cons rfl zc_X12_merge (zs_cons rfl za_X12_countBits zs_nil))) k_X12_merged (fun _ _ _ => no_zh) (fun a A hp => ?_)
  obtain ⟨a, x⟩ := a
  refine ⟨(x.toInt64, Int64.ofNat 0, Int64.ofInt 2), rfl, trivial, fun h => ?_, fun h => ?_⟩
  · have hx : lwPs x := in_law.mp (zb_y h)
    obtain ⟨e1, e2⟩ := law_n hx
    refine ⟨(a, x.toInt.toNat), ?_, ⟨hp.1, hp.2, e2⟩, ?_⟩
    · show [Value.ref 343, .int x] = [.ref 343, .int (Int32.ofNat x.toInt.toNat)]
      rw [← e1]
    · rintro rv A' ⟨rfl, hQ⟩
      exact ⟨zJ A' 378 0, rfl, trivial, zJ A' 378 1, rfl, trivial, zJ A' 378 2, rfl, trivial, zJ A' 378 3, rfl, trivial, Or.inr ⟨hx, hQ, rfl⟩⟩
  · have h := zb_n (Classical.not_not.mp h)
    exact Or.inl ⟨fun z => h (in_law.mpr z), rfl, rfl⟩
def zq_mergedWorldM : zQ := zs (fun a : mrA × Int32 => [.ref 343, .int a.1.2, .int a.2]) (fun a A => mrP a.1 A) (fun a A => lwQM a.1.2 a.1.1 A (fun rv A' => ∃ v : Int32, rv = some (.int v) ∧ atR (bF (zJ A' 378)) 256 a.2 v))
def in_mw25 (a : mrA × Int32) (A : zW) : fL_ → List Value → zW → Prop := fun lg vs A' => ∃ w : Nat, f_sub [(4, false, .int (Int32.ofNat w)), (3, false, .int (Int32.ofNat (cN (bF (zJ A' 378)) w))), (0, false, .ref 343), (2, false, .int a.2)] lg ∧ vs = [] ∧ w ≤ 256 ∧ lwPs a.1.2 ∧ mgQ (a.1.1, a.1.2.toInt.toNat) A A' ∧ ∀ S, S < w → ¬ nthP (bF (zJ A' 378)) 256 a.2.toInt S
set_option maxRecDepth 20000 in
set_option maxHeartbeats 8000000 in
theorem zc_X12_mergedWorld : zdo r_X12_mergedWorld zq_mergedWorldM := by
  refine zdo_of _ _ _ [(457, 3, zq_in), (1413, 2, zq_merge), (475, 2, zq_hasBit)] (fun a A => [(25, in_mw25 a A)]) 80 fo_X12 rfl (zs_cons rfl za_X12_in (zs_cons rfl zc_X12_merge (zs_cons rfl za_X12_hasBit zs_nil))) k_X12_mergedWorld (fun a A hp => ?_) (fun a A hp => ?_)
  · obtain ⟨⟨a, x⟩, i⟩ := a
    refine List.forall_mem_cons.mpr ⟨?_, fun _ h => absurd h List.not_mem_nil⟩
    rintro lg vs A' ⟨w, hs, rfl, hw, hx, hQ, hno⟩
    have hw : w ≤ 256 := hw
    have hno : ∀ S, S < w → ¬ nthP (bF (zJ A' 378)) 256 i.toInt S := hno
    have tw := n32_t (show w < 4096 by omega)
    have hc := cN_le (p := bF (zJ A' 378)) (n := w)
    have tc := n32_t (show cN (bF (zJ A' 378)) w < 4096 by omega)
    have eq1 : some (false, Value.int (Int32.ofNat w + Int32.ofInt 1)) = some (false, .int (Int32.ofNat (w + 1))) := by rw [n32_s (by omega)]
    refine ⟨_, 80, hs, fun h => ?_, fun h => ?_⟩
    · have h : (Int32.ofInt 256).toInt ≤ (Int32.ofNat w).toInt := h
      rw [e256, tw] at h
      exact Or.inr ⟨hx, hQ, Int32.ofInt (-1), rfl, Or.inr ⟨fun ⟨S, hS⟩ => hno S (by have := hS.1; omega) hS, rfl⟩⟩
    · have h : ¬ (Int32.ofInt 256).toInt ≤ (Int32.ofNat w).toInt := h
      rw [e256, tw] at h
      have w2 : w < 256 := by omega
      have eb : hbB (zJ A' 378 (Int32.ofNat w / Int32.ofInt 64).toNatClampNeg) (Int32.ofNat w % Int32.ofInt 64) = bF (zJ A' 378) w := by
        rw [n32_d64 w w2, n32_r64 w w2, n32_c (by omega), hbB_b (Nat.mod_lt _ (by decide))]
        rfl
      refine ⟨(zJ A' 378 (Int32.ofNat w / Int32.ofInt 64).toNatClampNeg, Int32.ofNat w % Int32.ofInt 64), rfl, trivial, fun h2 => ?_, fun h2 => ⟨fun h3 => ?_, fun h3 => ?_⟩⟩
      · have h2 : (zb (hbB (zJ A' 378 (Int32.ofNat w / Int32.ofInt 64).toNatClampNeg) (Int32.ofNat w % Int32.ofInt 64))).toInt = 0 := h2
        rw [eb] at h2
        have hb := zb_f h2
        refine ⟨w + 1, ⟨eq1, ?_, rfl, rfl, trivial⟩, rfl, (show w + 1 ≤ 256 by omega), hx, hQ, fun S hS hn => ?_⟩
        · show some (false, Value.int (Int32.ofNat (cN (bF (zJ A' 378)) w))) = some (false, .int (Int32.ofNat (cN (bF (zJ A' 378)) w + (if bF (zJ A' 378) w = true then 1 else 0))))
          rw [hb, if_neg Bool.false_ne_true, Nat.add_zero]
        · by_cases e : S = w
          · rw [e] at hn
            rw [hn.2.1] at hb
            cases hb
          · exact hno S (by omega) hn
      · have h2 : ¬ (zb (hbB (zJ A' 378 (Int32.ofNat w / Int32.ofInt 64).toNatClampNeg) (Int32.ofNat w % Int32.ofInt 64))).toInt = 0 := h2
        rw [eb] at h2
        have hb := zb_t h2
        have h3 : ¬ (Int32.ofNat (cN (bF (zJ A' 378)) w)).toInt = i.toInt := h3
        rw [tc] at h3
        refine ⟨w + 1, ⟨eq1, ?_, rfl, rfl, trivial⟩, rfl, (show w + 1 ≤ 256 by omega), hx, hQ, fun S hS hn => ?_⟩
        · show some (false, Value.int (Int32.ofNat (cN (bF (zJ A' 378)) w) + Int32.ofInt 1)) = some (false, .int (Int32.ofNat (cN (bF (zJ A' 378)) (w + 1))))
          rw [n32_s (by omega), cN_succ hb]
        · by_cases e : S = w
          · rw [e] at hn
            exact h3 hn.2.2
          · exact hno S (by omega) hn
      · have h2 : ¬ (zb (hbB (zJ A' 378 (Int32.ofNat w / Int32.ofInt 64).toNatClampNeg) (Int32.ofNat w % Int32.ofInt 64))).toInt = 0 := h2
        rw [eb] at h2
        have hb := zb_t h2
        have h3 : ¬ ¬ (Int32.ofNat (cN (bF (zJ A' 378)) w)).toInt = i.toInt := h3
        rw [tc] at h3
        exact Or.inr ⟨hx, hQ, Int32.ofNat w, rfl, Or.inl ⟨w, ⟨w2, hb, Classical.not_not.mp h3⟩, rfl⟩⟩
  · obtain ⟨⟨a, x⟩, i⟩ := a
    refine ⟨(x.toInt64, Int64.ofNat 0, Int64.ofInt 2), rfl, trivial, fun h => ?_, fun h => ?_⟩
    · have hx : lwPs x := in_law.mp (zb_y h)
      obtain ⟨e1, e2⟩ := law_n hx
      refine ⟨(a, x.toInt.toNat), ?_, ⟨hp.1, hp.2, e2⟩, ?_⟩
      · show [Value.ref 343, .int x] = [.ref 343, .int (Int32.ofNat x.toInt.toNat)]
        rw [← e1]
      · rintro rv A' ⟨rfl, hQ⟩
        exact ⟨0, ⟨rfl, rfl, rfl, rfl, trivial⟩, rfl, Nat.zero_le _, hx, hQ, fun S hS => absurd hS (Nat.not_lt_zero S)⟩
    · have h := zb_n (Classical.not_not.mp h)
      exact Or.inl ⟨fun z => h (in_law.mpr z), rfl, rfl⟩
def zq_agreedM : zQ := zs (fun a : mrA × Int32 × Int32 => [.ref 343, .int a.2.2, .int a.1.2]) (fun a A => mrP a.1 A ∧ zF A 343 1 = .int a.2.1 ∧ a.2.1.toInt ≤ 60) (fun a A => agQ a.2.1 a.2.2 a.1.2 A (fun _ A' => mgQ (a.1.1, a.1.2.toInt.toNat) A A') (fun A' => wiB (zJ A' 378) (zsw A' a.2.2.toInt.toNat) 4))
def in_ag35 (a : mrA × Int32 × Int32) (A : zW) : fL_ → List Value → zW → Prop := fun lg vs A' => ∃ x : Nat, f_sub [(4, false, .int (Int32.ofNat x)), (3, false, .int (zb (wiB (zJ A' 378) (zsw A' a.2.2.toInt.toNat) x))), (0, false, .ref 343), (1, false, .int a.2.2)] lg ∧ vs = [] ∧ x ≤ 4 ∧ lePs a.2.1 a.2.2 ∧ lwPs a.1.2 ∧ mgQ (a.1.1, a.1.2.toInt.toNat) A A'
set_option maxRecDepth 20000 in
set_option maxHeartbeats 8000000 in
theorem zc_X12_agreed : zdo r_X12_agreed zq_agreedM := by
  refine zdo_of _ _ _ [(669, 2, q_noSentence), (457, 3, zq_in), (1413, 2, zq_merge)] (fun a A => [(35, in_ag35 a A)]) 80 fo_X12 rfl (zs_cons rfl za_X12_noSentence (zs_cons rfl za_X12_in (zs_cons rfl zc_X12_merge zs_nil))) k_X12_agreed (fun a A hp => ?_) (fun a A hp => ?_)
  · obtain ⟨⟨a, x⟩, c, s⟩ := a
    have hc60 : c.toInt ≤ 60 := hp.2.2
    refine List.forall_mem_cons.mpr ⟨?_, fun _ h => absurd h List.not_mem_nil⟩
    rintro lg vs A' ⟨y, hs, rfl, hy, hle, hx, hQ⟩
    have hy : y ≤ 4 := hy
    have hle : lePs c s := hle
    have ty := n32_t (show y < 4096 by omega)
    have eq1 : some (false, Value.int (Int32.ofNat y + Int32.ofInt 1)) = some (false, .int (Int32.ofNat (y + 1))) := by rw [n32_s (by omega)]
    have eF : wiB (zJ A' 378) (zsw A' s.toInt.toNat) (y + 1) = (wiB (zJ A' 378) (zsw A' s.toInt.toNat) y && decide (zJ A' 378 y &&& (zsw A' s.toInt.toNat y ^^^ Int64.ofInt (-1)) = Int64.ofNat 0)) := rfl
    have eY : ∀ v : Bool, wiB (zJ A' 378) (zsw A' s.toInt.toNat) (y + 1) = v → some (false, Value.int (zb v)) = some (false, .int (zb (wiB (zJ A' 378) (zsw A' s.toInt.toNat) (y + 1)))) := fun v z => by rw [z]
    refine ⟨_, 80, hs, fun h => ?_, fun h => ⟨fun h2 => ?_, fun h2 => ⟨fun h3 => ?_, fun h3 => ?_⟩⟩⟩
    · have h : (Int32.ofInt 4).toInt ≤ (Int32.ofNat y).toInt := h
      rw [e4i, ty] at h
      have e : y = 4 := by omega
      subst e
      refine ⟨fun h2 => ?_, fun h2 => ?_⟩
      · refine Or.inr (Or.inr ⟨hle, hx, hQ, ?_⟩)
        show some (Value.int (Int32.ofInt 0)) = some (.int (zb (wiB (zJ A' 378) (zsw A' s.toInt.toNat) 4)))
        rw [zb_f h2]
        rfl
      · refine Or.inr (Or.inr ⟨hle, hx, hQ, ?_⟩)
        show some (Value.int (Int32.ofInt 1)) = some (.int (zb (wiB (zJ A' 378) (zsw A' s.toInt.toNat) 4)))
        rw [zb_t h2]
        rfl
    · have h : ¬ (Int32.ofInt 4).toInt ≤ (Int32.ofNat y).toInt := h
      rw [e4i, ty] at h
      have h2 : (zb (wiB (zJ A' 378) (zsw A' s.toInt.toNat) y)).toInt = 0 := h2
      exact ⟨y + 1, ⟨eq1, eY false (by rw [eF, zb_f h2, Bool.false_and]), rfl, rfl, trivial⟩, rfl, (show y + 1 ≤ 4 by omega), hle, hx, hQ⟩
    · have h : ¬ (Int32.ofInt 4).toInt ≤ (Int32.ofNat y).toInt := h
      rw [e4i, ty] at h
      have h3 : ¬ (lg_cmp (zJ A' 378 (Int32.ofNat y).toNatClampNeg &&& (zJ A' 344 (Int32.ofInt 4 * s + Int32.ofNat y).toNatClampNeg ^^^ Int64.ofInt (-1))) (Int64.ofNat 0)).toInt = 0 := h3
      rw [n32_c (by omega), n32_ms hle.1 (by have := hle.2; omega) (by omega)] at h3
      exact ⟨y + 1, ⟨eq1, eY false (by
        rw [eF]
        have e : decide (zJ A' 378 y &&& (zsw A' s.toInt.toNat y ^^^ Int64.ofInt (-1)) = Int64.ofNat 0) = false := decide_eq_false (fun z => h3 (lg_cmp_0.mpr z))
        rw [e, Bool.and_false]), rfl, rfl, trivial⟩, rfl, (show y + 1 ≤ 4 by omega), hle, hx, hQ⟩
    · have h : ¬ (Int32.ofInt 4).toInt ≤ (Int32.ofNat y).toInt := h
      rw [e4i, ty] at h
      have h2 : ¬ (zb (wiB (zJ A' 378) (zsw A' s.toInt.toNat) y)).toInt = 0 := h2
      have h3 : ¬ ¬ (lg_cmp (zJ A' 378 (Int32.ofNat y).toNatClampNeg &&& (zJ A' 344 (Int32.ofInt 4 * s + Int32.ofNat y).toNatClampNeg ^^^ Int64.ofInt (-1))) (Int64.ofNat 0)).toInt = 0 := h3
      rw [n32_c (by omega), n32_ms hle.1 (by have := hle.2; omega) (by omega)] at h3
      have h3 := lg_cmp_0.mp (Classical.not_not.mp h3)
      exact ⟨y + 1, ⟨eq1, eY true (by
        rw [eF, zb_t h2]
        have e : decide (zJ A' 378 y &&& (zsw A' s.toInt.toNat y ^^^ Int64.ofInt (-1)) = Int64.ofNat 0) = true := decide_eq_true h3
        rw [e]
        rfl), rfl, rfl, trivial⟩, rfl, (show y + 1 ≤ 4 by omega), hle, hx, hQ⟩
  · obtain ⟨⟨a, x⟩, c, s⟩ := a
    obtain ⟨⟨hm, hT⟩, hc, hc60⟩ := hp
    refine ⟨(s, c), rfl, hc, fun h => ?_, fun h => ?_⟩
    · have hs : lePs c s := Classical.not_not.mp (zb_n h)
      refine ⟨(x.toInt64, Int64.ofNat 0, Int64.ofInt 2), rfl, trivial, fun h2 => ?_, fun h2 => ?_⟩
      · have hx : lwPs x := in_law.mp (zb_y h2)
        obtain ⟨e1, e2⟩ := law_n hx
        refine ⟨(a, x.toInt.toNat), ?_, ⟨hm, hT, e2⟩, ?_⟩
        · show [Value.ref 343, .int x] = [.ref 343, .int (Int32.ofNat x.toInt.toNat)]
          rw [← e1]
        · rintro rv A' ⟨rfl, hQ⟩
          exact ⟨0, ⟨rfl, rfl, rfl, rfl, trivial⟩, rfl, Nat.zero_le _, hs, hx, hQ⟩
      · have h2 := zb_n (Classical.not_not.mp h2)
        exact Or.inr (Or.inl ⟨hs, fun z => h2 (in_law.mpr z), rfl, rfl⟩)
    · have h := zb_y h
      exact Or.inl ⟨h, rfl, rfl⟩
