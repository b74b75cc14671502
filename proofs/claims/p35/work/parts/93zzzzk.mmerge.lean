/-! merging, the reference: the worlds that cost least -/
def eSame (A A' : zW) : Prop := (∀ p i, zF A' p i = zF A p i) ∧ (∀ p i, p ≠ 376 → p ≠ 377 → zI A' p i = zI A p i) ∧ (∀ p i, p ≠ 378 → zJ A' p i = zJ A p i) ∧ (∀ p i, zR A' p i = zR A p i) ∧ (∀ p, zK A' p = zK A p) ∧ zN A' = zN A
theorem eSame.rf {A : zW} : eSame A A := ⟨fun _ _ => rfl, fun _ _ _ _ => rfl, fun _ _ _ => rfl, fun _ _ => rfl, fun _ => rfl, rfl⟩
theorem eSame.tr {A B C : zW} (h : eSame A B) (g : eSame B C) : eSame A C := ⟨fun p i => (g.1 p i).trans (h.1 p i), fun p i c d => (g.2.1 p i c d).trans (h.2.1 p i c d), fun p i c => (g.2.2.1 p i c).trans (h.2.2.1 p i c), fun p i => (g.2.2.2.1 p i).trans (h.2.2.2.1 p i), fun p => (g.2.2.2.2.1 p).trans (h.2.2.2.2.1 p), g.2.2.2.2.2.trans h.2.2.2.2.2⟩
theorem eSame.row {A : zW} {n : Nat} {R : Nat → Nat} : eSame A (rowN A n R) := ⟨fun _ _ => rfl, fun p x c _ => zsI_ne c, fun _ _ _ => rfl, fun _ _ => rfl, fun _ => rfl, rfl⟩
theorem eSame.I {A : zW} {x : Nat} {v : Int32} : eSame A (zuI A 377 x v) := ⟨fun _ _ => rfl, fun p i _ d => by rw [zuI_x, if_neg (fun z => d z.1)], fun _ _ _ => rfl, fun _ _ => rfl, fun _ => rfl, rfl⟩
theorem eSame.J {A : zW} {x : Nat} {v : Int64} : eSame A (zuJ A 378 x v) := ⟨fun _ _ => rfl, fun _ _ _ _ => rfl, fun p i c => by rw [zuJ_x, if_neg (fun z => c z.1)], fun _ _ => rfl, fun _ => rfl, rfl⟩
abbrev mgA : Type := mlA × Nat
def trM (A : zW) : Prop := ∀ u, u < 6 → 1 ≤ (zI A 345 u).toInt ∧ (zI A 345 u).toInt ≤ 9
def trU (A : zW) (u : Nat) : Nat := (zI A 345 u).toInt.toNat
def dsM2 (A : zW) (V : Nat) (n : Int32) (w u : Nat) : Nat := spr (st99 (okE A) (srcM A V u n)) 8 w
def csM (A : zW) (V : Nat) (n : Int32) (law w : Nat) : Nat := cst law (vwN (tkM A V n) 6) (trU A) (dsM2 A V n w) 6
theorem tkM_w {A : zW} {V : Nat} {n : Int32} {u : Nat} (h : tkM A V n u = true) : ∃ w, w < 256 ∧ okE A (srcM A V u n) w = true := by
  unfold tkM at h
  rw [Bool.and_eq_true] at h
  exact exN_iff.mp h.2
theorem dsM_8 {A : zW} {V : Nat} {n : Int32} {u w : Nat} (h : tkM A V n u = true) (hw : w < 256) : dsM2 A V n w u ≤ 8 := by
  obtain ⟨w0, h0, h1⟩ := tkM_w h
  exact (spr_same (ok := okE A (srcM A V u n)) (f := st99 (okE A) (srcM A V u n)) (g := fun w => if okE A (srcM A V u n) w = true then 0 else 9) (fun _ => rfl) (fun _ => rfl) h0 h1 hw).2
theorem tkM_bit {A : zW} {V : Nat} {n : Int32} {u : Nat} (hu : u < 6) : (vwN (tkM A V n) 6).testBit u = tkM A V n u := by
  rw [vwN_b, decide_eq_true hu, Bool.true_and]
theorem csM_b {A : zW} {V law w : Nat} {n : Int32} (hT : trM A) (hw : w < 256) : csM A V n law w ≤ 6 * 16777216 := cst_le (fun u hu => by
  have h4 := hT u hu
  unfold trU
  omega) (fun u hu hb => by
  rw [tkM_bit hu] at hb
  exact dsM_8 hb hw) (Nat.le_refl 6)
def mgP (a : mgA) (A : zW) : Prop := mlP a.1 A ∧ trM A ∧ a.2 < 3
/-- behind it: what is laid, and the worlds -/
def mgQ (a : mgA) (A A' : zW) : Prop := ∃ A1 A2, laQ a.1.1 A A1 ∧ gSame A1 A2 ∧ (∃ m : Int32, zF A2 343 55 = .int m ∧ ¬ m.toInt = 0) ∧ mmR A1 (mvV a.1.1 A) a.1.1.1 A2 ∧ eSame A2 A' ∧ ∀ x, x < 256 → bF (zJ A' 378) x = mnB (csM A1 (mvV a.1.1 A) a.1.1.1 a.2) 256 x
def zq_merge : zQ := zs (fun a : mgA => [.ref 343, .int (Int32.ofNat a.2)]) mgP (fun a A rv A' => rv = none ∧ mgQ a A A')
/-- what is the case on the way, of the worlds laid -/
def mgB (V : Nat) (n : Int32) (law : Nat) (A1 A2 : zW) : Prop := gSame A1 A2 ∧ (∃ m : Int32, zF A2 343 55 = .int m ∧ ¬ m.toInt = 0) ∧ mmR A1 V n A2 ∧ trM A1
def in_mg6 (a : mgA) (A : zW) : fL_ → List Value → zW → Prop := fun lg vs A' => ∃ (x : Nat) (A1 A2 : zW), f_sub [(2, false, .int (Int32.ofNat x)), (0, false, .ref 343), (1, false, .int (Int32.ofNat a.2))] lg ∧ vs = [] ∧ x ≤ 4 ∧ laQ a.1.1 A A1 ∧ mgB (mvV a.1.1 A) a.1.1.1 a.2 A1 A2 ∧ eSame A2 A' ∧ ∀ y, y < x → zJ A' 378 y = Int64.ofNat 0
/-- the best row so far -/
def mgL (V : Nat) (n : Int32) (law : Nat) (A1 A' : zW) (w : Nat) : Prop := w = 0 ∨ ∃ (b : Nat) (B : Nat → Nat), lsP (csM A1 V n law) w b ∧ (∀ k, k < 6 → zI A' 377 k = Int32.ofNat (B k)) ∧ rwOK law (vwN (tkM A1 V n) 6) (trU A1) (dsM2 A1 V n b) 6 B
def in_mg26 (a : mgA) (A : zW) : fL_ → List Value → zW → Prop := fun lg vs A' => ∃ (w : Nat) (A1 A2 : zW), f_sub [(2, false, .int (Int32.ofNat w)), (0, false, .ref 343), (1, false, .int (Int32.ofNat a.2))] lg ∧ vs = [] ∧ w ≤ 256 ∧ laQ a.1.1 A A1 ∧ mgB (mvV a.1.1 A) a.1.1.1 a.2 A1 A2 ∧ eSame A2 A' ∧ mgL (mvV a.1.1 A) a.1.1.1 a.2 A1 A' w ∧ ∀ x, x < 256 → bF (zJ A' 378) x = mnB (csM A1 (mvV a.1.1 A) a.1.1.1 a.2) w x
/-- a world that is better than all before -/
def mgW (V : Nat) (n : Int32) (law : Nat) (A1 A' : zW) (w : Nat) (R : Nat → Nat) : Prop := w < 256 ∧ (∀ y, y < w → csM A1 V n law w < csM A1 V n law y) ∧ (∀ k, k < 6 → zI A' 376 k = Int32.ofNat (R k)) ∧ rwOK law (vwN (tkM A1 V n) 6) (trU A1) (dsM2 A1 V n w) 6 R
def in_mg59 (a : mgA) (A : zW) : fL_ → List Value → zW → Prop := fun lg vs A' => ∃ (x w : Nat) (R : Nat → Nat) (A1 A2 : zW), f_sub [(4, false, .int (Int32.ofNat x)), (3, false, .int (-1)), (2, false, .int (Int32.ofNat w)), (0, false, .ref 343), (1, false, .int (Int32.ofNat a.2))] lg ∧ vs = [] ∧ x ≤ 4 ∧ laQ a.1.1 A A1 ∧ mgB (mvV a.1.1 A) a.1.1.1 a.2 A1 A2 ∧ eSame A2 A' ∧ mgW (mvV a.1.1 A) a.1.1.1 a.2 A1 A' w R ∧ ∀ y, y < x → zJ A' 378 y = Int64.ofNat 0
def in_mg82 (a : mgA) (A : zW) : fL_ → List Value → zW → Prop := fun lg vs A' => ∃ (k w : Nat) (R : Nat → Nat) (A1 A2 : zW), f_sub [(4, false, .int (Int32.ofNat k)), (3, false, .int (-1)), (2, false, .int (Int32.ofNat w)), (0, false, .ref 343), (1, false, .int (Int32.ofNat a.2))] lg ∧ vs = [] ∧ k ≤ 6 ∧ laQ a.1.1 A A1 ∧ mgB (mvV a.1.1 A) a.1.1.1 a.2 A1 A2 ∧ eSame A2 A' ∧ mgW (mvV a.1.1 A) a.1.1.1 a.2 A1 A' w R ∧ (∀ y, y < 4 → zJ A' 378 y = Int64.ofNat 0) ∧ ∀ y, y < k → zI A' 377 y = Int32.ofNat (R y)
theorem z378 {f : Nat → Int64} {x : Nat} (h : ∀ y, y < 4 → f y = Int64.ofNat 0) (hx : x < 256) : bF f x = false := by
  unfold bF
  rw [h (x / 64) (by omega)]
  exact l_zero.mp rfl _ (Nat.mod_lt _ (by decide))
/-- what a row asks, of the worlds laid -/
theorem mg_row {V law w : Nat} {n : Int32} {A1 A2 A' : zW} (h : mgB V n law A1 A2) (g : eSame A2 A') (hl : law < 3) (hw : w < 256) : lrP ((w, law, vwN (tkM A1 V n) 6), dsM2 A1 V n w, trU A1) A' := by
  obtain ⟨gs, -, ⟨h56, hr⟩, hT⟩ := h
  refine ⟨hw, hl, (g.1 343 56).trans h56, fun u hu hb => ?_, fun u hu => ?_⟩
  · have hb : (vwN (tkM A1 V n) 6).testBit u = true := hb
    rw [tkM_bit hu] at hb
    exact ⟨(g.2.1 375 _ (by decide) (by decide)).trans (hr u hu hb w hw), dsM_8 hb hw⟩
  · have h4 := hT u hu
    have e : zI A1 345 u = Int32.ofNat (trU A1 u) := n32_of (by unfold trU; omega)
    exact ⟨((g.2.1 345 u (by decide) (by decide)).trans (gs.2.1 345 u (by decide))).trans e, by show trU A1 u ≤ 9; unfold trU; omega⟩
/-- a bit of a word comes -/
theorem add378 {A : zW} {w x : Nat} {v : Int64} (hv : v = zJ A 378 (w / 64) ||| (Int64.ofNat 1 <<< ((Int32.ofNat (w % 64)).toInt64 &&& 63))) : bF (zJ (zuJ A 378 (w / 64) v) 378) x = (decide (x = w) || bF (zJ A 378) x) := bF_add (by
  rw [zuJ_x, if_pos ⟨rfl, rfl⟩, hv]) (fun r hr => by
  rw [zuJ_x, if_neg (fun z => hr z.2)]) x
set_option maxRecDepth 20000 in
set_option maxHeartbeats 32000000 in
theorem zc_X12_merge : zdo r_X12_merge zq_merge := by
  refine zdo_of _ _ _ [(1386, 1, zq_layMerge), (1395, 3, zq_layRow), (1404, 1, zq_compareRows)] (fun a A => [(6, in_mg6 a A), (26, in_mg26 a A), (59, in_mg59 a A), (82, in_mg82 a A)]) 120 fo_X12 rfl (zs_cons rfl zc_X12_layMerge (zs_cons rfl zc_X12_layRow (zs_cons rfl zc_X12_compareRows zs_nil))) k_X12_merge (fun a A hp => ?_) (fun a A hp => ?_)
  · have hl : a.2 < 3 := hp.2.2
    have e6 : (Int32.ofInt 6).toInt = 6 := by decide
    have em1 : (-1 : Int32).toInt = -1 := by decide
    refine List.forall_mem_cons.mpr ⟨?_, List.forall_mem_cons.mpr ⟨?_, List.forall_mem_cons.mpr ⟨?_, List.forall_mem_cons.mpr ⟨?_, fun _ h => absurd h List.not_mem_nil⟩⟩⟩⟩
    · rintro lg vs A' ⟨x, A1, A2, hs, rfl, hx, hQ, hB, g, h0⟩
      have hx : x ≤ 4 := hx
      have tx := n32_t (show x < 4096 by omega)
      refine ⟨_, 60, hs, fun h => ?_, fun h => ?_⟩
      · have h : (Int32.ofInt 4).toInt ≤ (Int32.ofNat x).toInt := h
        rw [e4i, tx] at h
        refine ⟨0, A1, A2, ⟨rfl, rfl, rfl, trivial⟩, rfl, Nat.zero_le _, hQ, hB, g, Or.inl rfl, fun y hy => ?_⟩
        rw [mnB_0]
        exact z378 (fun z hz => h0 z (by omega)) hy
      · have h : ¬ (Int32.ofInt 4).toInt ≤ (Int32.ofNat x).toInt := h
        rw [e4i, tx] at h
        refine ⟨x + 1, A1, A2, ⟨?_, rfl, rfl, trivial⟩, rfl, (show x + 1 ≤ 4 by omega), hQ, hB, g.tr eSame.J, fun y hy => ?_⟩
        · show some (false, Value.int (Int32.ofNat x + Int32.ofInt 1)) = some (false, .int (Int32.ofNat (x + 1)))
          rw [n32_s (by omega)]
        · show zJ (zuJ A' 378 (Int32.ofNat x).toNatClampNeg (Int64.ofNat 0)) 378 y = _
          rw [n32_c (by omega), zuJ_x]
          split
          · rfl
          · exact h0 y (by omega)
    · rintro lg vs A' ⟨w, A1, A2, hs, rfl, hw, hQ, hB, g, hL, hf⟩
      have hw : w ≤ 256 := hw
      have tw := n32_t (show w < 4096 by omega)
      have eq1 : some (false, Value.int (Int32.ofNat w + Int32.ofInt 1)) = some (false, .int (Int32.ofNat (w + 1))) := by rw [n32_s (by omega)]
      refine ⟨_, 120, hs, fun h => ?_, fun h => ?_⟩
      · have h : (Int32.ofInt 256).toInt ≤ (Int32.ofNat w).toInt := h
        rw [e256, tw] at h
        have e : w = 256 := by omega
        subst e
        obtain ⟨b1, b2, b3, -⟩ := hB
        exact ⟨rfl, A1, A2, hQ, b1, b2, b3, g, hf⟩
      · have h : ¬ (Int32.ofInt 256).toInt ≤ (Int32.ofNat w).toInt := h
        rw [e256, tw] at h
        have w2 : w < 256 := by omega
        refine ⟨((w, a.2, vwN (tkM A1 (mvV a.1.1 A) a.1.1.1) 6), dsM2 A1 (mvV a.1.1 A) a.1.1.1 w, trU A1), rfl, mg_row hB g hl w2, ?_⟩
        rintro rv A3 ⟨rfl, R, rfl, hR⟩
        have hR : rwOK a.2 (vwN (tkM A1 (mvV a.1.1 A) a.1.1.1) 6) (trU A1) (dsM2 A1 (mvV a.1.1 A) a.1.1.1 w) 6 R := hR
        have g3 : eSame A2 (rowN A' 6 R) := g.tr eSame.row
        have r376 : ∀ k, k < 6 → zI (rowN A' 6 R) 376 k = Int32.ofNat (R k) := fun k hk => rowN_at hk
        have r377 : ∀ k, zI (rowN A' 6 R) 377 k = zI A' 377 k := fun k => zsI_ne (by decide)
        have eJ : ∀ p i, zJ (rowN A' 6 R) p i = zJ A' p i := fun _ _ => rfl
        -- better than all before
        have less : (∀ y, y < w → csM A1 (mvV a.1.1 A) a.1.1.1 a.2 w < csM A1 (mvV a.1.1 A) a.1.1.1 a.2 y) → mgW (mvV a.1.1 A) a.1.1.1 a.2 A1 (rowN A' 6 R) w R := fun z => ⟨w2, z, r376, hR⟩
        refine ⟨fun h2 => ?_, fun h2 => ?_⟩
        · have h2 : ¬ (Int32.ofNat w).toInt = 0 := h2
          rw [tw] at h2
          rcases hL with e0 | ⟨b, B, hb, hB7, hBR⟩
          · omega
          · refine ⟨(R, B), rfl, fun k hk => ⟨⟨r376 k hk, hR.1 k hk⟩, (r377 k).trans (hB7 k hk), hBR.1 k hk⟩, ?_⟩
            rintro rv A4 ⟨v, rfl, rfl, hc⟩
            have hc : cmpR R B v := hc
            have one : (1 : Int32).toInt = 1 := by decide
            have zero : (0 : Int32).toInt = 0 := by decide
            refine ⟨fun h3 => ⟨fun h4 => ?_, fun h4 => ?_⟩, fun h3 => ?_⟩
            · have h4 : 0 < v.toInt := h4
              rcases hc with ⟨ev, -⟩ | ⟨ev, -⟩ | ⟨ev, k, hk, he, hlt⟩
              · rw [ev, zero] at h4
                omega
              · rw [ev, em1] at h4
                omega
              · have hlt := rw_lt hBR hR hk (fun j hj => (he j hj).symm) hlt
                refine ⟨w + 1, A1, A2, ⟨eq1, rfl, rfl, trivial⟩, rfl, (show w + 1 ≤ 256 by omega), hQ, hB, g3, Or.inr ⟨b, B, lsP_keep hb (Nat.le_of_lt hlt), fun k hk => (r377 k).trans (hB7 k hk), hBR⟩, fun x hx => ?_⟩
                rw [mnB_more hb.1 hlt]
                exact hf x hx
            · have h3 : 0 ≤ v.toInt := h3
              have h4 : ¬ 0 < v.toInt := h4
              rcases hc with ⟨ev, he⟩ | ⟨ev, -⟩ | ⟨ev, -⟩
              · have heq := rw_eq hR hBR he
                refine ⟨w + 1, A1, A2, ⟨eq1, rfl, rfl, trivial⟩, rfl, (show w + 1 ≤ 256 by omega), hQ, hB, g3.tr eSame.J, Or.inr ⟨b, B, lsP_keep hb (Nat.le_of_eq heq.symm), fun k hk => (r377 k).trans (hB7 k hk), hBR⟩, fun x hx => ?_⟩
                show bF (zJ (zuJ (rowN A' 6 R) 378 (Int32.ofNat w / Int32.ofInt 64).toNatClampNeg (zJ (rowN A' 6 R) 378 (Int32.ofNat w / Int32.ofInt 64).toNatClampNeg ||| (Int64.ofNat 1 <<< ((Int32.ofNat w % Int32.ofInt 64).toInt64 &&& 63)))) 378) x = _
                rw [n32_d64 w w2, n32_r64 w w2, n32_c (by omega), add378 rfl, mnB_same hb.1 hb.2 heq]
                exact congrArg (fun z => decide (x = w) || z) (hf x hx)
              · rw [ev, em1] at h3
                omega
              · rw [ev, one] at h4
                omega
            · have h3 : ¬ 0 ≤ v.toInt := h3
              rcases hc with ⟨ev, -⟩ | ⟨ev, k, hk, he, hlt⟩ | ⟨ev, -⟩
              · rw [ev, zero] at h3
                omega
              · have hlt := rw_lt hR hBR hk he hlt
                refine ⟨0, w, R, A1, A2, ⟨rfl, congrArg (fun z => some (false, Value.int z)) ev, rfl, rfl, rfl, trivial⟩, rfl, Nat.zero_le _, hQ, hB, g3, less (fun y hy => ?_), fun y hy => absurd hy (Nat.not_lt_zero y)⟩
                exact Nat.lt_of_lt_of_le hlt (hb.2 y hy)
              · rw [ev, one] at h3
                omega
        · have h2 : ¬ ¬ (Int32.ofNat w).toInt = 0 := h2
          rw [tw] at h2
          refine ⟨fun h3 => absurd (show 0 ≤ (Int32.ofInt (-1)).toInt from h3) (by decide), fun _ => ?_⟩
          exact ⟨0, w, R, A1, A2, ⟨rfl, rfl, rfl, rfl, rfl, trivial⟩, rfl, Nat.zero_le _, hQ, hB, g3, less (fun y hy => by omega), fun y hy => absurd hy (Nat.not_lt_zero y)⟩
    · rintro lg vs A' ⟨x, w, R, A1, A2, hs, rfl, hx, hQ, hB, g, hW, h0⟩
      have hx : x ≤ 4 := hx
      have tx := n32_t (show x < 4096 by omega)
      refine ⟨_, 60, hs, fun h => ?_, fun h => ?_⟩
      · have h : (Int32.ofInt 4).toInt ≤ (Int32.ofNat x).toInt := h
        rw [e4i, tx] at h
        exact ⟨0, w, R, A1, A2, ⟨rfl, rfl, rfl, rfl, rfl, trivial⟩, rfl, Nat.zero_le _, hQ, hB, g, hW, fun y hy => h0 y (by omega), fun y hy => absurd hy (Nat.not_lt_zero y)⟩
      · have h : ¬ (Int32.ofInt 4).toInt ≤ (Int32.ofNat x).toInt := h
        rw [e4i, tx] at h
        refine ⟨x + 1, w, R, A1, A2, ⟨?_, rfl, rfl, rfl, rfl, trivial⟩, rfl, (show x + 1 ≤ 4 by omega), hQ, hB, g.tr eSame.J, hW, fun y hy => ?_⟩
        · show some (false, Value.int (Int32.ofNat x + Int32.ofInt 1)) = some (false, .int (Int32.ofNat (x + 1)))
          rw [n32_s (by omega)]
        · show zJ (zuJ A' 378 (Int32.ofNat x).toNatClampNeg (Int64.ofNat 0)) 378 y = _
          rw [n32_c (by omega), zuJ_x]
          split
          · rfl
          · exact h0 y (by omega)
    · rintro lg vs A' ⟨k, w, R, A1, A2, hs, rfl, hk, hQ, hB, g, hW, h0, h7⟩
      have hk : k ≤ 6 := hk
      have tk := n32_t (show k < 4096 by omega)
      obtain ⟨w2, wl, w6, wR⟩ := id hW
      have tw := n32_t (show w < 4096 by omega)
      refine ⟨_, 80, hs, fun h => ?_, fun h => ?_⟩
      · have h : (Int32.ofInt 6).toInt ≤ (Int32.ofNat k).toInt := h
        rw [e6, tk] at h
        refine ⟨fun h3 => absurd (show 0 < (-1 : Int32).toInt from h3) (by decide), fun _ => ?_⟩
        refine ⟨w + 1, A1, A2, ⟨?_, rfl, rfl, trivial⟩, rfl, (show w + 1 ≤ 256 by omega), hQ, hB, g.tr eSame.J, Or.inr ⟨w, R, lsP_less wl, fun y hy => h7 y (by omega), wR⟩, fun x hx => ?_⟩
        · show some (false, Value.int (Int32.ofNat w + Int32.ofInt 1)) = some (false, .int (Int32.ofNat (w + 1)))
          rw [n32_s (by omega)]
        · show bF (zJ (zuJ A' 378 (Int32.ofNat w / Int32.ofInt 64).toNatClampNeg (zJ A' 378 (Int32.ofNat w / Int32.ofInt 64).toNatClampNeg ||| (Int64.ofNat 1 <<< ((Int32.ofNat w % Int32.ofInt 64).toInt64 &&& 63)))) 378) x = _
          rw [n32_d64 w w2, n32_r64 w w2, n32_c (by omega), add378 rfl, mnB_less wl, z378 h0 hx]
      · have h : ¬ (Int32.ofInt 6).toInt ≤ (Int32.ofNat k).toInt := h
        rw [e6, tk] at h
        have k6 : k < 6 := by omega
        refine ⟨k + 1, w, R, A1, A2, ⟨?_, rfl, rfl, rfl, rfl, trivial⟩, rfl, (show k + 1 ≤ 6 by omega), hQ, hB, g.tr eSame.I, ⟨w2, wl, fun y hy => ?_, wR⟩, h0, fun y hy => ?_⟩
        · show some (false, Value.int (Int32.ofNat k + Int32.ofInt 1)) = some (false, .int (Int32.ofNat (k + 1)))
          rw [n32_s (by omega)]
        · show zI (zuI A' 377 _ _) 376 y = _
          rw [zuI_x, if_neg (by omega)]
          exact w6 y hy
        · show zI (zuI A' 377 (Int32.ofNat k).toNatClampNeg (zI A' 376 (Int32.ofNat k).toNatClampNeg)) 377 y = _
          rw [n32_c (by omega), zuI_x]
          by_cases e : y = k
          · rw [if_pos ⟨rfl, e⟩, w6 k k6, e]
          · rw [if_neg (fun z => e z.2)]
            exact h7 y (by omega)
  · obtain ⟨hm, hT, hl⟩ := hp
    refine ⟨a.1, rfl, hm, ?_⟩
    rintro rv A2 ⟨rfl, A1, hQ, g, h55, hmm⟩
    have hT1 : trM A1 := fun u hu => by
      rw [(hQ.1.1.2.1 345 u (by decide) (by decide +kernel)).1]
      exact hT u hu
    exact ⟨0, A1, A2, ⟨rfl, rfl, rfl, trivial⟩, rfl, Nat.zero_le _, hQ, ⟨g, h55, hmm, hT1⟩, eSame.rf, fun y hy => absurd hy (Nat.not_lt_zero y)⟩
