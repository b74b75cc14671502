/-! together, cuts, cutOf, many -/
/-- the worlds in which all of a set are true -/
def gaO (A : zW) (S : Nat) (w : Nat) : Bool := decide (dfN S (ztw A w) = 0)
def gaF (A : zW) (q S n : Nat) : Nat → Int64 := fmF 4 (gaO A S) (fun w => w) (zJ A (q + 1)) n
def zq_gather : zQ := zfu (fun a : Nat × Nat => [.ref 193, .int (Int32.ofNat a.2), .ref a.1]) (fun a A => zB a.1 4 = true ∧ a.2 < 4096 ∧ zti A) (fun _ _ => none) (fun a A => zsJ A (a.1 + 1) (gaF A a.1 a.2 256))
def in_zga (A : zW) (q S : Nat) : fL_ → List Value → zW → Prop := fun lg vs A' => ∃ w : Nat, f_sub [(3, false, .int (Int32.ofNat w)), (0, false, .ref 193), (1, false, .int (Int32.ofNat S)), (2, false, .ref q)] lg ∧ vs = [] ∧ A' = zsJ A (q + 1) (gaF A q S w) ∧ w ≤ 256
set_option maxRecDepth 20000 in
theorem zad_q {A : zW} {f : Nat → Int64} {q S : Nat} : zad (zsJ A (q + 1) f) q S = zsJ A (q + 1) (addF f S) := by
  unfold zad
  rw [zsJ_at]
  refine zuJ_zsJ (fun x => ?_)
  unfold addF
  by_cases h : x = S / 64
  · rw [if_pos h, if_pos h, h]
  · rw [if_neg h, if_neg h]
set_option maxRecDepth 20000 in
set_option maxHeartbeats 8000000 in
theorem zc_X2_gather : zdo r_X2_gather zq_gather := by
  refine zdo_fu [(279, 1, zq_clear), (288, 2, zq_add)] (fun a A => [(6, in_zga A a.1 a.2)]) 80 fo_X2 rfl (zs_cons rfl za_X1_clear (zs_cons rfl za_X1_add zs_nil)) k_X2_gather (fun a A hp => ?_) (fun a A hp => ?_)
  · obtain ⟨q, S⟩ := a
    obtain ⟨hB, hS, hT⟩ := hp
    have hB : zB q 4 = true := hB
    have hS : S < 4096 := hS
    have hT : zti A := hT
    refine List.forall_mem_cons.mpr ⟨?_, fun _ h => absurd h List.not_mem_nil⟩
    rintro lg vs A' ⟨w, hs, rfl, eA, hw⟩
    have hw : w ≤ 256 := hw
    have tw := n32_t (show w < 4096 by omega)
    have eq1 : some (false, Value.int (Int32.ofNat w + Int32.ofInt 1)) = some (false, .int (Int32.ofNat (w + 1))) := by rw [n32_s (by omega)]
    refine ⟨_, 80, hs, fun h => ?_, fun h => ?_⟩
    · have h : (Int32.ofInt 256).toInt ≤ (Int32.ofNat w).toInt := h
      rw [e256, tw] at h
      refine ⟨rfl, ?_⟩
      rw [eA, show w = 256 by omega]
    · have h : ¬ (Int32.ofInt 256).toInt ≤ (Int32.ofNat w).toInt := h
      rw [e256, tw] at h
      obtain ⟨hi, ht⟩ := hT w (by omega)
      have eS : Int32.ofNat S &&& (zI A' 196 (Int32.ofNat w).toNatClampNeg ^^^ Int32.ofInt (-1)) = Int32.ofNat (dfN S (ztw A w)) := by
        rw [n32_c (by omega), show zI A' 196 w = zI A 196 w by rw [eA]; rfl, hi, n32_dif]
      have td := n32_t (show dfN S (ztw A w) < 4096 from Nat.lt_of_le_of_lt dfN_le hS)
      refine ⟨fun h2 => ?_, fun h2 => ?_⟩
      · have h2 : ¬ (Int32.ofNat S &&& (zI A' 196 (Int32.ofNat w).toNatClampNeg ^^^ Int32.ofInt (-1))).toInt = 0 := h2
        rw [eS, td] at h2
        refine ⟨w + 1, ⟨eq1, rfl, rfl, rfl, trivial⟩, rfl, ?_, (show w + 1 ≤ 256 by omega)⟩
        rw [eA]
        show zsJ A (q + 1) (fmF 4 (gaO A S) (fun w => w) (zJ A (q + 1)) w) = zsJ A (q + 1) (if gaO A S w = true then _ else _)
        rw [if_neg (show ¬ gaO A S w = true from fun z => h2 (by rw [of_decide_eq_true z]; rfl))]
      · have h2 : ¬ ¬ (Int32.ofNat S &&& (zI A' 196 (Int32.ofNat w).toNatClampNeg ^^^ Int32.ofInt (-1))).toInt = 0 := h2
        rw [eS, td] at h2
        refine ⟨(q, 4, w), rfl, ⟨hB, (show w / 64 < 4 by omega), (show w < 4096 by omega)⟩, ?_⟩
        refine ⟨w + 1, ⟨eq1, rfl, rfl, rfl, trivial⟩, rfl, ?_, (show w + 1 ≤ 256 by omega)⟩
        show zad A' q w = zsJ A (q + 1) (if gaO A S w = true then _ else _)
        rw [if_pos (show gaO A S w = true from decide_eq_true (by omega)), eA]
        exact zad_q
  · obtain ⟨q, S⟩ := a
    obtain ⟨hB, -⟩ := hp
    refine ⟨(q, 4), rfl, ⟨hB, (by decide : 4 ≤ 64)⟩, ?_⟩
    exact ⟨0, ⟨rfl, rfl, rfl, rfl, trivial⟩, rfl, rfl, by decide⟩
theorem gaF_c {A : zW} {q S : Nat} : (szA bcV (gaF A q S 256) 4).toInt = ((cN (gaO A S) 256 : Nat) : Int) := by
  rw [szA_cN (by decide)]
  show ((cN (bF (gaF A q S 256)) 256 : Nat) : Int) = _
  have e : cN (bF (gaF A q S 256)) 256 = cN (gaO A S) 256 := cN_eq (fun i hi => by
    have h := fmF_b (m := 4) (out := gaO A S) (sS := fun w => w) (o := zJ A (q + 1)) (T := i) (by omega) (n := 256)
    have h : bF (gaF A q S 256) i = true ↔ ∃ w, w < 256 ∧ gaO A S w = true ∧ w = i := h
    cases hb : gaO A S i with
    | true => exact h.mpr ⟨i, hi, hb, rfl⟩
    | false =>
      refine Bool.eq_false_iff.mpr (fun z => ?_)
      obtain ⟨w, -, w2, rfl⟩ := h.mp z
      rw [hb] at w2
      cases w2)
  rw [e]
/-- together -/
def tgV (set n v : Int32) : Int32 := if 0 ≤ set.toInt ∧ set.toInt < ((2 ^ n.toInt.toNat : Nat) : Int) then v else -2
def tgW (A : zW) (set n : Int32) (A' : zW) : Prop := A' = A ∨ A' = zsJ A 125 (gaF A 124 set.toInt.toNat 256)
def zq_togetherC : zQ := zs (fun a : Int32 × Int32 => [.ref 0, .int a.1]) (fun a A => zcE A a.2 ∧ zti A) (fun a A rv A' => rv = some (.int (tgV a.1 a.2 (szA bcV (gaF A 124 a.1.toInt.toNat 256) 4))) ∧ tgW A a.1 a.2 A')
theorem zB_124 : zB 124 4 = true := by decide +kernel
set_option maxRecDepth 20000 in
theorem zc_X11_together : zdo r_X11_together zq_togetherC := by
  refine zdo_of _ _ _ [(699, 2, zq_areEntries), (717, 3, zq_gather), (438, 1, zq_size)] (fun _ _ => []) 60 fo_X11 rfl (zs_cons rfl za_X2_areEntries (zs_cons rfl zc_X2_gather (zs_cons rfl za_X1_size zs_nil))) k_X11_together (fun _ _ _ => no_zh) (fun a A hp => ?_)
  obtain ⟨set, n⟩ := a
  obtain ⟨hn, hT⟩ := hp
  have hn1 : n.toInt ≤ 12 := hn.2.2
  have hn0 : 0 ≤ n.toInt := hn.2.1
  refine ⟨(set, n), rfl, hn, fun h => ?_, fun h => ?_⟩
  · have h : 0 ≤ set.toInt ∧ set.toInt < ((2 ^ n.toInt.toNat : Nat) : Int) := zb_y h
    have hm := p2_le n.toInt.toNat (by omega)
    have es : set = Int32.ofNat set.toInt.toNat := n32_of (by omega)
    refine ⟨(124, set.toInt.toNat), ?_, ⟨zB_124, (show set.toInt.toNat < 4096 by omega), hT⟩, ?_⟩
    · show [Value.ref 193, .int set, .ref 124] = [.ref 193, .int (Int32.ofNat set.toInt.toNat), .ref 124]
      rw [← es]
    · refine ⟨(124, 4), rfl, ⟨zB_124, (by decide : 4 ≤ 64)⟩, ?_, Or.inr rfl⟩
      show some (Value.int (szA bcV (zJ (zsJ A 125 (gaF A 124 set.toInt.toNat 256)) 125) 4)) = some (.int (tgV set n _))
      unfold tgV
      rw [if_pos h, zJ_s]
  · have h := zb_n (Classical.not_not.mp h)
    refine ⟨?_, Or.inl rfl⟩
    show some (Value.int (-2)) = some (.int (tgV set n _))
    unfold tgV
    rw [if_neg h]
def cwM (A : zW) (S : Nat) : Int32 := szA (fun v => cbA v 64) (fun q => zJ A 354 (4 * S + q)) 4
def zq_countWorlds : zQ := zpu (fun a : Nat => [.ref 343, .int (Int32.ofNat a)]) (fun a _ => a < 4096) (fun a A => .int (cwM A a))
def in_cw (A : zW) (S : Nat) : fL_ → List Value → zW → Prop := fun lg vs A' => ∃ q : Nat, f_sub [(3, false, .int (Int32.ofNat q)), (2, false, .int (szA (fun v => cbA v 64) (fun q => zJ A 354 (4 * S + q)) q)), (0, false, .ref 343), (1, false, .int (Int32.ofNat S))] lg ∧ vs = [] ∧ A' = A ∧ q ≤ 4
set_option maxRecDepth 20000 in
set_option maxHeartbeats 4000000 in
theorem zc_X12_countWorlds : zdo r_X12_countWorlds zq_countWorlds := by
  refine zdo_pu [(679, 1, zq_countBits)] (fun a A => [(4, in_cw A a)]) 60 fo_X12 rfl (zs_cons rfl za_X12_countBits zs_nil) k_X12_countWorlds (fun S A hp => ?_) (fun S A hp => ?_)
  · have hS : S < 4096 := hp
    refine List.forall_mem_cons.mpr ⟨?_, fun _ h => absurd h List.not_mem_nil⟩
    rintro lg vs A' ⟨q, hs, rfl, rfl, hq⟩
    have hq : q ≤ 4 := hq
    have tq := n32_t (show q < 4096 by omega)
    refine ⟨_, 60, hs, fun h => ?_, fun h => ?_⟩
    · have h : (Int32.ofInt 4).toInt ≤ (Int32.ofNat q).toInt := h
      rw [e4i, tq] at h
      refine ⟨?_, rfl⟩
      show some (Value.int (szA (fun v => cbA v 64) (fun q => zJ A' 354 (4 * S + q)) q)) = some (.int (cwM A' S))
      rw [show q = 4 by omega]
      rfl
    · have h : ¬ (Int32.ofInt 4).toInt ≤ (Int32.ofNat q).toInt := h
      rw [e4i, tq] at h
      have i1 := n32_m hS (show q < 4 by omega)
      refine ⟨zJ A' 354 (4 * S + q), ?_, trivial, ?_⟩
      · show [Value.long (zJ A' 354 (Int32.ofInt 4 * Int32.ofNat S + Int32.ofNat q).toNatClampNeg)] = _
        rw [i1]
      · refine ⟨q + 1, ⟨?_, rfl, rfl, rfl, trivial⟩, rfl, rfl, (show q + 1 ≤ 4 by omega)⟩
        show some (false, Value.int (Int32.ofNat q + Int32.ofInt 1)) = some (false, .int (Int32.ofNat (q + 1)))
        rw [n32_s (by omega)]
  · exact ⟨0, ⟨rfl, rfl, rfl, rfl, trivial⟩, rfl, rfl, Nat.zero_le _⟩
/-- the reference counts the same worlds -/
theorem cwM_c {A : zW} {S n : Nat} (hL : lwOK A (zJ A 354) (2 ^ n)) (hS : S < 2 ^ n) : (cwM A S).toInt = ((cN (fun w => decide (dfN S (trN A n w) = 0)) 256 : Nat) : Int) := by
  have e1 : cwM A S = szA bcV (fun q => zJ A 354 (4 * S + q)) 4 := szA_eq (fun v => bc_cb.symm) (fun _ _ => rfl)
  rw [e1, szA_cN (by decide)]
  show ((cN (bF (fun q => zJ A 354 (4 * S + q))) 256 : Nat) : Int) = _
  have hlt : ∀ i, S.testBit i = true → i < n := fun i hi => by
    refine Nat.lt_of_not_le (fun c => ?_)
    rw [Nat.testBit_lt_two_pow (Nat.lt_of_lt_of_le hS (Nat.pow_le_pow_right (by decide) c))] at hi
    cases hi
  have e : cN (bF (fun q => zJ A 354 (4 * S + q))) 256 = cN (fun w => decide (dfN S (trN A n w) = 0)) 256 := cN_eq (fun w hw => by
    have h := hL S hS (w / 64) (by omega) (w % 64) (by omega)
    show (zJ A 354 (4 * S + w / 64)).toBitVec.getLsbD (w % 64) = decide (dfN S (trN A n w) = 0)
    have h2 : dfN S (trN A n w) = 0 ↔ ∀ e, S.testBit e = true → (sew A e (w / 64)).toBitVec.getLsbD (w % 64) = true := by
      constructor
      · intro z e he
        have z1 := congrArg (fun x => x.testBit e) z
        have z1 : (dfN S (trN A n w)).testBit e = (0 : Nat).testBit e := z1
        unfold trN at z1
        rw [dfN_b, Nat.zero_testBit, he, Bool.true_and, Bool.not_eq_false', vwN_b, Bool.and_eq_true] at z1
        exact z1.2
      · intro z
        refine Nat.eq_of_testBit_eq (fun e => ?_)
        unfold trN
        rw [dfN_b, Nat.zero_testBit]
        cases he : S.testBit e with
        | false => rfl
        | true =>
          rw [vwN_b, decide_eq_true (hlt e he)]
          unfold seb
          rw [z e he]
          rfl
    by_cases c : dfN S (trN A n w) = 0
    · rw [decide_eq_true c]
      exact h.mpr (h2.mp c)
    · rw [decide_eq_false c]
      exact Bool.eq_false_iff.mpr (fun z => c (h2.mpr (h.mp z))))
  rw [e]
def tgmQ (a : laA) (set : Int32) (A : zW) (rv : Option Value) (A' : zW) : Prop := (¬ (0 ≤ set.toInt ∧ set.toInt < ((2 ^ a.1.toInt.toNat : Nat) : Int)) ∧ rv = some (.int (-2)) ∧ A' = A) ∨ ((0 ≤ set.toInt ∧ set.toInt < ((2 ^ a.1.toInt.toNat : Nat) : Int)) ∧ laQ a A A' ∧ rv = some (.int (cwM A' set.toInt.toNat)))
def zq_togetherM : zQ := zs (fun a : laA × Int32 => [.ref 343, .int a.2]) (fun a A => laP a.1 A) (fun a A rv A' => tgmQ a.1 a.2 A rv A')
set_option maxRecDepth 20000 in
theorem zc_X12_together : zdo r_X12_together zq_togetherM := by
  refine zdo_of _ _ _ [(951, 2, zq_isEntrySet), (924, 1, zq_lay8), (960, 2, zq_countWorlds)] (fun _ _ => []) 60 fo_X12 rfl (zs_cons rfl za_X12_isEntrySet (zs_cons rfl zc_X12_lay (zs_cons rfl zc_X12_countWorlds zs_nil))) k_X12_together (fun _ _ _ => no_zh) (fun a A hp => ?_)
  obtain ⟨⟨n, t, k⟩, set⟩ := a
  have hla : laP (n, t, k) A := hp
  have n1 : n.toInt ≤ 12 := hla.1.2.2
  refine ⟨(set, n), rfl, hla.1, fun h => ?_, fun h => ?_⟩
  · have h : 0 ≤ set.toInt ∧ set.toInt < ((2 ^ n.toInt.toNat : Nat) : Int) := zb_y h
    have hm := p2_le n.toInt.toNat (by have := hla.1.2.1; omega)
    have es : set = Int32.ofNat set.toInt.toNat := n32_of (by omega)
    refine ⟨(n, t, k), rfl, hla, ?_⟩
    rintro rv A' ⟨rfl, hQ⟩
    refine ⟨set.toInt.toNat, ?_, (show set.toInt.toNat < 4096 by omega), ?_⟩
    · show [Value.ref 343, .int set] = [.ref 343, .int (Int32.ofNat set.toInt.toNat)]
      rw [← es]
    · exact Or.inr ⟨h, hQ, rfl⟩
  · have h := zb_n (Classical.not_not.mp h)
    exact Or.inl ⟨h, rfl, rfl⟩
/-- the two count alike -/
theorem O8.tg {A A' : zW} {n m q t k c : Int32} {p S : Nat} (o : O8 A n m q t k c) (g : agj S_N A' A) (hL : lwOK A' (zJ A' 354) (2 ^ n.toInt.toNat)) (hS : S < 2 ^ n.toInt.toNat) : szA bcV (gaF A p S 256) 4 = cwM A' S := by
  refine Int32.toInt_inj.mp ?_
  rw [gaF_c, cwM_c hL hS]
  have e : cN (gaO A S) 256 = cN (fun w => decide (dfN S (trN A' n.toInt.toNat w) = 0)) 256 := cN_eq (fun w hw => by
    have es : seb A' w = seb A w := funext (fun e => by
      unfold seb
      rw [sew_m (g.sub sM_N)])
    unfold gaO
    rw [jM_tr o.y.1.2.2.2.1 o.n.1 o.n.2 hw]
    unfold trN
    rw [es])
  rw [e]
theorem agj_tg {S : List (Nat × Nat)} {A A' : zW} {set n : Int32} (hs : ¬ (zn lp_sh 125, 0) ∈ S) (h : tgW A set n A') : agj S A' A := by
  rcases h with rfl | rfl
  · exact agj.rf
  · exact agj.sJ hs
set_option maxRecDepth 20000 in
theorem pk8_together {B : Nat → Nat} : ∀ (w w1 w2 : lW) (rv1 rv2 : Option Value) (set : Int32), J8 B w → fLr r_X11_together [.ref (B 0), .int set] w rv1 w1 → fLr r_X12_together [.ref (B 343), .int set] w1 rv2 w2 → rv1 = rv2 := by
  intro w w1 w2 rv1 rv2 set hJ h1 h2
  have hb := hJ.1.1.1.b
  have hb1 : bI B w1 := hb.keep h1 (by decide)
  obtain ⟨tys, hw, -⟩ := h1.2.2.2.2.1
  obtain ⟨A, n, m, q, t, k, c, hA, o⟩ := hJ.o hw
  obtain ⟨A1, u1, hA1, hv1, e1, hW⟩ := zrun zc_X11_together h1 hA (zargs hb (by decide) (s := [.int set]) ⟨rfl, trivial⟩) (K := fun rv A' => rv = some (.int (tgV set n (szA bcV (gaF A 124 set.toInt.toNat 256) 4))) ∧ tgW A set n A') ⟨(set, n), rfl, ⟨o.e.1, jM_ti o.y.1.2.2.2.1 o.n.1 o.n.2⟩, fun _ _ h => h⟩
  have g : agj S_R8 A1 A := agj_tg (by decide +kernel) hW
  obtain ⟨A2, u2, hA2, hv2, hQ⟩ := zrun zc_X12_together h2 hA1 (zargs hb1 (by decide) (s := [.int set]) ⟨rfl, trivial⟩) (K := tgmQ (n, t, k) set A1) ⟨((n, t, k), set), rfl, laP_m (jy_la o.y) g, fun _ _ h => h⟩
  refine (zv_int hv1 e1).trans ?_
  rcases hQ with ⟨d1, e3, -⟩ | ⟨d1, hq, e3⟩
  · rw [zv_int hv2 e3]
    unfold tgV
    rw [if_neg d1]
  · rw [zv_int hv2 e3]
    unfold tgV
    rw [if_pos d1, o.tg ((g.sub sN_R).tr (hq.1.sub sN_Y)) hq.2.2.1 (show set.toInt.toNat < 2 ^ n.toInt.toNat by
      have h2 : 0 ≤ set.toInt ∧ set.toInt < ((2 ^ n.toInt.toNat : Nat) : Int) := d1
      omega)]
