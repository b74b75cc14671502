/-! news, on both sides: what is given up is left open here -/
def znwV (c n s u : Int32) (e : Bool) : Option Int32 := if ¬ ((0 ≤ s.toInt ∧ s.toInt < c.toInt) ∧ (0 ≤ u.toInt ∧ u.toInt < 6)) then some (-1) else if e = true then some (-3) else if ¬ n.toInt < 12 then some (-4) else none
theorem znw_1 {c n s u : Int32} {e : Bool} (h : ¬ ((0 ≤ s.toInt ∧ s.toInt < c.toInt) ∧ (0 ≤ u.toInt ∧ u.toInt < 6))) : znwV c n s u e = some (-1) := if_pos h
theorem znw_3 {c n s u : Int32} {e : Bool} (h : (0 ≤ s.toInt ∧ s.toInt < c.toInt) ∧ (0 ≤ u.toInt ∧ u.toInt < 6)) (h2 : e = true) : znwV c n s u e = some (-3) := by
  unfold znwV
  rw [if_neg (fun z => z h), if_pos h2]
theorem znw_4 {c n s u : Int32} {e : Bool} (h : (0 ≤ s.toInt ∧ s.toInt < c.toInt) ∧ (0 ≤ u.toInt ∧ u.toInt < 6)) (h2 : e = false) (h3 : ¬ n.toInt < 12) : znwV c n s u e = some (-4) := by
  unfold znwV
  rw [if_neg (fun z => z h), if_neg (by rw [h2]; exact Bool.false_ne_true), if_pos h3]
theorem znw_n {c n s u : Int32} {e : Bool} (h : (0 ≤ s.toInt ∧ s.toInt < c.toInt) ∧ (0 ≤ u.toInt ∧ u.toInt < 6)) (h2 : e = false) (h3 : n.toInt < 12) : znwV c n s u e = none := by
  unfold znwV
  rw [if_neg (fun z => z h), if_neg (by rw [h2]; exact Bool.false_ne_true), if_neg (fun z => z h3)]
theorem znw_g {c n s u : Int32} {e : Bool} (h : znwV c n s u e = none) : ((0 ≤ s.toInt ∧ s.toInt < c.toInt) ∧ (0 ≤ u.toInt ∧ u.toInt < 6)) ∧ e = false ∧ n.toInt < 12 := by
  unfold znwV at h
  split at h
  · cases h
  · rename_i h1
    split at h
    · cases h
    · rename_i h2
      split at h
      · cases h
      · rename_i h3
        exact ⟨Classical.not_not.mp h1, (by cases e with | true => exact absurd rfl h2 | false => rfl), Classical.not_not.mp h3⟩
theorem zb_f {b : Bool} (h : (zb b).toInt = 0) : b = false := by
  cases b with
  | false => rfl
  | true => exact absurd h (by decide)
theorem zb_t {b : Bool} (h : ¬ (zb b).toInt = 0) : b = true := by
  cases b with
  | false => exact absurd (by decide) h
  | true => rfl
/-- a sentence, or its contrary -/
def zE2 (A : zW) (b : Nat) : zW := ztn (zbe A 122 b 4) 122 4
def zE3 (A X X2 : zW) (b : Nat) : zW := zhv [(7, 6)] (zhv [(6, 0)] (zE2 A b) X) X2
def zq_inWay1 : zQ := zfu (fun a : Nat × Int32 => [.ref 0, .ref a.1, .int a.2]) (fun a _ => zB a.1 4 = true ∧ a.2.toInt = 1) (fun _ _ => some (.ref 122)) (fun a A => zE2 A a.1)
set_option maxRecDepth 20000 in
theorem za_X11_inWay1 : zdo r_X11_inWay zq_inWay1 := by
  refine zdo_fu [(357, 2, zq_become), (393, 1, zq_turn)] (fun _ _ => []) 40 fo_X11 rfl (zs_cons rfl za_X1_become (zs_cons rfl za_X1_turn zs_nil)) k_X11_inWay (fun _ _ _ => no_zh) (fun a A hp => ?_)
  obtain ⟨b, y⟩ := a
  obtain ⟨hB, hy⟩ := hp
  have hB : zB b 4 = true := hB
  have hy : y.toInt = 1 := hy
  have e1 : (Int32.ofInt 1).toInt = 1 := by decide
  refine ⟨fun h => ?_, fun h => ?_⟩
  · have b1 : zB 122 4 = true := by decide +kernel
    exact ⟨(122, b, 4), rfl, ⟨b1, hB, (by decide : 4 ≤ 64)⟩, (122, 4), rfl, ⟨b1, (by decide : 4 ≤ 64)⟩, rfl, rfl⟩
  · have h : ¬ y.toInt = (Int32.ofInt 1).toInt := h
    omega
def zq_inWay0 : zQ := zpu (fun a : Nat × Int32 => [.ref 0, .ref a.1, .int a.2]) (fun a _ => ¬ a.2.toInt = 1) (fun a _ => .ref a.1)
set_option maxRecDepth 20000 in
theorem za_X11_inWay0 : zdo r_X11_inWay zq_inWay0 := by
  refine zdo_pu [(357, 2, zq_become), (393, 1, zq_turn)] (fun _ _ => []) 40 fo_X11 rfl (zs_cons rfl za_X1_become (zs_cons rfl za_X1_turn zs_nil)) k_X11_inWay (fun _ _ _ => no_zh) (fun a A hp => ?_)
  obtain ⟨b, y⟩ := a
  have hy : ¬ y.toInt = 1 := hp
  have e1 : (Int32.ofInt 1).toInt = 1 := by decide
  refine ⟨fun h => ?_, fun h => ?_⟩
  · have h : y.toInt = (Int32.ofInt 1).toInt := h
    omega
  · exact ⟨rfl, rfl⟩
def zQ_lc : zQ := zhq 1 [(6, 0)]
def zQ_ab : zQ := zhq 0 [(7, 6)]
set_option maxRecDepth 20000 in
theorem za_X2_leastCut : zdo r_X2_leastCut zQ_lc := zdo_hv (by decide) (by decide)
set_option maxRecDepth 20000 in
theorem za_X2_abandon : zdo r_X2_abandon zQ_ab := zdo_hv (by decide) (by decide)
abbrev znwA : Type := (Int32 × Int32 × Int32 × Int32) × Int32 × Int32
def znw_F (q : Nat) : znwA → List Value := fun (_, s, u) => [.ref q, .int s, .int u]
def znw_P : znwA → zW → Prop := fun ((c, n, t, k), _, _) A => (zF A 0 1 = .int c ∧ c.toInt ≤ 60) ∧ zcE A n ∧ 385 ≤ zN A ∧ zF A 193 2 = .int t ∧ zF A 193 3 = .int k
def znw_e (A : zW) (s : Int32) : Bool := zzB (zJ A (2 + 2 * s.toInt.toNat + 1)) 4
def znw_Q : znwA → zW → Option Value → zW → Prop := fun ((c, n, t, k), s, u) A rv A' => zhdQ (znwV c n s u (znw_e A s)) n (fun A' => ∃ X X2 D, (zN A ≤ zN X ∧ zN X ≤ zN X2) ∧ A' = znE (zE3 A X X2 (2 + 2 * s.toInt.toNat)) D s u t (Int32.ofInt 99) k) A rv A'
def zq_news : zQ := zs (znw_F 0) znw_P znw_Q
def Sp_znw : zP := [(381, 2, zq_sentenceAt), (487, 1, q_isSource), (840, 1, zq_isEmpty), (513, 1, zq_isFullE), (729, 3, zq_inWay1), (810, 2, zQ_lc), (831, 2, zQ_ab), (542, 7, zq_Entry), (549, 3, zq_keepE)]
theorem Sp_znw_ok : zsp T_X11_news Sp_znw := zs_cons rfl za_X11_sentenceAt (zs_cons rfl za_X11_isSource (zs_cons rfl za_X1_isEmpty (zs_cons rfl za_X2_isFull (zs_cons rfl za_X11_inWay1 (zs_cons rfl za_X2_leastCut (zs_cons rfl za_X2_abandon (zs_cons rfl za_X4_init (zs_cons rfl za_X2_keep zs_nil))))))))
set_option maxRecDepth 20000 in
set_option maxHeartbeats 4000000 in
theorem za_X11_news : zdo r_X11_news zq_news := by
  refine zdo_of _ _ _ Sp_znw (fun _ _ => []) 100 fo_X11 rfl Sp_znw_ok k_X11_news (fun _ _ _ => no_zh) (fun a A hp => ?_)
  obtain ⟨⟨c, n, t, k⟩, s, u⟩ := a
  obtain ⟨⟨hc, hc60⟩, hE, hN, hvt, hvk⟩ := hp
  have hvt : zF A 193 2 = .int t := hvt
  have hvk : zF A 193 3 = .int k := hvk
  have hn : zF A 193 1 = .int n := hE.1
  have hc60 : c.toInt ≤ 60 := hc60
  have no : ∀ v : Int32, znwV c n s u (znw_e A s) = some v → znw_Q ((c, n, t, k), s, u) A (some (.int v)) A := fun v h => (zhd_no h : zhdQ (znwV c n s u (znw_e A s)) n (fun A' => ∃ X X2 D, (zN A ≤ zN X ∧ zN X ≤ zN X2) ∧ A' = znE (zE3 A X X2 (2 + 2 * s.toInt.toNat)) D s u t (Int32.ofInt 99) k) A (some (.int v)) A)
  refine ⟨(s, c), rfl, ⟨hc, hc60⟩, fun h => ?_, fun h => ?_⟩
  · exact no _ (znw_1 (fun z => zat_n (fun z => by cases z) h z.1))
  have hs : 0 ≤ s.toInt ∧ s.toInt < c.toInt := zat_y h
  have e1 : zat c s (.ref (2 + 2 * s.toInt.toNat)) = .ref (2 + 2 * s.toInt.toNat) := if_pos hs
  have hB := zB_s (show s.toInt.toNat < 60 by omega)
  refine ⟨u, rfl, trivial, fun h => ?_, fun h => ?_⟩
  rotate_left
  · exact no _ (znw_1 (fun z => zb_n (Classical.not_not.mp h) z.2))
  have hu := zb_y h
  refine ⟨(2 + 2 * s.toInt.toNat, 4), ?_, ⟨hB, (by decide : 4 ≤ 64)⟩, fun h => ?_, fun h => ?_⟩
  · show [zat c s (.ref (2 + 2 * s.toInt.toNat))] = _
    rw [e1]
  rotate_left
  · exact no _ (znw_3 ⟨hs, hu⟩ (zb_t h))
  have he : znw_e A s = false := zb_f h
  refine ⟨n, rfl, hE, fun h => ?_, fun h => ?_⟩
  rotate_left
  · exact no _ (znw_4 ⟨hs, hu⟩ he (zb_y h))
  have hn12 := Classical.not_not.mp (zb_n h)
  refine ⟨(2 + 2 * s.toInt.toNat, Int32.ofInt 1), ?_, ⟨hB, (by decide : (Int32.ofInt 1).toInt = 1)⟩, ?_⟩
  · show [Value.ref 0, zat c s (.ref (2 + 2 * s.toInt.toNat)), .int (Int32.ofInt 1)] = _
    rw [e1]
  intro X x hx hX
  obtain ⟨x, rfl⟩ := hx
  intro X2 y hy hX2
  obtain rfl : y = none := hy
  intro D
  have hX : zN A ≤ zN X := hX
  have hX2 : zN X ≤ zN X2 := hX2
  have hN3 : 385 ≤ zN (zE3 A X X2 (2 + 2 * s.toInt.toNat)) := by
    show 385 ≤ zN X2
    omega
  have hE3 : zcE (zE3 A X X2 (2 + 2 * s.toInt.toNat)) n := ⟨hE.1, hE.2⟩
  refine ⟨(zN (zE3 A X X2 (2 + 2 * s.toInt.toNat)), n, s, u, t, Int32.ofInt 99, k), ?_, ⟨hN3, ?_⟩, ?_⟩
  · show [Value.ref (zN (zE3 A X X2 (2 + 2 * s.toInt.toNat))), zF (zuN (zE3 A X X2 (2 + 2 * s.toInt.toNat)) 4 7 D) 193 1, .int s, .int u, zF (zuN (zE3 A X X2 (2 + 2 * s.toInt.toNat)) 4 7 D) 193 2, .int (Int32.ofInt 99), zF (zuN (zE3 A X X2 (2 + 2 * s.toInt.toNat)) 4 7 D) 193 3] = [.ref (zN (zE3 A X X2 (2 + 2 * s.toInt.toNat))), .int n, .int s, .int u, .int t, .int (Int32.ofInt 99), .int k]
    rw [zuN_f (znN hN3 (by decide)), zuN_f (znN hN3 (by decide)), zuN_f (znN hN3 (by decide)), show zF (zE3 A X X2 (2 + 2 * s.toInt.toNat)) 193 1 = .int n from hE.1, show zF (zE3 A X X2 (2 + 2 * s.toInt.toNat)) 193 2 = .int t from hvt, show zF (zE3 A X X2 (2 + 2 * s.toInt.toNat)) 193 3 = .int k from hvk]
  · show (zK (zuN (zE3 A X X2 (2 + 2 * s.toInt.toNat)) 4 7 D) (zN (zE3 A X X2 (2 + 2 * s.toInt.toNat)))).1 = 4
    rw [zuN_k]
  have en : iv (zF (zE3 A X X2 (2 + 2 * s.toInt.toNat)) 193 1) = n := by
    rw [show zF (zE3 A X X2 (2 + 2 * s.toInt.toNat)) 193 1 = .int n from hE.1]
    rfl
  have hE4 := hE3.new (D := D) (s := s) (u := u) (f := t) (t := Int32.ofInt 99) (k := k) hN3
  rw [en] at hE4
  refine ⟨(zN (zE3 A X X2 (2 + 2 * s.toInt.toNat)), 2 + 2 * s.toInt.toNat, n, n), ?_, ⟨hE4, hn12, hN3, ?_, zent_0, hB⟩, ?_⟩
  · show [Value.ref 193, Value.ref (zN (zE3 A X X2 (2 + 2 * s.toInt.toNat))), zat c s (.ref (2 + 2 * s.toInt.toNat))] = _
    rw [e1]
  · show (zK (zuN (zE3 A X X2 (2 + 2 * s.toInt.toNat)) 4 7 D) (zN (zE3 A X X2 (2 + 2 * s.toInt.toNat)))).1 = 4
    rw [zuN_k]
  · show zhdQ (znwV c n s u (znw_e A s)) n (fun A' => ∃ X X2 D, (zN A ≤ zN X ∧ zN X ≤ zN X2) ∧ A' = znE (zE3 A X X2 (2 + 2 * s.toInt.toNat)) D s u t (Int32.ofInt 99) k) A (some (.int n)) (zkp (zent (zuN (zE3 A X X2 (2 + 2 * s.toInt.toNat)) 4 7 D) (zN (zE3 A X X2 (2 + 2 * s.toInt.toNat))) n s u t (Int32.ofInt 99) k) (zN (zE3 A X X2 (2 + 2 * s.toInt.toNat))) (2 + 2 * s.toInt.toNat))
    rw [znw_n ⟨hs, hu⟩ he hn12]
    refine ⟨rfl, X, X2, D, ⟨hX, hX2⟩, ?_⟩
    unfold znE
    rw [en]
/-- the reference's -/
def zQ_lcM : zQ := zhq 1 [(17, 17), (17, 19), (17, 20), (17, 21), (17, 23), (17, 25), (17, 26), (55, 0), (56, 0), (57, 0)]
def zQ_gaM : zQ := zhq 0 [(17, 19), (17, 33), (17, 55), (54, 0)]
set_option maxRecDepth 20000 in
theorem za_X12_leastCut : zdo r_X12_leastCut zQ_lcM := zdo_hv (by decide) (by decide)
set_option maxRecDepth 20000 in
theorem za_X12_giveAll : zdo r_X12_giveAll zQ_gaM := zdo_hv (by decide) (by decide)
def zE3m (A X X2 : zW) : zW := zhv [(17, 19), (17, 33), (17, 55), (54, 0)] (zhv [(17, 17), (17, 19), (17, 20), (17, 21), (17, 23), (17, 25), (17, 26), (55, 0), (56, 0), (57, 0)] A X) X2
def znm_P : znwA → zW → Prop := fun ((c, n, t, k), _, _) A => (zF A 343 1 = .int c ∧ c.toInt ≤ 60) ∧ (zF A 343 8 = .int n ∧ 0 ≤ n.toInt ∧ n.toInt ≤ 12) ∧ zF A 343 15 = .int t ∧ zF A 343 16 = .int k
def znm_e (A : zW) (s : Int32) : Bool := decide ((szA (fun v => cbA v 64) (zsw A s.toInt.toNat) 4).toInt = 0)
def znm_Q : znwA → zW → Option Value → zW → Prop := fun ((c, n, t, k), s, u) A rv A' => zhdQ (znwV c n s u (znm_e A s)) n (fun A' => ∃ X X2, (zN A ≤ zN X ∧ zN X ≤ zN X2) ∧ A' = zae (zE3m A X X2) s u t (Int32.ofInt 99) k) A rv A'
def zq_newsM : zQ := zs (znw_F 343) znm_P znm_Q
def Sp_znm : zP := [(669, 2, q_noSentence), (727, 1, q_noSource), (690, 2, zq_countAt), (1032, 3, zQ_lcM), (1050, 2, zQ_gaM), (912, 6, zq_addEntry)]
theorem Sp_znm_ok : zsp T_X12_news Sp_znm := zs_cons rfl za_X12_noSentence (zs_cons rfl za_X12_noSource (zs_cons rfl za_X12_countAt (zs_cons rfl za_X12_leastCut (zs_cons rfl za_X12_giveAll (zs_cons rfl za_X12_addEntry zs_nil)))))
set_option maxRecDepth 20000 in
set_option maxHeartbeats 4000000 in
theorem za_X12_news : zdo r_X12_news zq_newsM := by
  refine zdo_of _ _ _ Sp_znm (fun _ _ => []) 100 fo_X12 rfl Sp_znm_ok k_X12_news (fun _ _ _ => no_zh) (fun a A hp => ?_)
  obtain ⟨⟨c, n, t, k⟩, s, u⟩ := a
  obtain ⟨⟨hc, hc60⟩, ⟨hn, n0, n1⟩, hvt, hvk⟩ := hp
  have hc60 : c.toInt ≤ 60 := hc60
  have hn : zF A 343 8 = .int n := hn
  have hvt : zF A 343 15 = .int t := hvt
  have hvk : zF A 343 16 = .int k := hvk
  have n1 : n.toInt ≤ 12 := n1
  have e12 : (Int32.ofInt 12).toInt = 12 := by decide
  have no : ∀ v : Int32, znwV c n s u (znm_e A s) = some v → znm_Q ((c, n, t, k), s, u) A (some (.int v)) A := fun v h => (zhd_no h : zhdQ (znwV c n s u (znm_e A s)) n (fun A' => ∃ X X2, (zN A ≤ zN X ∧ zN X ≤ zN X2) ∧ A' = zae (zE3m A X X2) s u t (Int32.ofInt 99) k) A (some (.int v)) A)
  refine ⟨(s, c), rfl, hc, fun h => ?_, fun h => ?_⟩
  · exact no _ (znw_1 (fun z => zb_y h z.1))
  have hs : 0 ≤ s.toInt ∧ s.toInt < c.toInt := Classical.not_not.mp (zb_n (Classical.not_not.mp h))
  refine ⟨u, rfl, trivial, fun h => ?_, fun h => ?_⟩
  rotate_left
  · exact no _ (znw_1 (fun z => zb_y h z.2))
  have hu := Classical.not_not.mp (zb_n h)
  refine ⟨s, rfl, ⟨hs.1, show s.toInt < 60 by omega⟩, fun h => ?_, fun h => ?_⟩
  rotate_left
  · exact no _ (znw_3 ⟨hs, hu⟩ (decide_eq_true (Classical.not_not.mp h)))
  have he : znm_e A s = false := decide_eq_false h
  refine ⟨fun h => ?_, fun h => ?_⟩
  rotate_left
  · have h : ¬ ¬ (iv (zF A 343 8)).toInt = (Int32.ofInt 12).toInt := h
    rw [hn] at h
    have h : ¬ ¬ n.toInt = (Int32.ofInt 12).toInt := h
    exact no _ (znw_4 ⟨hs, hu⟩ he (by omega))
  have h : ¬ (iv (zF A 343 8)).toInt = (Int32.ofInt 12).toInt := h
  rw [hn] at h
  have h : ¬ n.toInt = (Int32.ofInt 12).toInt := h
  intro X x hx hX
  obtain ⟨x, rfl⟩ := hx
  intro X2 y hy hX2
  obtain rfl : y = none := hy
  have hX : zN A ≤ zN X := hX
  have hX2 : zN X ≤ zN X2 := hX2
  refine ⟨(s, u, t, Int32.ofInt 99, k), ?_, trivial, ?_⟩
  · show [Value.ref 343, .int s, .int u, zF (zE3m A X X2) 343 15, .int (Int32.ofInt 99), zF (zE3m A X X2) 343 16] = _
    rw [show zF (zE3m A X X2) 343 15 = .int t from hvt, show zF (zE3m A X X2) 343 16 = .int k from hvk]
  · show zhdQ (znwV c n s u (znm_e A s)) n (fun A' => ∃ X X2, (zN A ≤ zN X ∧ zN X ≤ zN X2) ∧ A' = zae (zE3m A X X2) s u t (Int32.ofInt 99) k) A (some (.int (iv (zF (zE3m A X X2) 343 8) + Int32.ofInt 1 - Int32.ofInt 1))) (zae (zE3m A X X2) s u t (Int32.ofInt 99) k)
    rw [znw_n ⟨hs, hu⟩ he (by omega), show zF (zE3m A X X2) 343 8 = .int n from hn]
    refine ⟨?_, X, X2, ⟨hX, hX2⟩, rfl⟩
    show some (Value.int (n + 1 - 1)) = some (.int n)
    rw [Int32.add_sub_cancel]
