/-! merging, the reference: laid -/
theorem spr_congr {f g : Nat → Nat} (h : ∀ w, w < 256 → f w = g w) : ∀ k w, k ≤ 8 → w < 256 → spr f k w = spr g k w
  | 0, w, _, hw => h w hw
  | k + 1, w, hk, hw => by
    show min (spr f k w) (spr f k (ox k w) + 1) = min (spr g k w) (spr g k (ox k w) + 1)
    rw [spr_congr h k w (by omega) hw, spr_congr h k (ox k w) (by omega) (ox_lt (by omega) hw)]
/-- a world of all of a set's entries -/
def okE (A : zW) (S w : Nat) : Bool := alN (fun e => !(S.testBit e) || seb A w e) 12
theorem okE_t {A : zW} {S w : Nat} : okE A S w = true ↔ ∀ e, e < 12 → S.testBit e = true → seb A w e = true := by
  unfold okE
  rw [alN_iff]
  constructor
  · intro h e he hb
    have h1 : (!(S.testBit e) || seb A w e) = true := h e he
    rw [hb] at h1
    exact h1
  · intro h e he
    show (!(S.testBit e) || seb A w e) = true
    cases hb : S.testBit e with
    | false => rfl
    | true => exact h e he hb
theorem tb_12 {S e : Nat} (hS : S < 4096) (he : S.testBit e = true) : e < 12 := Nat.lt_of_not_le (fun c => by
  rw [Nat.testBit_lt_two_pow (Nat.lt_of_lt_of_le (show S < 2 ^ 12 from hS) (Nat.pow_le_pow_right (by decide) c))] at he
  cases he)
theorem tb_n {S e n : Nat} (hS : S < 2 ^ n) (he : S.testBit e = true) : e < n := Nat.lt_of_not_le (fun c => by
  rw [Nat.testBit_lt_two_pow (Nat.lt_of_lt_of_le hS (Nat.pow_le_pow_right (by decide) c))] at he
  cases he)
theorem okM_E {A : zW} {S w n : Nat} (hL : lwOK A (zJ A 354) (2 ^ n)) (hn : n ≤ 12) (hS : S < 2 ^ n) (hw : w < 256) : okM A S w = okE A S w := by
  have h1 := hL S hS (w / 64) (by omega) (w % 64) (by omega)
  have h2 := p2_le n (by omega)
  rw [Bool.eq_iff_iff, okE_t]
  refine h1.trans ⟨fun h e _ he => h e he, fun h e he => h e (tb_12 (by omega) he) he⟩
theorem hw_E {A : zW} {S n : Nat} (hL : lwOK A (zJ A 354) (2 ^ n)) (hn : n ≤ 12) (hS : S < 2 ^ n) : exN (hwP A S) 4 = exN (okE A S) 256 := by
  rw [Bool.eq_iff_iff, exN_iff, exN_iff]
  constructor
  · rintro ⟨x, hx, h⟩
    unfold hwP at h
    rw [Bool.not_eq_true', decide_eq_false_iff_not, l_zero] at h
    obtain ⟨i, hi⟩ := Classical.not_forall.mp h
    obtain ⟨hi, hb⟩ := Classical.not_imp.mp hi
    rw [Bool.not_eq_false] at hb
    refine ⟨64 * x + i, by omega, ?_⟩
    rw [← okM_E hL hn hS (show 64 * x + i < 256 by omega)]
    unfold okM
    rw [show (64 * x + i) / 64 = x by omega, show (64 * x + i) % 64 = i by omega]
    exact hb
  · rintro ⟨w, hw, h⟩
    rw [← okM_E hL hn hS hw] at h
    refine ⟨w / 64, by omega, ?_⟩
    unfold hwP
    rw [Bool.not_eq_true', decide_eq_false_iff_not, l_zero]
    intro z
    have h2 := z (w % 64) (by omega)
    unfold okM at h
    rw [h] at h2
    cases h2
def srcM (A : zW) (V u : Nat) (n : Int32) : Nat := vwN (bmP A V (Int32.ofNat u)) n.toInt.toNat
def tkM (A : zW) (V : Nat) (n : Int32) (u : Nat) : Bool := !(decide (srcM A V u n = 0)) && exN (okE A (srcM A V u n)) 256
def rwM (A : zW) (V : Nat) (n : Int32) (A' : zW) (x : Nat) : Prop := ∀ w, w < 256 → zI A' 375 (256 * x + w) = Int32.ofNat (spr (st99 (okE A) (srcM A V x n)) 8 w)
def mmR (A : zW) (V : Nat) (n : Int32) (A' : zW) : Prop := zF A' 343 56 = .int (Int32.ofNat (vwN (tkM A V n) 6)) ∧ ∀ u, u < 6 → tkM A V n u = true → rwM A V n A' u
theorem srcM_lt {A : zW} {V u : Nat} {n : Int32} : srcM A V u n < 2 ^ n.toInt.toNat := vwN_lt
/-- alike but for what merging keeps -/
def gSame (A A' : zW) : Prop := (∀ p i, ¬ (p = 343 ∧ (i = 55 ∨ i = 56)) → zF A' p i = zF A p i) ∧ (∀ p i, p ≠ 375 → zI A' p i = zI A p i) ∧ (∀ p i, zJ A' p i = zJ A p i) ∧ (∀ p i, zR A' p i = zR A p i) ∧ (∀ p, zK A' p = zK A p) ∧ zN A' = zN A
theorem gSame.rf {A : zW} : gSame A A := ⟨fun _ _ _ => rfl, fun _ _ _ => rfl, fun _ _ => rfl, fun _ _ => rfl, fun _ => rfl, rfl⟩
theorem gSame.tr {A B C : zW} (h : gSame A B) (g : gSame B C) : gSame A C := ⟨fun p i c => (g.1 p i c).trans (h.1 p i c), fun p i c => (g.2.1 p i c).trans (h.2.1 p i c), fun p i => (g.2.2.1 p i).trans (h.2.2.1 p i), fun p i => (g.2.2.2.1 p i).trans (h.2.2.2.1 p i), fun p => (g.2.2.2.2.1 p).trans (h.2.2.2.2.1 p), g.2.2.2.2.2.trans h.2.2.2.2.2⟩
theorem gSame.uF {A : zW} {i : Nat} {v : Value} (h : i = 55 ∨ i = 56) : gSame A (zuF A 343 i v) := ⟨fun p x c => by
  rw [zuF_x, if_neg (fun z => c ⟨z.1, by rw [z.2]; exact h⟩)], fun _ _ _ => rfl, fun _ _ => rfl, fun _ _ => rfl, fun _ => rfl, rfl⟩
theorem gSame.blk {A : zW} {u n : Nat} {f : Nat → Nat} : gSame A (blk A u n f) := ⟨fun _ _ _ => rfl, fun p x c => zsI_ne c, fun _ _ => rfl, fun _ _ => rfl, fun _ => rfl, rfl⟩
section
variable {A A' : zW}
theorem gSame.sebx (g : gSame A A') (w : Nat) : seb A' w = seb A w := funext (fun e => by
  unfold seb sew ses
  rw [g.2.1 348 e (by decide), g.2.2.1])
theorem gSame.okx (g : gSame A A') (S w : Nat) : okE A' S w = okE A S w := by
  unfold okE
  rw [g.sebx]
theorem gSame.bm (g : gSame A A') (V : Nat) (u : Int32) : bmP A' V u = bmP A V u := funext (fun e => by
  unfold bmP
  rw [g.2.1 349 e (by decide)])
theorem gSame.src (g : gSame A A') (V u : Nat) (n : Int32) : srcM A' V u n = srcM A V u n := by
  unfold srcM
  rw [g.bm]
theorem gSame.tk (g : gSame A A') (V : Nat) (n : Int32) : tkM A' V n = tkM A V n := funext (fun u => by
  unfold tkM
  rw [g.src, show okE A' (srcM A V u n) = okE A (srcM A V u n) from funext (fun w => g.okx _ w)])
/-- what is laid speaks of entries alone -/
theorem mm_of {B B' : zW} {V : Nat} {n : Int32} (hb : bmP A' V = bmP A V) (hs : ∀ w e : Nat, (e : Int) < n.toInt → seb A' w e = seb A w e) (h56 : zF B' 343 56 = zF B 343 56) (h375 : ∀ i, zI B' 375 i = zI B 375 i) (h : mmR A V n B) : mmR A' V n B' := by
  have e1 : ∀ u, srcM A' V u n = srcM A V u n := fun u => by
    unfold srcM
    rw [hb]
  have e2 : ∀ u w, okE A' (srcM A V u n) w = okE A (srcM A V u n) w := fun u w => by
    rw [Bool.eq_iff_iff, okE_t, okE_t]
    constructor
    · intro z e he hb2
      have h3 := tb_n (srcM_lt (A := A) (V := V) (u := u) (n := n)) hb2
      rw [← hs w e (by omega)]
      exact z e he hb2
    · intro z e he hb2
      have h3 := tb_n (srcM_lt (A := A) (V := V) (u := u) (n := n)) hb2
      rw [hs w e (by omega)]
      exact z e he hb2
  have e3 : tkM A' V n = tkM A V n := funext (fun u => by
    unfold tkM
    rw [e1, show okE A' (srcM A V u n) = okE A (srcM A V u n) from funext (fun w => e2 u w)])
  refine ⟨by rw [h56, e3]; exact h.1, fun u hu ht w hw => ?_⟩
  rw [e3] at ht
  rw [h375, h.2 u hu ht w hw, e1]
  have e4 : st99 (okE A') (srcM A V u n) = st99 (okE A) (srcM A V u n) := funext (fun x => by
    unfold st99
    rw [e2])
  rw [e4]
theorem gSame.mm (g : gSame A A') {V : Nat} {n : Int32} (h : mmR A V n A') : mmR A' V n A' := mm_of (funext (fun u => g.bm V u)) (fun w e _ => by rw [g.sebx]) rfl (fun _ => rfl) h
theorem mm_ag (g : agj S_Y A' A) {V : Nat} {n : Int32} (h : mmR A V n A) : mmR A' V n A' := mm_of (funext (fun u => funext (fun e => by
  unfold bmP
  rw [(g.1.2.1 349 e (by decide) (by decide +kernel)).1]))) (fun w e _ => by
  unfold seb
  rw [sew_b (g.sub sB_Y)]) (g.1.1 343 56 (by decide) (by decide +kernel)) (fun i => (g.1.2.1 375 i (by decide) (by decide +kernel)).1) h
end
abbrev mlA : Type := laA × Int32
def mvV (a : laA) (A : zW) : Nat := vwN (mvP A a.2.1 a.2.2) a.1.toInt.toNat
def mlP (a : mlA) (A : zW) : Prop := laP a.1 A ∧ zF A 343 55 = .int a.2 ∧ (¬ a.2.toInt = 0 → mmR A (mvV a.1 A) a.1.1 A)
def mlQ (a : mlA) (A A' : zW) : Prop := ∃ A1, laQ a.1 A A1 ∧ gSame A1 A' ∧ (∃ m : Int32, zF A' 343 55 = .int m ∧ ¬ m.toInt = 0) ∧ mmR A1 (mvV a.1 A) a.1.1 A'
def zq_layMerge : zQ := zs (fun _ : mlA => [.ref 343]) mlP (fun a A rv A' => rv = none ∧ mlQ a A A')
def in_ml (a : mlA) (A : zW) : fL_ → List Value → zW → Prop := fun lg vs A' => ∃ (u : Nat) (A1 : zW), f_sub [(1, false, .int (Int32.ofNat u)), (0, false, .ref 343)] lg ∧ vs = [] ∧ u ≤ 6 ∧ laQ a.1 A A1 ∧ gSame A1 A' ∧ zF A' 343 55 = .int (Int32.ofInt 1) ∧ zF A' 343 56 = .int (Int32.ofNat (vwN (tkM A1 (mvV a.1 A) a.1.1) u)) ∧ ∀ x, x < u → tkM A1 (mvV a.1 A) a.1.1 x = true → rwM A1 (mvV a.1 A) a.1.1 A' x
set_option maxRecDepth 20000 in
set_option maxHeartbeats 16000000 in
theorem zc_X12_layMerge : zdo r_X12_layMerge zq_layMerge := by
  refine zdo_of _ _ _ [(816, 2, zq_hasWorld), (924, 1, zq_lay8), (1365, 2, zq_bookOf), (1374, 3, zq_layFars)] (fun a A => [(24, in_ml a A)]) 120 fo_X12 rfl (zs_cons rfl zc_X12_hasWorld (zs_cons rfl zc_X12_lay (zs_cons rfl zc_X12_bookOf (zs_cons rfl zc_X12_layFars zs_nil)))) k_X12_layMerge (fun a A hp => ?_) (fun a A hp => ?_)
  · obtain ⟨⟨n, t, k⟩, mg⟩ := a
    have n0 : 0 ≤ n.toInt := hp.1.1.2.1
    have n1 : n.toInt ≤ 12 := hp.1.1.2.2
    have hp2 := p2_le n.toInt.toNat (by omega)
    obtain ⟨V, hV⟩ : ∃ V, V = mvV (n, t, k) A := ⟨_, rfl⟩
    refine List.forall_mem_cons.mpr ⟨?_, fun _ h => absurd h List.not_mem_nil⟩
    rintro lg vs A' ⟨u, A1, hs, rfl, hu, hQ, g, f55, f56, hr⟩
    have hu : u ≤ 6 := hu
    have hQ : laQ (n, t, k) A A1 := hQ
    have f56 : zF A' 343 56 = .int (Int32.ofNat (vwN (tkM A1 (mvV (n, t, k) A) n) u)) := f56
    have hr : ∀ x, x < u → tkM A1 (mvV (n, t, k) A) n x = true → rwM A1 (mvV (n, t, k) A) n A' x := hr
    have tu := n32_t (show u < 4096 by omega)
    have e6 : (Int32.ofInt 6).toInt = 6 := by decide
    have eq1 : some (false, Value.int (Int32.ofNat u + Int32.ofInt 1)) = some (false, .int (Int32.ofNat (u + 1))) := by rw [n32_s (by omega)]
    refine ⟨_, 120, hs, fun h => ?_, fun h => ?_⟩
    · have h : (Int32.ofInt 6).toInt ≤ (Int32.ofNat u).toInt := h
      rw [e6, tu] at h
      have e : u = 6 := by omega
      subst e
      exact ⟨rfl, A1, hQ, g, ⟨_, f55, by decide⟩, f56, hr⟩
    · have h : ¬ (Int32.ofInt 6).toInt ≤ (Int32.ofNat u).toInt := h
      rw [e6, tu] at h
      have u6 : u < 6 := by omega
      obtain ⟨gq, ⟨⟨q8, -⟩, -⟩, hL, q20⟩ := id hQ
      have hL : lwOK A1 (zJ A1 354) (2 ^ n.toInt.toNat) := hL
      have q8 : zF A1 343 8 = .int n := q8
      have q20 : zF A1 343 20 = .int (Int32.ofNat (mvV (n, t, k) A)) := by
        refine q20.trans ?_
        rw [mvP_ag gq]
        rfl
      have sl := srcM_lt (A := A1) (V := mvV (n, t, k) A) (u := u) (n := n)
      have es : vwN (bmP A' (mvV (n, t, k) A) (Int32.ofNat u)) n.toInt.toNat = srcM A1 (mvV (n, t, k) A) u n := by
        rw [g.bm]
        rfl
      have hJ : ∀ p i, zJ A' p i = zJ A1 p i := g.2.2.1
      have ehw : exN (hwP A' (srcM A1 (mvV (n, t, k) A) u n)) 4 = exN (okE A1 (srcM A1 (mvV (n, t, k) A) u n)) 256 := by
        rw [← hw_E hL (by omega) sl]
        have e : hwP A' (srcM A1 (mvV (n, t, k) A) u n) = hwP A1 (srcM A1 (mvV (n, t, k) A) u n) := funext (fun x => by
          unfold hwP
          rw [hJ])
        rw [e]
      have no : tkM A1 (mvV (n, t, k) A) n u = false → in_ml ((n, t, k), mg) A [(1, false, .int (Int32.ofNat u + Int32.ofInt 1)), (0, false, .ref 343)] [] A' := fun hb => by
        refine ⟨u + 1, A1, ⟨eq1, rfl, trivial⟩, rfl, (show u + 1 ≤ 6 by omega), hQ, g, f55, ?_, fun x hx hb2 => ?_⟩
        · show zF A' 343 56 = .int (Int32.ofNat (vwN (tkM A1 (mvV (n, t, k) A) n) (u + 1)))
          rw [f56, vwN_s (fun z => by rw [hb] at z; cases z)]
        · have hb2 : tkM A1 (mvV (n, t, k) A) n x = true := hb2
          have ne : x ≠ u := fun e => by
            rw [e, hb] at hb2
            cases hb2
          exact hr x (by omega) hb2
      refine ⟨(mvV (n, t, k) A, Int32.ofNat u, n), rfl, ⟨⟨(g.1 343 8 (by omega)).trans q8, n0, n1⟩, (g.1 343 20 (by omega)).trans q20⟩, fun h2 => ?_, fun h2 => ?_⟩
      · have h2 : (Int32.ofNat (vwN (bmP A' (mvV (n, t, k) A) (Int32.ofNat u)) n.toInt.toNat)).toInt = 0 := h2
        rw [es, n32_t (by omega)] at h2
        obtain ⟨u', A1', a1, a2, a3⟩ := no (by
          unfold tkM
          rw [decide_eq_true (show srcM A1 (mvV (n, t, k) A) u n = 0 by omega)]
          rfl)
        exact ⟨u', A1', ⟨a1.1, a1.2.1, trivial⟩, rfl, a3⟩
      · have h2 : ¬ (Int32.ofNat (vwN (bmP A' (mvV (n, t, k) A) (Int32.ofNat u)) n.toInt.toNat)).toInt = 0 := h2
        rw [es, n32_t (by omega)] at h2
        refine ⟨srcM A1 (mvV (n, t, k) A) u n, ?_, (show srcM A1 (mvV (n, t, k) A) u n < 4096 by omega), fun h3 => ?_, fun h3 => ?_⟩
        · show [Value.ref 343, .int (Int32.ofNat (vwN (bmP A' (mvV (n, t, k) A) (Int32.ofNat u)) n.toInt.toNat))] = _
          rw [es]
        · have h3 : (zb (exN (hwP A' (srcM A1 (mvV (n, t, k) A) u n)) 4)).toInt = 0 := h3
          rw [ehw] at h3
          obtain ⟨u', A1', a1, a2, a3⟩ := no (by
            unfold tkM
            rw [zb_f h3, Bool.and_false])
          exact ⟨u', A1', ⟨a1.1, a1.2.1, trivial⟩, rfl, a3⟩
        · have h3 : ¬ (zb (exN (hwP A' (srcM A1 (mvV (n, t, k) A) u n)) 4)).toInt = 0 := h3
          rw [ehw] at h3
          have hb : tkM A1 (mvV (n, t, k) A) n u = true := by
            unfold tkM
            rw [zb_t h3, decide_eq_false (show ¬ srcM A1 (mvV (n, t, k) A) u n = 0 by omega)]
            rfl
          refine ⟨rfl, (u, srcM A1 (mvV (n, t, k) A) u n), ?_, ⟨u6, (show srcM A1 (mvV (n, t, k) A) u n < 4096 by omega)⟩, ?_⟩
          · show [Value.ref 343, .int (Int32.ofNat u), .int (Int32.ofNat (vwN (bmP A' (mvV (n, t, k) A) (Int32.ofNat u)) n.toInt.toNat))] = _
            rw [es]
          · refine ⟨u + 1, A1, ⟨eq1, rfl, trivial⟩, rfl, (show u + 1 ≤ 6 by omega), hQ, (g.tr (gSame.uF (Or.inr rfl))).tr gSame.blk, ?_, ?_, fun x hx hb2 => ?_⟩
            · show zF (zuF A' 343 56 _) 343 55 = _
              rw [zuF_x, if_neg (by decide)]
              exact f55
            · show zF (zuF A' 343 56 (.int (iv (zF A' 343 56) ||| (Int32.ofInt 1 <<< (Int32.ofNat u &&& 31))))) 343 56 = .int (Int32.ofNat (vwN (tkM A1 (mvV (n, t, k) A) n) (u + 1)))
              rw [zuF_x, if_pos ⟨rfl, rfl⟩, f56]
              show Value.int (Int32.ofNat (vwN (tkM A1 (mvV (n, t, k) A) n) u) ||| (Int32.ofInt 1 <<< (Int32.ofNat u &&& 31))) = _
              rw [n32_vw (by omega) hb]
            · have hb2 : tkM A1 (mvV (n, t, k) A) n x = true := hb2
              intro w hw
              by_cases e : x = u
              · subst e
                refine (blk_at hw).trans (congrArg Int32.ofNat ?_)
                refine spr_congr (fun y hy => ?_) 8 w (Nat.le_refl 8) hw
                have e1 : okM (zuF A' 343 56 (.int (iv (zF A' 343 56) ||| (Int32.ofInt 1 <<< (Int32.ofNat x &&& 31))))) (srcM A1 (mvV (n, t, k) A) x n) y = okE A1 (srcM A1 (mvV (n, t, k) A) x n) y := by
                  rw [← okM_E hL (by omega) sl hy]
                  show (zJ A' 354 _).toBitVec.getLsbD _ = (zJ A1 354 _).toBitVec.getLsbD _
                  rw [hJ]
                show (if okM (zuF A' 343 56 (.int (iv (zF A' 343 56) ||| (Int32.ofInt 1 <<< (Int32.ofNat x &&& 31))))) (srcM A1 (mvV (n, t, k) A) x n) y = true then 0 else 99) = (if okE A1 (srcM A1 (mvV (n, t, k) A) x n) y = true then 0 else 99)
                rw [e1]
              · refine (blk_ne (by omega)).trans ?_
                exact hr x (by omega) hb2 w hw
  · obtain ⟨⟨n, t, k⟩, mg⟩ := a
    obtain ⟨hla, hmg, hmm⟩ := hp
    have hmg : zF A 343 55 = .int mg := hmg
    have hmm : ¬ mg.toInt = 0 → mmR A (mvV (n, t, k) A) n A := hmm
    refine ⟨(n, t, k), rfl, hla, ?_⟩
    rintro rv A1 ⟨rfl, hQ⟩
    have hQ : laQ (n, t, k) A A1 := hQ
    have f55 : zF A1 343 55 = .int mg := (hQ.1.1.1 343 55 (by decide) (by decide +kernel)).trans hmg
    refine ⟨fun h => ?_, fun h => ?_⟩
    · refine ⟨rfl, rfl, 0, A1, ⟨rfl, rfl, trivial⟩, rfl, Nat.zero_le _, hQ, (gSame.uF (Or.inl rfl)).tr (gSame.uF (Or.inr rfl)), ?_, ?_, fun x hx => absurd hx (Nat.not_lt_zero x)⟩
      · show zF (zuF (zuF A1 343 55 (.int (Int32.ofInt 1))) 343 56 _) 343 55 = _
        rw [zuF_x, if_neg (by decide), zuF_x, if_pos ⟨rfl, rfl⟩]
      · show zF (zuF (zuF A1 343 55 _) 343 56 (.int (Int32.ofInt 0))) 343 56 = _
        rw [zuF_x, if_pos ⟨rfl, rfl⟩]
        rfl
    · have h : ¬ (iv (zF A1 343 55)).toInt = 0 := h
      rw [f55] at h
      have h : ¬ mg.toInt = 0 := h
      exact ⟨rfl, A1, hQ, gSame.rf, ⟨mg, f55, h⟩, mm_ag hQ.1 (hmm h)⟩
