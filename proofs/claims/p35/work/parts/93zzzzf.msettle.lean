/-! merging, the class: settled, what a world costs, which cost least -/
/-- alike but for what merging keeps -/
def mSame (A A' : zW) : Prop := (∀ p i, ¬ (p = 324 ∧ (i = 1 ∨ i = 3)) → zF A' p i = zF A p i) ∧ (∀ p i, ¬ (326 ≤ p ∧ p < 332) → zI A' p i = zI A p i) ∧ (∀ p i, zJ A' p i = zJ A p i) ∧ (∀ p i, zR A' p i = zR A p i) ∧ (∀ p, zK A' p = zK A p) ∧ zN A' = zN A
theorem mSame.rf {A : zW} : mSame A A := ⟨fun _ _ _ => rfl, fun _ _ _ => rfl, fun _ _ => rfl, fun _ _ => rfl, fun _ => rfl, rfl⟩
theorem mSame.tr {A B C : zW} (h : mSame A B) (g : mSame B C) : mSame A C := ⟨fun p i c => (g.1 p i c).trans (h.1 p i c), fun p i c => (g.2.1 p i c).trans (h.2.1 p i c), fun p i => (g.2.2.1 p i).trans (h.2.2.1 p i), fun p i => (g.2.2.2.1 p i).trans (h.2.2.2.1 p i), fun p => (g.2.2.2.2.1 p).trans (h.2.2.2.2.1 p), g.2.2.2.2.2.trans h.2.2.2.2.2⟩
theorem mSame.uF {A : zW} {i : Nat} {v : Value} (h : i = 1 ∨ i = 3) : mSame A (zuF A 324 i v) := ⟨fun p x c => by
  rw [zuF_x, if_neg (fun z => c ⟨z.1, by rw [z.2]; exact h⟩)], fun _ _ _ => rfl, fun _ _ => rfl, fun _ _ => rfl, fun _ => rfl, rfl⟩
theorem mSame.sI {A : zW} {u : Nat} {f : Nat → Int32} (h : u < 6) : mSame A (zsI A (326 + u) f) := ⟨fun _ _ _ => rfl, fun p x c => zsI_ne (fun e => c ⟨by omega, by omega⟩), fun _ _ => rfl, fun _ _ => rfl, fun _ => rfl, rfl⟩
section
variable {A A' : zW} {n : Int32}
theorem mSame.zeSx (g : mSame A A') (h : zeS A n) : zeS A' n := by
  obtain ⟨⟨a1, a2⟩, b⟩ := h
  refine ⟨⟨(g.1 193 1 (by omega)).trans a1, a2⟩, fun e he => ?_⟩
  obtain ⟨j, u, c1, c2, c3, c4, c5⟩ := b e he
  exact ⟨j, u, (g.2.2.2.1 195 e).trans c1, c2, by rw [g.2.2.2.2.1]; exact c3, (g.1 j 2 (by omega)).trans c4, c5⟩
theorem mSame.ztix (g : mSame A A') (h : zti A) : zti A' := fun w hw => by
  unfold ztw
  rw [g.2.1 196 w (by omega)]
  exact h w hw
theorem mSame.ok (g : mSame A A') (S w : Nat) : okC A' S w = okC A S w := by
  unfold okC ztw
  rw [g.2.1 196 w (by omega)]
theorem mSame.st (g : mSame A A') (S w : Nat) : st9 A' S w = st9 A S w := by
  unfold st9
  rw [g.ok]
theorem mSame.bs (g : mSame A A') (h : zeS A n) {S : Nat} {u : Int32} {e : Nat} (he : (e : Int) < n.toInt) : bsP A' S u e = bsP A S u e := by
  obtain ⟨j, u2, c1, c2, c3, c4, c5⟩ := h.2 e he
  unfold bsP zsr
  rw [g.2.2.2.1 195 e, c1]
  show (S.testBit e && decide (iv (zF A' j 2) = u)) = (S.testBit e && decide (iv (zF A j 2) = u))
  rw [g.1 j 2 (by omega)]
end
/-- a source's entries in view; whether it takes part -/
def srcC (A : zW) (V u : Nat) (n : Int32) : Nat := vwN (bsP A V (Int32.ofNat u)) n.toInt.toNat
def tkC (A : zW) (V : Nat) (n : Int32) (u : Nat) : Bool := !(decide (srcC A V u n = 0)) && exN (okC A (srcC A V u n)) 256
def rwC (A : zW) (V : Nat) (n : Int32) (A' : zW) (x : Nat) : Prop := ∀ w, w < 256 → zI A' (326 + x) w = Int32.ofNat (spr (st9 A (srcC A V x n)) 8 w)
def msR (A : zW) (n : Int32) (V : Nat) (A' : zW) : Prop := mSame A A' ∧ zF A' 324 3 = .int (Int32.ofNat V) ∧ zF A' 324 1 = .int (Int32.ofNat (vwN (tkC A V n) 6)) ∧ ∀ x, x < 6 → tkC A V n x = true → rwC A V n A' x
abbrev msA : Type := Int32 × Int32 × Int32 × Int32
def mcI (A : zW) (n sv : Int32) : Prop := 0 ≤ sv.toInt → zF A 324 1 = .int (Int32.ofNat (vwN (tkC A sv.toInt.toNat n) 6)) ∧ ∀ x, x < 6 → tkC A sv.toInt.toNat n x = true → rwC A sv.toInt.toNat n A x
def msP (a : msA) (A : zW) : Prop := (zeV A a.1 ∧ zF A 193 2 = .int a.2.1 ∧ zF A 193 3 = .int a.2.2.1) ∧ zeS A a.1 ∧ zti A ∧ zF A 324 3 = .int a.2.2.2 ∧ mcI A a.1 a.2.2.2
def msV (a : msA) (A : zW) : Nat := vwN (cvP A a.2.1 a.2.2.1) a.1.toInt.toNat
theorem msV_lt {a : msA} {A : zW} (h : msP a A) : msV a A < 4096 := by
  obtain ⟨⟨⟨⟨-, n0, n1⟩, -⟩, -⟩, -⟩ := h
  have h1 := vwN_lt (P := cvP A a.2.1 a.2.2.1) (n := a.1.toInt.toNat)
  have h2 := p2_le a.1.toInt.toNat (by omega)
  unfold msV
  omega
theorem srcC_lt {A : zW} {V u : Nat} {n : Int32} (h1 : n.toInt ≤ 12) : srcC A V u n < 4096 := by
  have h := vwN_lt (P := bsP A V (Int32.ofNat u)) (n := n.toInt.toNat)
  have h2 := p2_le n.toInt.toNat (by omega)
  unfold srcC
  omega
def zq_msettle : zQ := zs (fun _ : msA => [.ref 324, .ref 193]) msP (fun a A rv A' => rv = none ∧ msR A a.1 (msV a A) A')
def in_ms (A : zW) (V : Nat) (n : Int32) : fL_ → List Value → zW → Prop := fun lg vs A' => ∃ u : Nat, f_sub [(3, false, .int (Int32.ofNat u)), (2, false, .int (Int32.ofNat V)), (0, false, .ref 324), (1, false, .ref 193)] lg ∧ vs = [] ∧ u ≤ 6 ∧ mSame A A' ∧ zF A' 324 3 = .int (Int32.ofNat V) ∧ zF A' 324 1 = .int (Int32.ofNat (vwN (tkC A V n) u)) ∧ ∀ x, x < u → tkC A V n x = true → rwC A V n A' x
theorem rwC_ne {A A1 A2 : zW} {V : Nat} {n : Int32} {x u : Nat} {f : Nat → Int32} (hx : x ≠ u) (h : rwC A V n A1 x) (e : ∀ p i, p ≠ 326 + u → zI A2 p i = zI A1 p i) : rwC A V n A2 x := fun w hw => (e _ _ (by omega)).trans (h w hw)
set_option maxRecDepth 20000 in
set_option maxHeartbeats 16000000 in
theorem zc_X6_settle : zdo r_X6_settle zq_msettle := by
  refine zdo_of _ _ _ [(87, 1, zq_inViewC), (114, 3, zq_bySource), (127, 3, zq_begin), (139, 1, zq_spread)] (fun a A => [(26, in_ms A (msV a A) a.1)]) 100 fo_X6 rfl (zs_cons rfl zc_X2_inView (zs_cons rfl zc_X2_bySource (zs_cons rfl zc_X6_begin (zs_cons rfl zc_X6_spread zs_nil)))) k_X6_settle (fun a A hp => ?_) (fun a A hp => ?_)
  · have hV4 := msV_lt hp
    obtain ⟨n, t, k, sv⟩ := a
    obtain ⟨⟨⟨⟨hn, n0, n1⟩, hE⟩, -⟩, hS, hT, -, -⟩ := hp
    have n1 : n.toInt ≤ 12 := n1
    have hS : zeS A n := hS
    have hT : zti A := hT
    show ∀ x ∈ [(26, in_ms A (msV (n, t, k, sv) A) n)], _
    obtain ⟨V, hV⟩ : ∃ V, V = msV (n, t, k, sv) A := ⟨_, rfl⟩
    have out : ∀ A', msR A n V A' → msR A n (msV (n, t, k, sv) A) A' := fun A' h => by
      rw [← hV]
      exact h
    rw [← hV] at hV4 ⊢
    refine List.forall_mem_cons.mpr ⟨?_, fun _ h => absurd h List.not_mem_nil⟩
    rintro lg vs A' ⟨u, hs, rfl, hu, g, f3, f1, hr⟩
    have hu : u ≤ 6 := hu
    have tu := n32_t (show u < 4096 by omega)
    have e6 : (Int32.ofInt 6).toInt = 6 := by decide
    have eq1 : some (false, Value.int (Int32.ofNat u + Int32.ofInt 1)) = some (false, .int (Int32.ofNat (u + 1))) := by rw [n32_s (by omega)]
    refine ⟨_, 100, hs, fun h => ?_, fun h => ?_⟩
    · have h : (Int32.ofInt 6).toInt ≤ (Int32.ofNat u).toInt := h
      rw [e6, tu] at h
      have e : u = 6 := by omega
      subst e
      exact ⟨rfl, (show msR A n V A' from ⟨g, f3, f1, hr⟩)⟩
    · have h : ¬ (Int32.ofInt 6).toInt ≤ (Int32.ofNat u).toInt := h
      rw [e6, tu] at h
      have u6 : u < 6 := by omega
      have cu := n32_c (show u < 4096 by omega)
      have esrc : vwN (bsP A' V (Int32.ofNat u)) n.toInt.toNat = srcC A V u n := vwN_eq (fun e he => g.bs hS (by omega))
      have sl := srcC_lt (A := A) (V := V) (u := u) n1
      have hk : zkd A' (326 + u) = 256 := zkd_326 u6
      -- it takes no part
      have no : ∀ A2 : zW, tkC A V n u = false → mSame A' A2 → (∀ i, zF A2 324 i = zF A' 324 i) → (∀ p i, p ≠ 326 + u → zI A2 p i = zI A' p i) → in_ms A V n [(3, false, .int (Int32.ofNat u + Int32.ofInt 1)), (2, false, .int (Int32.ofNat V)), (0, false, .ref 324), (1, false, .ref 193)] [] A2 := fun A2 hb g2 hF hI => by
        refine ⟨u + 1, ⟨eq1, rfl, rfl, rfl, trivial⟩, rfl, (show u + 1 ≤ 6 by omega), g.tr g2, (hF 3).trans f3, ?_, fun x hx hb2 => ?_⟩
        · rw [hF 1, f1, vwN_s (fun z => by rw [hb] at z; cases z)]
        · have ne : x ≠ u := fun e => by
            rw [e, hb] at hb2
            cases hb2
          exact rwC_ne (f := fun _ => 0) ne (hr x (by omega) hb2) hI
      refine ⟨(V, Int32.ofNat u, n), rfl, g.zeSx hS, fun h2 => ?_, fun h2 => ?_⟩
      · have h2 : (Int32.ofNat (vwN (bsP A' V (Int32.ofNat u)) n.toInt.toNat)).toInt = 0 := h2
        rw [esrc, n32_t sl] at h2
        obtain ⟨u', a1, a2, a3⟩ := no A' (by
          unfold tkC
          rw [decide_eq_true (show srcC A V u n = 0 by omega)]
          rfl) mSame.rf (fun _ => rfl) (fun _ _ _ => rfl)
        exact ⟨u', ⟨a1.1, a1.2.1, a1.2.2.1, a1.2.2.2.1, trivial⟩, rfl, a3⟩
      · have h2 : ¬ (Int32.ofNat (vwN (bsP A' V (Int32.ofNat u)) n.toInt.toNat)).toInt = 0 := h2
        rw [esrc, n32_t sl] at h2
        have eok : exN (okC A' (srcC A V u n)) 256 = exN (okC A (srcC A V u n)) 256 := by
          rw [show okC A' (srcC A V u n) = okC A (srcC A V u n) from funext (fun w => g.ok _ w)]
        have est : st9 A' (srcC A V u n) = st9 A (srcC A V u n) := funext (fun w => g.st _ w)
        refine ⟨(326 + u, srcC A V u n), ?_, ⟨hk, (show 326 + u ≠ 196 by omega), sl, g.ztix hT⟩, fun h3 => ?_, fun h3 => ?_⟩
        · show [zrl A' 325 (Int32.ofNat u).toNatClampNeg, Value.int (Int32.ofNat (vwN (bsP A' V (Int32.ofNat u)) n.toInt.toNat)), .ref 193] = [.ref (326 + u), .int (Int32.ofNat (srcC A V u n)), .ref 193]
          rw [cu, zrl_325 u6, esrc]
        · have h3 : (zb (exN (okC A' (srcC A V u n)) 256)).toInt = 0 := h3
          rw [eok] at h3
          obtain ⟨u', a1, a2, a3⟩ := no (zsI A' (326 + u) (zbgF A' (326 + u) (srcC A V u n) 256)) (by
            unfold tkC
            rw [zb_f h3, Bool.and_false]) (mSame.sI u6) (fun _ => rfl) (fun p i hp => zsI_ne hp)
          exact ⟨u', ⟨a1.1, a1.2.1, a1.2.2.1, a1.2.2.2.1, trivial⟩, rfl, a3⟩
        · have h3 : ¬ (zb (exN (okC A' (srcC A V u n)) 256)).toInt = 0 := h3
          rw [eok] at h3
          have hb : tkC A V n u = true := by
            unfold tkC
            rw [zb_t h3, decide_eq_false (show ¬ srcC A V u n = 0 by omega)]
            rfl
          refine ⟨rfl, (326 + u, st9 A (srcC A V u n)), ?_, ⟨zkd_326 u6, fun w hw => ⟨?_, ?_⟩⟩, ?_⟩
          · show [zrl _ 325 (Int32.ofNat u).toNatClampNeg] = [Value.ref (326 + u)]
            rw [cu, zrl_325 u6]
          · show zI (zsI A' (326 + u) (zbgF A' (326 + u) (srcC A V u n) 256)) (326 + u) w = _
            rw [zsI_at]
            unfold zbgF
            rw [if_pos hw, est]
          · show st9 A (srcC A V u n) w ≤ 99
            unfold st9
            split <;> decide
          · obtain ⟨W, hW⟩ : ∃ W, W = rwI (zuF (zsI A' (326 + u) (zbgF A' (326 + u) (srcC A V u n) 256)) 324 1 (.int (iv (zF A' 324 1) ||| (Int32.ofInt 1 <<< (Int32.ofNat u &&& 31))))) (326 + u) (spr (st9 A (srcC A V u n)) 8) := ⟨_, rfl⟩
            have q1 : mSame A W := by
              rw [hW]
              exact g.tr (((mSame.sI u6).tr (mSame.uF (i := 1) (Or.inl rfl))).tr (mSame.sI u6))
            have q2 : zF W 324 3 = .int (Int32.ofNat V) := by
              rw [hW]
              show zF (zuF (zsI A' (326 + u) _) 324 1 _) 324 3 = _
              rw [zuF_x, if_neg (by decide)]
              exact f3
            have q3 : zF W 324 1 = .int (Int32.ofNat (vwN (tkC A V n) (u + 1))) := by
              rw [hW]
              show zF (zuF (zsI A' (326 + u) _) 324 1 (.int (iv (zF A' 324 1) ||| (Int32.ofInt 1 <<< (Int32.ofNat u &&& 31))))) 324 1 = _
              rw [zuF_x, if_pos ⟨rfl, rfl⟩, f1]
              show Value.int (Int32.ofNat (vwN (tkC A V n) u) ||| (Int32.ofInt 1 <<< (Int32.ofNat u &&& 31))) = _
              rw [n32_vw (by omega) hb]
            have q4 : ∀ x, x < u + 1 → tkC A V n x = true → rwC A V n W x := fun x hx hb2 => by
              rw [hW]
              by_cases e : x = u
              · subst e
                intro w hw
                exact rwI_at hw
              · intro w hw
                have h5 := hr x (by omega) hb2 w hw
                unfold rwI
                rw [zsI_ne (by omega)]
                show zI (zsI A' (326 + u) _) (326 + x) w = _
                rw [zsI_ne (by omega)]
                exact h5
            rw [hW] at q1 q2 q3 q4
            exact ⟨u + 1, ⟨eq1, rfl, rfl, rfl, trivial⟩, rfl, (show u + 1 ≤ 6 by omega), q1, q2, q3, q4⟩
  · have hV4 := msV_lt hp
    obtain ⟨n, t, k, sv⟩ := a
    obtain ⟨hv, hS, hT, hsv, hI⟩ := hp
    have hsv : zF A 324 3 = .int sv := hsv
    refine ⟨(n, t, k), rfl, hv, fun h => ?_, fun h => ?_⟩
    · refine ⟨rfl, rfl, 0, ⟨rfl, rfl, rfl, rfl, trivial⟩, rfl, Nat.zero_le _, ?_, ?_, ?_, fun x hx => absurd hx (Nat.not_lt_zero x)⟩
      · exact mSame.tr (mSame.uF (i := 3) (Or.inr rfl)) (mSame.uF (i := 1) (Or.inl rfl))
      · show zF (zuF (zuF A 324 3 _) 324 1 _) 324 3 = _
        rw [zuF_x, if_neg (by decide), zuF_x, if_pos ⟨rfl, rfl⟩]
        rfl
      · show zF (zuF (zuF A 324 3 _) 324 1 _) 324 1 = _
        rw [zuF_x, if_pos ⟨rfl, rfl⟩]
        rfl
    · have h : ¬ ¬ (Int32.ofNat (msV (n, t, k, sv) A)).toInt = (iv (zF A 324 3)).toInt := h
      rw [hsv] at h
      have e : Int32.ofNat (msV (n, t, k, sv) A) = sv := Int32.toInt_inj.mp (Classical.not_not.mp h)
      have tV := n32_t hV4
      have hI : mcI A n sv := hI
      rw [← e] at hI hsv
      have h2 := hI (by omega)
      rw [tV] at h2
      exact ⟨rfl, mSame.rf, hsv, h2.1, h2.2⟩
