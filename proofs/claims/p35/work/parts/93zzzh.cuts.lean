/-! the class: what is in view, its cuts, the least of them, what is given up -/
/-- entries that are there -/
def zeV (A : zW) (n : Int32) : Prop := zcE A n ∧ ∀ e : Nat, (e : Int) < n.toInt → ∃ j : Nat, zR A 195 e = .ref j ∧ 385 ≤ j ∧ (zK A j).1 = 4
def cvP (A : zW) (t k : Int32) (e : Nat) : Bool := decide ((iv (zF A (rv_ (zR A 195 e)) 3)).toInt ≤ t.toInt ∧ t.toInt ≤ (iv (zF A (rv_ (zR A 195 e)) 4)).toInt ∧ (iv (zF A (rv_ (zR A 195 e)) 5)).toInt ≤ k.toInt ∧ ((iv (zF A (rv_ (zR A 195 e)) 6)).toInt = -9 ∨ k.toInt < (iv (zF A (rv_ (zR A 195 e)) 6)).toInt))
def zen (A : zW) (n : Int32) (e : Nat) : Value := zat n (Int32.ofNat e) (zR A 195 (Int32.ofNat e).toInt.toNat)
theorem zen_at {A : zW} {n : Int32} {e j : Nat} (he : (e : Int) < n.toInt) (h : e < 4096) (hj : zR A 195 e = .ref j) : zen A n e = .ref j := by
  have te := n32_t h
  unfold zen zat
  rw [if_pos (by omega), te]
  exact hj
def zef (A : zW) (n : Int32) (e i : Nat) : Value := zfl A (rv_ (zen A n e)) (kfd fl_X2 i (zkd A (rv_ (zen A n e))))
theorem zef_at {A : zW} {n : Int32} {e j i k : Nat} (he : (e : Int) < n.toInt) (h : e < 4096) (hj : zR A 195 e = .ref j) (h1 : 385 ≤ j) (h2 : (zK A j).1 = 4) (hk : kfd fl_X2 i 4 = k) : zef A n e i = zF A (rv_ (zR A 195 e)) k := by
  unfold zef
  rw [zen_at he h hj, hj]
  show zfl A j (kfd fl_X2 i (zkd A j)) = zF A j k
  rw [zkd_d h1, h2, hk, zfl_d h1]
def zq_inViewC : zQ := zpu (fun _ : Int32 × Int32 × Int32 => [.ref 193]) (fun a A => zeV A a.1 ∧ zF A 193 2 = .int a.2.1 ∧ zF A 193 3 = .int a.2.2) (fun a A => .int (Int32.ofNat (vwN (cvP A a.2.1 a.2.2) a.1.toInt.toNat)))
def in_ivc (A : zW) (n t k : Int32) : fL_ → List Value → zW → Prop := fun lg vs A' => ∃ e : Nat, f_sub [(2, false, .int (Int32.ofNat e)), (1, false, .int (Int32.ofNat (vwN (cvP A t k) e))), (0, false, .ref 193)] lg ∧ vs = [] ∧ A' = A ∧ (e : Int) ≤ n.toInt
theorem em9 : (Int32.ofInt (-9)).toInt = -9 := by decide
set_option maxRecDepth 20000 in
set_option maxHeartbeats 8000000 in
theorem zc_X2_inView : zdo r_X2_inView zq_inViewC := by
  refine zdo_pu [(204, 2, zq_entryAt)] (fun a A => [(4, in_ivc A a.1 a.2.1 a.2.2)]) 80 fo_X2 rfl (zs_cons rfl za_X2_entryAt zs_nil) k_X2_inView (fun a A hp => ?_) (fun a A hp => ?_)
  · obtain ⟨n, t, k⟩ := a
    obtain ⟨⟨⟨hn, n0, n1⟩, hE⟩, ht, hk⟩ := hp
    have hn : zF A 193 1 = .int n := hn
    have n0 : 0 ≤ n.toInt := n0
    have n1 : n.toInt ≤ 12 := n1
    have ht : zF A 193 2 = .int t := ht
    have hk : zF A 193 3 = .int k := hk
    have hE : ∀ e : Nat, (e : Int) < n.toInt → ∃ j : Nat, zR A 195 e = .ref j ∧ 385 ≤ j ∧ (zK A j).1 = 4 := hE
    refine List.forall_mem_cons.mpr ⟨?_, fun _ h => absurd h List.not_mem_nil⟩
    rintro lg vs A' ⟨e, hs, rfl, rfl, he⟩
    have he : (e : Int) ≤ n.toInt := he
    have te := n32_t (show e < 4096 by omega)
    have eq1 : some (false, Value.int (Int32.ofNat e + Int32.ofInt 1)) = some (false, .int (Int32.ofNat (e + 1))) := by rw [n32_s (by omega)]
    refine ⟨_, 80, hs, fun h => ?_, fun h => ?_⟩
    · have h : (iv (zF A' 193 1)).toInt ≤ (Int32.ofNat e).toInt := h
      rw [hn, te] at h
      have h : n.toInt ≤ (e : Int) := h
      refine ⟨?_, rfl⟩
      show some (Value.int (Int32.ofNat (vwN (cvP A' t k) e))) = some (.int (Int32.ofNat (vwN (cvP A' t k) n.toInt.toNat)))
      rw [show n.toInt.toNat = e by omega]
    · have h : ¬ (iv (zF A' 193 1)).toInt ≤ (Int32.ofNat e).toInt := h
      rw [hn, te] at h
      have h : ¬ n.toInt ≤ (e : Int) := h
      obtain ⟨j, g1, g2, g3⟩ := hE e (by omega)
      have ez := zen_at (A := A') (n := n) (e := e) (by omega) (by omega) g1
      have f3 := zef_at (i := 72) (k := 3) (n := n) (by omega) (by omega) g1 g2 g3 rfl
      have f4 := zef_at (i := 78) (k := 4) (n := n) (by omega) (by omega) g1 g2 g3 rfl
      have f5 := zef_at (i := 81) (k := 5) (n := n) (by omega) (by omega) g1 g2 g3 rfl
      have f6 := zef_at (i := 84) (k := 6) (n := n) (by omega) (by omega) g1 g2 g3 rfl
      have eqn : ¬ cvP A' t k e = true → some (false, Value.int (Int32.ofNat (vwN (cvP A' t k) e))) = some (false, .int (Int32.ofNat (vwN (cvP A' t k) (e + 1)))) := fun z => by rw [vwN_s z]
      have eqy : cvP A' t k e = true → some (false, Value.int (Int32.ofNat (vwN (cvP A' t k) e) ||| (Int32.ofInt 1 <<< (Int32.ofNat e &&& 31)))) = some (false, .int (Int32.ofNat (vwN (cvP A' t k) (e + 1)))) := fun z => by rw [n32_vw (by omega) z]
      have le1 : ((e + 1 : Nat) : Int) ≤ n.toInt := by omega
      refine ⟨(Int32.ofNat e, n), rfl, ⟨hn, n0, n1⟩, fun h2 => ?_, fun h2 => ⟨fun h3 => ?_, fun h3 => ⟨fun h4 => ?_, fun h4 => ⟨fun h5 => ⟨fun h6 => ?_, fun h6 => ⟨fun h7 => ?_, fun h7 => ?_⟩⟩, fun h5 => ?_⟩⟩⟩⟩
      · have h2 : zen A' n e = .null := h2
        rw [ez] at h2
        cases h2
      · have h3 : (iv (zF A' 193 2)).toInt < (iv (zef A' n e 72)).toInt := h3
        rw [f3, ht] at h3
        have h3 : t.toInt < (iv (zF A' (rv_ (zR A' 195 e)) 3)).toInt := h3
        exact ⟨e + 1, ⟨eq1, eqn (fun z => by have := (of_decide_eq_true z).1; omega), rfl, trivial⟩, rfl, rfl, le1⟩
      · have h4 : (iv (zef A' n e 78)).toInt < (iv (zF A' 193 2)).toInt := h4
        rw [f4, ht] at h4
        have h4 : (iv (zF A' (rv_ (zR A' 195 e)) 4)).toInt < t.toInt := h4
        exact ⟨e + 1, ⟨eq1, eqn (fun z => by have := (of_decide_eq_true z).2.1; omega), rfl, trivial⟩, rfl, rfl, le1⟩
      · have h3 : ¬ (iv (zF A' 193 2)).toInt < (iv (zef A' n e 72)).toInt := h3
        have h4 : ¬ (iv (zef A' n e 78)).toInt < (iv (zF A' 193 2)).toInt := h4
        have h5 : (iv (zef A' n e 81)).toInt ≤ (iv (zF A' 193 3)).toInt := h5
        have h6 : (iv (zef A' n e 84)).toInt = (Int32.ofInt (-9)).toInt := h6
        rw [f3, ht] at h3
        rw [f4, ht] at h4
        rw [f5, hk] at h5
        rw [f6, em9] at h6
        have h3 : ¬ t.toInt < (iv (zF A' (rv_ (zR A' 195 e)) 3)).toInt := h3
        have h4 : ¬ (iv (zF A' (rv_ (zR A' 195 e)) 4)).toInt < t.toInt := h4
        have h5 : (iv (zF A' (rv_ (zR A' 195 e)) 5)).toInt ≤ k.toInt := h5
        exact ⟨e + 1, ⟨eq1, eqy (decide_eq_true ⟨by omega, by omega, h5, Or.inl h6⟩), rfl, trivial⟩, rfl, rfl, le1⟩
      · have h6 : ¬ (iv (zef A' n e 84)).toInt = (Int32.ofInt (-9)).toInt := h6
        have h7 : (iv (zef A' n e 84)).toInt ≤ (iv (zF A' 193 3)).toInt := h7
        rw [f6, em9] at h6
        rw [f6, hk] at h7
        have h7 : (iv (zF A' (rv_ (zR A' 195 e)) 6)).toInt ≤ k.toInt := h7
        exact ⟨e + 1, ⟨eq1, eqn (fun z => by
          rcases (of_decide_eq_true z).2.2.2 with y | y
          · exact h6 y
          · omega), rfl, trivial⟩, rfl, rfl, le1⟩
      · have h3 : ¬ (iv (zF A' 193 2)).toInt < (iv (zef A' n e 72)).toInt := h3
        have h4 : ¬ (iv (zef A' n e 78)).toInt < (iv (zF A' 193 2)).toInt := h4
        have h5 : (iv (zef A' n e 81)).toInt ≤ (iv (zF A' 193 3)).toInt := h5
        have h7 : ¬ (iv (zef A' n e 84)).toInt ≤ (iv (zF A' 193 3)).toInt := h7
        rw [f3, ht] at h3
        rw [f4, ht] at h4
        rw [f5, hk] at h5
        rw [f6, hk] at h7
        have h3 : ¬ t.toInt < (iv (zF A' (rv_ (zR A' 195 e)) 3)).toInt := h3
        have h4 : ¬ (iv (zF A' (rv_ (zR A' 195 e)) 4)).toInt < t.toInt := h4
        have h5 : (iv (zF A' (rv_ (zR A' 195 e)) 5)).toInt ≤ k.toInt := h5
        have h7 : ¬ (iv (zF A' (rv_ (zR A' 195 e)) 6)).toInt ≤ k.toInt := h7
        exact ⟨e + 1, ⟨eq1, eqy (decide_eq_true ⟨by omega, by omega, h5, Or.inr (by omega)⟩), rfl, trivial⟩, rfl, rfl, le1⟩
      · have h5 : ¬ (iv (zef A' n e 81)).toInt ≤ (iv (zF A' 193 3)).toInt := h5
        rw [f5, hk] at h5
        have h5 : ¬ (iv (zF A' (rv_ (zR A' 195 e)) 5)).toInt ≤ k.toInt := h5
        exact ⟨e + 1, ⟨eq1, eqn (fun z => h5 (of_decide_eq_true z).2.2.1), rfl, trivial⟩, rfl, rfl, le1⟩
  · obtain ⟨n, t, k⟩ := a
    obtain ⟨⟨⟨hn, n0, n1⟩, hE⟩, ht, hk⟩ := hp
    exact ⟨0, ⟨rfl, rfl, rfl, trivial⟩, rfl, rfl, n0⟩
/-! of each world but some: what is in view and not true there -/
def addF (f : Nat → Int64) (S : Nat) : Nat → Int64 := fun x => if x = S / 64 then f x ||| (Int64.ofNat 1 <<< ((Int32.ofNat (S % 64)).toInt64 &&& 63)) else f x
def fmF (m : Nat) (out : Nat → Bool) (sS : Nat → Nat) (o : Nat → Int64) : Nat → Nat → Int64
  | 0 => fun x => if x < m then Int64.ofNat 0 else o x
  | w + 1 => if out w = true then addF (fmF m out sS o w) (sS w) else fmF m out sS o w
theorem addF_b {f : Nat → Int64} {S T : Nat} : bF (addF f S) T = (decide (T = S) || bF f T) := bF_add (by
  unfold addF
  rw [if_pos rfl]) (fun r hr => by
  unfold addF
  rw [if_neg hr]) T
theorem fmF_b {m : Nat} {out : Nat → Bool} {sS : Nat → Nat} {o : Nat → Int64} {T : Nat} (hT : T / 64 < m) : ∀ {n : Nat}, bF (fmF m out sS o n) T = true ↔ ∃ w, w < n ∧ out w = true ∧ sS w = T
  | 0 => by
    constructor
    · intro h
      have h : ((if T / 64 < m then Int64.ofNat 0 else o (T / 64))).toBitVec.getLsbD (T % 64) = true := h
      rw [if_pos hT, l_zero.mp rfl _ (by omega)] at h
      cases h
    · rintro ⟨w, h, -⟩
      exact absurd h (Nat.not_lt_zero w)
  | n + 1 => by
    have ih := fmF_b (m := m) (out := out) (sS := sS) (o := o) hT (n := n)
    show bF (if out n = true then addF (fmF m out sS o n) (sS n) else fmF m out sS o n) T = true ↔ _
    by_cases ho : out n = true
    · rw [if_pos ho, addF_b, Bool.or_eq_true, ih]
      constructor
      · rintro (h | ⟨w, a, b, c⟩)
        · exact ⟨n, Nat.lt_succ_self n, ho, (of_decide_eq_true h).symm⟩
        · exact ⟨w, Nat.lt_succ_of_lt a, b, c⟩
      · rintro ⟨w, a, b, c⟩
        by_cases e : w = n
        · subst e
          exact Or.inl (decide_eq_true c.symm)
        · exact Or.inr ⟨w, by omega, b, c⟩
    · rw [if_neg ho, ih]
      constructor
      · rintro ⟨w, a, b, c⟩
        exact ⟨w, Nat.lt_succ_of_lt a, b, c⟩
      · rintro ⟨w, a, b, c⟩
        by_cases e : w = n
        · subst e
          exact absurd b ho
        · exact ⟨w, by omega, b, c⟩
/-- the entries true in each world -/
def ztw (A : zW) (w : Nat) : Nat := (zI A 196 w).toInt.toNat
def zti (A : zW) : Prop := ∀ w, w < 256 → zI A 196 w = Int32.ofNat (ztw A w) ∧ ztw A w < 4096
def zouF (A : zW) (q : Nat) (w : Nat) : Bool := !(zhW (zJ A (q + 1)) w)
def zsS (A : zW) (V : Nat) (w : Nat) : Nat := (ztw A w &&& V) ^^^ V
theorem zsS_lt {A : zW} {V w : Nat} (hV : V < 4096) : zsS A V w < 4096 := Nat.xor_lt_two_pow (n := 12) (Nat.and_lt_two_pow _ hV) hV
theorem zsS_b {A : zW} {V w i : Nat} : (zsS A V w).testBit i = true ↔ V.testBit i = true ∧ ¬ (ztw A w).testBit i = true := by
  unfold zsS
  rw [Nat.testBit_xor, Nat.testBit_and]
  cases (ztw A w).testBit i <;> cases V.testBit i <;> decide
set_option maxRecDepth 20000 in
theorem zad_s {A : zW} {f : Nat → Int64} {S : Nat} : zad (zsJ A 200 f) 199 S = zsJ A 200 (addF f S) := by
  unfold zad
  show zuJ (zsJ A 200 f) 200 (S / 64) (zJ (zsJ A 200 f) 200 (S / 64) ||| _) = _
  rw [zsJ_at]
  refine zuJ_zsJ (fun x => ?_)
  unfold addF
  by_cases h : x = S / 64
  · rw [if_pos h, if_pos h, h]
  · rw [if_neg h, if_neg h]
def zclF (A : zW) (q V n : Nat) : Nat → Int64 := fmF 64 (zouF A q) (zsS A V) (zJ A 200) n
def zq_collect : zQ := zfu (fun a : Nat × Nat => [.ref 193, .ref a.1, .int (Int32.ofNat a.2), .int (Int32.ofNat a.2)]) (fun a A => zB a.1 4 = true ∧ a.1 ≠ 199 ∧ a.2 < 4096 ∧ zti A) (fun _ _ => none) (fun a A => zsJ A 200 (zclF A a.1 a.2 256))
def in_zcl (A : zW) (q V : Nat) : fL_ → List Value → zW → Prop := fun lg vs A' => ∃ w : Nat, f_sub [(4, false, .int (Int32.ofNat w)), (0, false, .ref 193), (1, false, .ref q), (2, false, .int (Int32.ofNat V)), (3, false, .int (Int32.ofNat V))] lg ∧ vs = [] ∧ A' = zsJ A 200 (zclF A q V w) ∧ w ≤ 256
theorem e256 : (Int32.ofInt 256).toInt = 256 := by decide
set_option maxRecDepth 20000 in
set_option maxHeartbeats 8000000 in
theorem za_X2_collect : zdo r_X2_collect zq_collect := by
  refine zdo_fu [(279, 1, zq_clear), (183, 2, zq_has), (288, 2, zq_add)] (fun a A => [(10, in_zcl A a.1 a.2)]) 80 fo_X2 rfl (zs_cons rfl za_X1_clear (zs_cons rfl za_X1_has (zs_cons rfl za_X1_add zs_nil))) k_X2_collect (fun a A hp => ?_) (fun a A hp => ?_)
  · obtain ⟨q, V⟩ := a
    obtain ⟨hB, hq, hV, hT⟩ := hp
    have hB : zB q 4 = true := hB
    have hq : q ≠ 199 := hq
    have hV : V < 4096 := hV
    have hT : zti A := hT
    refine List.forall_mem_cons.mpr ⟨?_, fun _ h => absurd h List.not_mem_nil⟩
    rintro lg vs A' ⟨w, hs, rfl, eA, hw⟩
    have hw : w ≤ 256 := hw
    have tw := n32_t (show w < 4096 by omega)
    have eq1 : some (false, Value.int (Int32.ofNat w + Int32.ofInt 1)) = some (false, .int (Int32.ofNat (w + 1))) := by rw [n32_s (by omega)]
    refine ⟨_, 80, hs, fun h => ?_, fun h => ?_⟩
    · have h : (Int32.ofInt 256).toInt ≤ (Int32.ofNat w).toInt := h
      rw [e256, tw] at h
      refine ⟨rfl, ?_⟩
      rw [eA, show w = 256 by omega]
    · have h : ¬ (Int32.ofInt 256).toInt ≤ (Int32.ofNat w).toInt := h
      rw [e256, tw] at h
      have eJ : zJ A' (q + 1) = zJ A (q + 1) := by rw [eA]; exact zJ_n (by omega)
      obtain ⟨hi, ht⟩ := hT w (by omega)
      refine ⟨(q, Int32.ofNat w), rfl, ⟨hB, (show 0 ≤ (Int32.ofNat w).toInt by omega), (show (Int32.ofNat w).toInt < 256 by omega)⟩, fun h2 => ?_, fun h2 => ?_⟩
      · have h2 : ¬ (zb (zhW (zJ A' (q + 1)) (Int32.ofNat w).toInt.toNat)).toInt = 0 := h2
        have h2 := zb_t h2
        rw [eJ, tw] at h2
        refine ⟨w + 1, ⟨eq1, rfl, rfl, rfl, rfl, trivial⟩, rfl, ?_, (show w + 1 ≤ 256 by omega)⟩
        rw [eA]
        show zsJ A 200 (fmF 64 (zouF A q) (zsS A V) (zJ A 200) w) = zsJ A 200 (if zouF A q w = true then _ else _)
        rw [if_neg (show ¬ zouF A q w = true by unfold zouF; rw [show zhW (zJ A (q + 1)) w = true from h2]; exact Bool.false_ne_true)]
      · have h2 : ¬ ¬ (zb (zhW (zJ A' (q + 1)) (Int32.ofNat w).toInt.toNat)).toInt = 0 := h2
        have h2 := zb_f (Classical.not_not.mp h2)
        rw [eJ, tw] at h2
        have eS : (zI A' 196 (Int32.ofNat w).toNatClampNeg &&& Int32.ofNat V) ^^^ Int32.ofNat V = Int32.ofNat (zsS A V w) := by
          rw [n32_c (by omega), show zI A' 196 w = zI A 196 w by rw [eA]; rfl, hi, n32_and, n32_xor]
          rfl
        refine ⟨(199, 64, zsS A V w), ?_, ⟨zB_199, (by have := zsS_lt (A := A) (w := w) hV; show zsS A V w / 64 < 64; omega), zsS_lt hV⟩, ?_⟩
        · show [Value.ref 199, .int ((zI A' 196 (Int32.ofNat w).toNatClampNeg &&& Int32.ofNat V) ^^^ Int32.ofNat V)] = [.ref 199, .int (Int32.ofNat (zsS A V w))]
          rw [eS]
        · refine ⟨w + 1, ⟨eq1, rfl, rfl, rfl, rfl, trivial⟩, rfl, ?_, (show w + 1 ≤ 256 by omega)⟩
          show zad A' 199 (zsS A V w) = zsJ A 200 (if zouF A q w = true then _ else _)
          rw [if_pos (show zouF A q w = true by unfold zouF; rw [show zhW (zJ A (q + 1)) w = false from h2]; rfl), eA, zad_s]
          rfl
  · obtain ⟨q, V⟩ := a
    refine ⟨(199, 64), rfl, ⟨zB_199, (by decide : 64 ≤ 64)⟩, ?_⟩
    exact ⟨0, ⟨rfl, rfl, rfl, rfl, rfl, trivial⟩, rfl, rfl, by decide⟩
/-! its cuts -/
def zcuG (A : zW) (q V : Nat) : Nat → Int64 := cuR (zclF A q V 256) 12
def zcuW (A : zW) (q V : Nat) : zW := zsJ (zsJ A 200 (zcuG A q V)) 202 (fun x => if x < 64 then lwR (zcuG A q V) 12 x else zJ A 202 x)
abbrev zcuA : Type := Nat × Int32 × Int32 × Int32
def zcuP (a : zcuA) (A : zW) : Prop := (zB a.1 4 = true ∧ a.1 ≠ 199) ∧ (zeV A a.2.1 ∧ zF A 193 2 = .int a.2.2.1 ∧ zF A 193 3 = .int a.2.2.2) ∧ zti A
def zcuV (a : zcuA) (A : zW) : Nat := vwN (cvP A a.2.2.1 a.2.2.2) a.2.1.toInt.toNat
set_option maxRecDepth 20000 in
theorem zcuV_lt {a : zcuA} {A : zW} (h : zcuP a A) : zcuV a A < 4096 := by
  obtain ⟨-, ⟨⟨⟨-, n0, n1⟩, -⟩, -⟩, -⟩ := h
  have h1 := vwN_lt (P := cvP A a.2.2.1 a.2.2.2) (n := a.2.1.toInt.toNat)
  have h2 := p2_le a.2.1.toInt.toNat (by omega)
  unfold zcuV
  omega
def zq_cutsFor : zQ := zfu (fun a : zcuA => [.ref 193, .ref a.1]) zcuP (fun _ _ => some (.ref 201)) (fun a A => zcuW A a.1 (zcuV a A))
set_option maxRecDepth 20000 in
theorem zc_X2_cutsFor : zdo r_X2_cutsFor zq_cutsFor := by
  refine zdo_fu [(297, 1, zq_inViewC), (309, 4, zq_collect), (351, 2, zq_closeUp), (339, 3, zq_becomeLows)] (fun _ _ => []) 80 fo_X2 rfl (zs_cons rfl zc_X2_inView (zs_cons rfl za_X2_collect (zs_cons rfl za_X1_closeUp (zs_cons rfl za_X1_becomeLows zs_nil)))) k_X2_cutsFor (fun _ _ _ => no_zh) (fun a A hp => ?_)
  have hV := zcuV_lt hp
  obtain ⟨q, n, t, k⟩ := a
  obtain ⟨⟨hB, hq⟩, hE, hT⟩ := hp
  refine ⟨(n, t, k), rfl, hE, ?_⟩
  refine ⟨(q, vwN (cvP A t k) n.toInt.toNat), rfl, ⟨hB, hq, hV, hT⟩, ?_⟩
  refine ⟨(), rfl, trivial, ?_⟩
  refine ⟨(), rfl, trivial, ?_⟩
  refine ⟨rfl, ?_⟩
  show zsJ (zsJ (zsJ A 200 (zclF A q _ 256)) 200 (cuR (zJ (zsJ A 200 (zclF A q _ 256)) 200) 12)) 202 (fun x => if x < 64 then lwR (zJ (zsJ (zsJ A 200 (zclF A q _ 256)) 200 (cuR (zJ (zsJ A 200 (zclF A q _ 256)) 200) 12)) 200) 12 x else zJ (zsJ (zsJ A 200 (zclF A q _ 256)) 200 (cuR (zJ (zsJ A 200 (zclF A q _ 256)) 200) 12)) 202 x) = _
  rw [zJ_s, zsJ_zsJ, zJ_s, zJ_n (show (202 : Nat) ≠ 200 by decide)]
  rfl
set_option maxRecDepth 20000 in
/-- what they are -/
theorem zcu_iff {A : zW} {q V S : Nat} (hV : V < 4096) (hS : S < 4096) : bF (fun x => if x < 64 then lwR (zcuG A q V) 12 x else zJ A 202 x) S = true ↔ isC (fun w => zouF A q w = true) (ztw A) V S := by
  have e : bF (fun x => if x < 64 then lwR (zcuG A q V) 12 x else zJ A 202 x) S = bF (lwR (zcuG A q V) 12) S := by
    show (if S / 64 < 64 then _ else _ : Int64).toBitVec.getLsbD (S % 64) = _
    rw [if_pos (by omega)]
    rfl
  have key : ∀ T, T < 4096 → (bF (zcuG A q V) T = true ↔ opS (fun w => zouF A q w = true) (ztw A) V T) := fun T hT => by
    unfold zcuG
    rw [cuR_bF (Nat.le_refl _) hT, cuF_iff]
    constructor
    · rintro ⟨U, h1, h2, h3⟩
      have hU : U < 4096 := by
        refine Nat.lt_pow_two_of_testBit (n := 12) U (fun i hi => ?_)
        cases c : U.testBit i with
        | false => rfl
        | true =>
          have h4 := h2 i c
          rw [Nat.testBit_lt_two_pow (Nat.lt_of_lt_of_le (show T < 2 ^ 12 from hT) (Nat.pow_le_pow_right (by decide) hi))] at h4
          cases h4
      obtain ⟨w, w1, w2, w3⟩ := (fmF_b (m := 64) (by omega)).mp h1
      refine ⟨w, w1, w2, fun i a c => h2 i ?_⟩
      rw [← w3]
      exact zsS_b.mpr ⟨a, c⟩
    · rintro ⟨w, w1, w2, w3⟩
      refine ⟨zsS A V w, (fmF_b (m := 64) (by have := zsS_lt (A := A) (w := w) hV; omega)).mpr ⟨w, w1, w2, rfl⟩, fun i a => w3 i (zsS_b.mp a).1 (zsS_b.mp a).2, fun i a _ => ?_⟩
      by_cases h12 : i < 12
      · exact h12
      · rw [Nat.testBit_lt_two_pow (Nat.lt_of_lt_of_le (show T < 2 ^ 12 from hT) (Nat.pow_le_pow_right (by decide) (by omega)))] at a
        cases a
  rw [e, lwR_bF (Nat.le_refl _) hS, cut_iff, key S hS]
  constructor
  · rintro ⟨a, b⟩
    refine ⟨a, fun k hk z => ?_⟩
    have h12 : k < 12 := by
      by_cases h12 : k < 12
      · exact h12
      · rw [Nat.testBit_lt_two_pow (Nat.lt_of_lt_of_le (show S < 2 ^ 12 from hS) (Nat.pow_le_pow_right (by decide) (by omega)))] at hk
        cases hk
    exact b k h12 hk ((key _ (Nat.lt_of_le_of_lt (Nat.sub_le _ _) hS)).mpr z)
  · rintro ⟨a, b⟩
    exact ⟨a, fun k h12 hk z => b k hk ((key _ (Nat.lt_of_le_of_lt (Nat.sub_le _ _) hS)).mp z)⟩
/-! the least of them -/
set_option maxRecDepth 20000 in
theorem zcw_J {A : zW} {q : Nat} {f : Nat → Int64} {set : Int32} : ∀ {n : Nat}, zcw (zsJ A q f) set n = zcw A set n
  | 0 => rfl
  | n + 1 => by
    show (if zbi set n = true then zcw (zsJ A q f) set n + zI A 194 (zsr A n).toInt.toNat else zcw (zsJ A q f) set n) = (if zbi set n = true then zcw A set n + zI A 194 (zsr A n).toInt.toNat else zcw A set n)
    rw [zcw_J]
set_option maxRecDepth 20000 in
theorem zcw_le {A : zW} {set : Int32} : ∀ {n : Nat}, n ≤ 12 → (∀ e, e < n → 0 ≤ (zI A 194 (zsr A e).toInt.toNat).toInt ∧ (zI A 194 (zsr A e).toInt.toNat).toInt ≤ 9) → 0 ≤ (zcw A set n).toInt ∧ (zcw A set n).toInt ≤ 9 * (n : Int)
  | 0, _, _ => ⟨(by decide : 0 ≤ (0 : Int32).toInt), (by decide : (0 : Int32).toInt ≤ 9 * ((0 : Nat) : Int))⟩
  | n + 1, hn, h => by
    obtain ⟨a, b⟩ := zcw_le (A := A) (set := set) (n := n) (by omega) (fun e he => h e (by omega))
    obtain ⟨c, d⟩ := h n (by omega)
    show 0 ≤ (if zbi set n = true then zcw A set n + zI A 194 (zsr A n).toInt.toNat else zcw A set n).toInt ∧ (if zbi set n = true then zcw A set n + zI A 194 (zsr A n).toInt.toNat else zcw A set n).toInt ≤ 9 * ((n + 1 : Nat) : Int)
    split
    · rw [i_add (by omega) (by omega)]
      omega
    · omega
def costC (A : zW) (n S : Nat) : Int := (zcw A (Int32.ofNat S) n).toInt * 16 + ((pcN 12 S : Nat) : Int)
def encL (c : Nat → Int) : Option Nat → Int32 × Int
  | none => (Int32.ofInt 0, 2147483647)
  | some b => (Int32.ofNat b, c b)
theorem lstF_none {p : Nat → Bool} {c : Nat → Int} {m : Nat} : ∀ {k : Nat}, (∀ i, m ≤ i → i < m + k → ¬ p i = true) → lstF p c (m + k) = lstF p c m
  | 0, _ => rfl
  | k + 1, h => by
    show (if p (m + k) = true then _ else lstF p c (m + k)) = _
    rw [if_neg (h (m + k) (by omega) (by omega)), lstF_none (fun i a b => h i a (by omega))]
theorem lstF_hit {p : Nat → Bool} {c : Nat → Int} {S : Nat} (h : p S = true) : lstF p c (S + 1) = (match lstF p c S with
    | none => some S
    | some b => if c S < c b then some S else some b) := by
  show (if p S = true then _ else lstF p c S) = _
  rw [if_pos h]
  cases lstF p c S <;> rfl
def zlcP (a : zcuA) (A : zW) : Prop := zcuP a A ∧ zeS A a.2.1 ∧ ∀ i, i < 6 → 0 ≤ (zI A 194 i).toInt ∧ (zI A 194 i).toInt ≤ 9
def zlcF (a : zcuA) (A : zW) : Nat → Bool := bF (fun x => if x < 64 then lwR (zcuG A a.1 (zcuV a A)) 12 x else zJ A 202 x)
def zlcV (a : zcuA) (A : zW) : Int32 := (encL (costC A a.2.1.toInt.toNat) (lstF (zlcF a A) (costC A a.2.1.toInt.toNat) 4096)).1
def zq_leastCut : zQ := zfu (fun a : zcuA => [.ref 193, .ref a.1]) zlcP (fun a A => some (.int (zlcV a A))) (fun a A => zcuW A a.1 (zcuV a A))
def in_zlc (a : zcuA) (A : zW) : fL_ → List Value → zW → Prop := fun lg vs A' => ∃ (x l g c : Int32) (F : Nat), f_sub [(3, false, .int l), (4, false, .int x), (5, false, .int g), (6, false, .int c), (0, false, .ref 193), (2, false, .ref 201)] lg ∧ vs = [] ∧ A' = zcuW A a.1 (zcuV a A) ∧ ((F : Int) = x.toInt + 1 ∧ F ≤ 4096) ∧ c.toInt = ((cN (zlcF a A) 4096 - cN (zlcF a A) F : Nat) : Int) ∧ (l, g.toInt) = encL (costC A a.2.1.toInt.toNat) (lstF (zlcF a A) (costC A a.2.1.toInt.toNat) F)
theorem eMax : (Int32.ofInt 2147483647).toInt = 2147483647 := by decide
set_option maxRecDepth 20000 in
set_option maxHeartbeats 8000000 in
theorem zc_X2_leastCut : zdo r_X2_leastCut zq_leastCut := by
  refine zdo_fu [(489, 2, zq_cutsFor), (381, 1, zq_size), (390, 2, zq_after), (402, 2, zq_weigh), (511, 1, zq_ibc)] (fun a A => [(21, in_zlc a A)]) 80 fo_X2 rfl (zs_cons rfl zc_X2_cutsFor (zs_cons rfl za_X1_size (zs_cons rfl za_X1_after (zs_cons rfl za_X2_weigh (zs_cons rfl za_J6_ibc zs_nil))))) k_X2_leastCut (fun a A hp => ?_) (fun a A hp => ?_)
  · have hP := hp
    obtain ⟨hcu, hS, hT⟩ := hp
    obtain ⟨⟨hn, n0, n1⟩, hE⟩ := id hS
    have n0 : 0 ≤ a.2.1.toInt := n0
    have n1 : a.2.1.toInt ≤ 12 := n1
    refine List.forall_mem_cons.mpr ⟨?_, fun _ h => absurd h List.not_mem_nil⟩
    rintro lg vs A' ⟨x, l, g, c, F, hs, rfl, eA, ⟨hF, hF4⟩, hc, hlg⟩
    have eJ : zJ A' 202 = fun x => if x < 64 then lwR (zcuG A a.1 (zcuV a A)) 12 x else zJ A 202 x := by rw [eA]; exact zJ_s
    have el := cN_le (p := zlcF a A) (n := 4096)
    refine ⟨_, 80, hs, fun h => ?_, fun h => ?_⟩
    · have h : c.toInt ≤ 0 := h
      rw [hc] at h
      refine ⟨?_, eA⟩
      have e4 : F + (4096 - F) = 4096 := by omega
      have e1 : lstF (zlcF a A) (costC A a.2.1.toInt.toNat) (F + (4096 - F)) = lstF (zlcF a A) (costC A a.2.1.toInt.toNat) F := lstF_none (fun i i1 i2 hi => by
        have m1 := cN_mono (p := zlcF a A) i1
        have m2 : cN (zlcF a A) (i + 1) = cN (zlcF a A) i + 1 := by
          show cN (zlcF a A) i + (if zlcF a A i = true then 1 else 0) = _
          rw [if_pos hi]
        have m3 := cN_mono (p := zlcF a A) (show i + 1 ≤ 4096 by omega)
        omega)
      rw [e4] at e1
      show some (Value.int l) = some (.int (encL (costC A a.2.1.toInt.toNat) (lstF (zlcF a A) (costC A a.2.1.toInt.toNat) 4096)).1)
      rw [e1, ← hlg]
    · have h : ¬ c.toInt ≤ 0 := h
      rw [hc] at h
      obtain ⟨S, s1, s2, s3, s4⟩ := cN_next (p := zlcF a A) (m := F) (k := 4096 - F) (by rw [show F + (4096 - F) = 4096 by omega]; omega)
      have s2 : S < 4096 := by omega
      have tS := n32_t s2
      have hsr : ∀ e, e < a.2.1.toInt.toNat → 0 ≤ (zI A 194 (zsr A e).toInt.toNat).toInt ∧ (zI A 194 (zsr A e).toInt.toNat).toInt ≤ 9 := fun e he => by
        obtain ⟨j, u, g1, g2, g3, g4, u0, u1⟩ := hE e (by omega)
        have es : zsr A e = u := by
          unfold zsr
          rw [g1]
          show iv (zF A j 2) = u
          rw [g4]
          rfl
        rw [es]
        exact hT u.toInt.toNat (by omega)
      obtain ⟨w0, w1⟩ := zcw_le (A := A) (set := Int32.ofNat S) (n := a.2.1.toInt.toNat) (by omega) hsr
      have ew : zcw A' (Int32.ofNat S) a.2.1.toInt.toNat = zcw A (Int32.ofNat S) a.2.1.toInt.toNat := by
        rw [eA]
        unfold zcuW
        rw [zcw_J, zcw_J]
      have eic := icV_ok s2
      have pc := pcN_le (k := 12) (n := S)
      have e16 : (Int32.ofInt 16).toInt = 16 := by decide
      have eC : (zcw A' (Int32.ofNat S) a.2.1.toInt.toNat * Int32.ofInt 16 + icV (Int32.ofNat S)).toInt = costC A a.2.1.toInt.toNat S := by
        rw [ew]
        have m1 : (zcw A (Int32.ofNat S) a.2.1.toInt.toNat * Int32.ofInt 16).toInt = (zcw A (Int32.ofNat S) a.2.1.toInt.toNat).toInt * 16 := by
          rw [i_mul (by rw [e16]; omega) (by rw [e16]; omega), e16]
        rw [i_add (by rw [m1, eic]; omega) (by rw [m1, eic]; omega), m1, eic]
        rfl
      have hcs : costC A a.2.1.toInt.toNat S < 2147483647 := by
        unfold costC
        omega
      have em1 : (Int32.ofInt (-1)).toInt = -1 := by decide
      have q1 : cN (zlcF a A) (S + 1) = cN (zlcF a A) S + 1 := by
        show cN (zlcF a A) S + (if zlcF a A S = true then 1 else 0) = _
        rw [if_pos s3]
      have q2 : cN (zlcF a A) S = cN (zlcF a A) F := by
        have e := cN_none (p := zlcF a A) (m := F) (k := S - F) (fun i i1 i2 => s4 i i1 (by omega))
        rw [show F + (S - F) = S by omega] at e
        exact e
      have ec : (c + Int32.ofInt (-1)).toInt = ((cN (zlcF a A) 4096 - cN (zlcF a A) (S + 1) : Nat) : Int) := by
        rw [i_add (by rw [hc, em1]; omega) (by rw [hc, em1]; omega), hc, em1]
        omega
      have eL : lstF (zlcF a A) (costC A a.2.1.toInt.toNat) S = lstF (zlcF a A) (costC A a.2.1.toInt.toNat) F := by
        have e := lstF_none (p := zlcF a A) (c := costC A a.2.1.toInt.toNat) (m := F) (k := S - F) (fun i i1 i2 => s4 i i1 (by omega))
        rw [show F + (S - F) = S by omega] at e
        exact e
      have eH := lstF_hit (c := costC A a.2.1.toInt.toNat) s3
      rw [eL] at eH
      have hx : ((S + 1 : Nat) : Int) = (Int32.ofNat S).toInt + 1 ∧ S + 1 ≤ 4096 := ⟨by rw [tS]; omega, by omega⟩
      refine ⟨(201, x, S), rfl, ⟨zB_201, ⟨(show -1 ≤ x.toInt by omega), (show x.toInt < (S : Int) by omega)⟩, s2, ?_, fun T t1 t2 => ?_⟩, ?_⟩
      · show bF (zJ A' 202) S = true
        rw [eJ]
        exact s3
      · show ¬ bF (zJ A' 202) T = true
        have t1 : x.toInt < (T : Int) := t1
        rw [eJ]
        exact s4 T (by omega) t2
      refine ⟨(Int32.ofNat S, a.2.1), rfl, (by rw [eA]; exact hS), ?_⟩
      refine ⟨Int32.ofNat S, rfl, trivial, fun h7 => ?_, fun h7 => ?_⟩
      · have h7 : g.toInt ≤ (zcw A' (Int32.ofNat S) a.2.1.toInt.toNat * Int32.ofInt 16 + icV (Int32.ofNat S)).toInt := h7
        rw [eC] at h7
        refine ⟨Int32.ofNat S, l, g, c + Int32.ofInt (-1), S + 1, ⟨rfl, rfl, rfl, rfl, rfl, rfl, trivial⟩, rfl, eA, hx, ec, ?_⟩
        rw [eH]
        cases hb : lstF (zlcF a A) (costC A a.2.1.toInt.toNat) F with
        | none =>
          rw [hb] at hlg
          have hg : g.toInt = 2147483647 := congrArg Prod.snd hlg
          omega
        | some b =>
          rw [hb] at hlg
          have hg : g.toInt = costC A a.2.1.toInt.toNat b := congrArg Prod.snd hlg
          show (l, g.toInt) = encL (costC A a.2.1.toInt.toNat) (if costC A a.2.1.toInt.toNat S < costC A a.2.1.toInt.toNat b then some S else some b)
          rw [if_neg (by omega)]
          exact hlg
      · have h7 : ¬ g.toInt ≤ (zcw A' (Int32.ofNat S) a.2.1.toInt.toNat * Int32.ofInt 16 + icV (Int32.ofNat S)).toInt := h7
        rw [eC] at h7
        refine ⟨Int32.ofNat S, Int32.ofNat S, zcw A' (Int32.ofNat S) a.2.1.toInt.toNat * Int32.ofInt 16 + icV (Int32.ofNat S), c + Int32.ofInt (-1), S + 1, ⟨rfl, rfl, rfl, rfl, rfl, rfl, trivial⟩, rfl, eA, hx, ec, ?_⟩
        rw [eC, eH]
        cases hb : lstF (zlcF a A) (costC A a.2.1.toInt.toNat) F with
        | none => rfl
        | some b =>
          rw [hb] at hlg
          have hg : g.toInt = costC A a.2.1.toInt.toNat b := congrArg Prod.snd hlg
          show (Int32.ofNat S, costC A a.2.1.toInt.toNat S) = encL (costC A a.2.1.toInt.toNat) (if costC A a.2.1.toInt.toNat S < costC A a.2.1.toInt.toNat b then some S else some b)
          rw [if_pos (by omega)]
          rfl
  · obtain ⟨hcu, hS, hT⟩ := hp
    have eJ : zJ (zcuW A a.1 (zcuV a A)) 202 = fun x => if x < 64 then lwR (zcuG A a.1 (zcuV a A)) 12 x else zJ A 202 x := zJ_s
    have e := szA_cN (f := zJ (zcuW A a.1 (zcuV a A)) 202) (k := 64) (by decide)
    rw [show (64 : Nat) * 64 = 4096 from rfl] at e
    refine ⟨a, rfl, hcu, ?_⟩
    refine ⟨(201, 64), rfl, ⟨zB_201, (by decide : 64 ≤ 64)⟩, ?_⟩
    refine ⟨Int32.ofInt (-1), Int32.ofInt 0, Int32.ofInt 2147483647, szA bcV (zJ (zcuW A a.1 (zcuV a A)) 202) 64, 0, ⟨rfl, rfl, rfl, rfl, rfl, rfl, trivial⟩, rfl, rfl, ⟨by decide, by decide⟩, ?_, ?_⟩
    · show _ = ((cN (zlcF a A) 4096 - 0 : Nat) : Int)
      rw [Nat.sub_zero, e, eJ]
      rfl
    · rw [eMax]
      rfl
/-! what is given up -/
def zabF (A : zW) (set : Int32) (v : Value) : Nat → zW
  | 0 => A
  | e + 1 => if zbi set e = true then zuF (zabF A set v e) (rv_ (zR A 195 e)) 6 v else zabF A set v e
set_option maxRecDepth 20000 in
theorem zabF_k {A : zW} {set : Int32} {v : Value} : ∀ {e : Nat}, (∀ i, i < e → 385 ≤ rv_ (zR A 195 i)) → (∀ q k, q < 385 → zF (zabF A set v e) q k = zF A q k) ∧ (∀ q k, zR (zabF A set v e) q k = zR A q k) ∧ (∀ q k, zI (zabF A set v e) q k = zI A q k) ∧ (∀ q k, zJ (zabF A set v e) q k = zJ A q k) ∧ (∀ q, zK (zabF A set v e) q = zK A q) ∧ zN (zabF A set v e) = zN A ∧ ∀ q k, k ≠ 6 → zF (zabF A set v e) q k = zF A q k
  | 0, _ => ⟨fun _ _ _ => rfl, fun _ _ => rfl, fun _ _ => rfl, fun _ _ => rfl, fun _ => rfl, rfl, fun _ _ _ => rfl⟩
  | e + 1, h => by
    obtain ⟨a1, a2, a3, a4, a5, a6, a7⟩ := zabF_k (A := A) (set := set) (v := v) (e := e) (fun i hi => h i (by omega))
    have he := h e (by omega)
    show (∀ q k, q < 385 → zF (if zbi set e = true then zuF (zabF A set v e) (rv_ (zR A 195 e)) 6 v else zabF A set v e) q k = zF A q k) ∧ (∀ q k, zR (if zbi set e = true then zuF (zabF A set v e) (rv_ (zR A 195 e)) 6 v else zabF A set v e) q k = zR A q k) ∧ (∀ q k, zI (if zbi set e = true then zuF (zabF A set v e) (rv_ (zR A 195 e)) 6 v else zabF A set v e) q k = zI A q k) ∧ (∀ q k, zJ (if zbi set e = true then zuF (zabF A set v e) (rv_ (zR A 195 e)) 6 v else zabF A set v e) q k = zJ A q k) ∧ (∀ q, zK (if zbi set e = true then zuF (zabF A set v e) (rv_ (zR A 195 e)) 6 v else zabF A set v e) q = zK A q) ∧ zN (if zbi set e = true then zuF (zabF A set v e) (rv_ (zR A 195 e)) 6 v else zabF A set v e) = zN A ∧ ∀ q k, k ≠ 6 → zF (if zbi set e = true then zuF (zabF A set v e) (rv_ (zR A 195 e)) 6 v else zabF A set v e) q k = zF A q k
    by_cases hb : zbi set e = true
    · rw [if_pos hb]
      refine ⟨fun q k hq => (zuF_ne (by omega)).trans (a1 q k hq), fun q k => zR_uF.trans (a2 q k), fun q k => zI_uF.trans (a3 q k), fun q k => a4 q k, fun q => by rw [zK_uF]; exact a5 q, by rw [zN_uF]; exact a6, fun q k hk => ?_⟩
      rw [zuF_x, if_neg (fun z => hk z.2)]
      exact a7 q k hk
    · rw [if_neg hb]
      exact ⟨a1, a2, a3, a4, a5, a6, a7⟩
def zq_abandonC : zQ := zfu (fun a : Int32 × Int32 => [.ref 193, .int a.1]) (fun a A => zeV A a.2) (fun _ _ => none) (fun a A => zabF A a.1 (zF A 193 3) a.2.toInt.toNat)
def in_zab (A : zW) (set n : Int32) : fL_ → List Value → zW → Prop := fun lg vs A' => ∃ e : Nat, f_sub [(2, false, .int (Int32.ofNat e)), (0, false, .ref 193), (1, false, .int set)] lg ∧ vs = [] ∧ A' = zabF A set (zF A 193 3) e ∧ (e : Int) ≤ n.toInt
set_option maxRecDepth 20000 in
set_option maxHeartbeats 8000000 in
theorem zc_X2_abandon : zdo r_X2_abandon zq_abandonC := by
  refine zdo_fu [(204, 2, zq_entryAt)] (fun a A => [(2, in_zab A a.1 a.2)]) 80 fo_X2 rfl (zs_cons rfl za_X2_entryAt zs_nil) k_X2_abandon (fun a A hp => ?_) (fun a A hp => ?_)
  · obtain ⟨set, n⟩ := a
    obtain ⟨⟨hn, n0, n1⟩, hE⟩ := hp
    have hn : zF A 193 1 = .int n := hn
    have n0 : 0 ≤ n.toInt := n0
    have n1 : n.toInt ≤ 12 := n1
    have hE : ∀ e : Nat, (e : Int) < n.toInt → ∃ j : Nat, zR A 195 e = .ref j ∧ 385 ≤ j ∧ (zK A j).1 = 4 := hE
    refine List.forall_mem_cons.mpr ⟨?_, fun _ h => absurd h List.not_mem_nil⟩
    rintro lg vs A' ⟨e, hs, rfl, eA, he⟩
    have he : (e : Int) ≤ n.toInt := he
    have te := n32_t (show e < 4096 by omega)
    have eq1 : some (false, Value.int (Int32.ofNat e + Int32.ofInt 1)) = some (false, .int (Int32.ofNat (e + 1))) := by rw [n32_s (by omega)]
    obtain ⟨k1, k2, k3, k4, k5, k6, -⟩ := zabF_k (A := A) (set := set) (v := zF A 193 3) (e := e) (fun i hi => by
      obtain ⟨j, g1, g2, -⟩ := hE i (by omega)
      rw [g1]
      exact g2)
    rw [← eA] at k1 k2 k3 k4 k5 k6
    have hn' : zF A' 193 1 = .int n := (k1 193 1 (by decide)).trans hn
    refine ⟨_, 80, hs, fun h => ?_, fun h => ?_⟩
    · have h : (iv (zF A' 193 1)).toInt ≤ (Int32.ofNat e).toInt := h
      rw [hn', te] at h
      have h : n.toInt ≤ (e : Int) := h
      refine ⟨rfl, ?_⟩
      rw [eA]
      show zabF A set (zF A 193 3) e = zabF A set (zF A 193 3) n.toInt.toNat
      rw [show n.toInt.toNat = e by omega]
    · have h : ¬ (iv (zF A' 193 1)).toInt ≤ (Int32.ofNat e).toInt := h
      rw [hn', te] at h
      have h : ¬ n.toInt ≤ (e : Int) := h
      obtain ⟨j, g1, g2, g3⟩ := hE e (by omega)
      have g1' : zR A' 195 e = .ref j := (k2 195 e).trans g1
      have g3' : (zK A' j).1 = 4 := by rw [k5]; exact g3
      have ez := zen_at (A := A') (n := n) (e := e) (by omega) (by omega) g1'
      have le1 : ((e + 1 : Nat) : Int) ≤ n.toInt := by omega
      have eb : (set >>> (Int32.ofNat e &&& 31) &&& Int32.ofInt 1).toInt = if zbi set e = true then 1 else 0 := zbt_c (by omega)
      have e1 : (Int32.ofInt 1).toInt = 1 := by decide
      refine ⟨(Int32.ofNat e, n), rfl, ⟨hn', n0, n1⟩, fun h2 => ?_, fun h2 => ⟨fun h3 => ?_, fun h3 => ⟨?_, ?_⟩⟩⟩
      · have h2 : ¬ (set >>> (Int32.ofNat e &&& 31) &&& Int32.ofInt 1).toInt = (Int32.ofInt 1).toInt := h2
        rw [eb, e1] at h2
        have hb : ¬ zbi set e = true := fun z => h2 (if_pos z)
        refine ⟨e + 1, ⟨eq1, rfl, rfl, trivial⟩, rfl, ?_, le1⟩
        rw [eA]
        show zabF A set (zF A 193 3) e = if zbi set e = true then _ else _
        rw [if_neg hb]
      · have h3 : zen A' n e = .null := h3
        rw [ez] at h3
        cases h3
      · show zc (rv_ (zen A' n e)) (kpd pl_X2 84 (zkd A' (rv_ (zen A' n e)))) = 0
        rw [ez]
        exact zc_d g2
      · have h2 : ¬ ¬ (set >>> (Int32.ofNat e &&& 31) &&& Int32.ofInt 1).toInt = (Int32.ofInt 1).toInt := h2
        rw [eb, e1] at h2
        have hb : zbi set e = true := by
          cases z : zbi set e with
          | true => rfl
          | false =>
            rw [z] at h2
            exact absurd (fun y => absurd y (by decide)) h2
        refine ⟨e + 1, ⟨eq1, rfl, rfl, trivial⟩, rfl, ?_, le1⟩
        show zuF A' (rv_ (zen A' n e)) (kpd pl_X2 84 (zkd A' (rv_ (zen A' n e)))) (zF A' 193 3) = if zbi set e = true then zuF (zabF A set (zF A 193 3) e) (rv_ (zR A 195 e)) 6 (zF A 193 3) else _
        rw [if_pos hb, ez, k1 193 3 (by decide), g1, ← eA]
        show zuF A' j (kpd pl_X2 84 (zkd A' j)) (zF A 193 3) = zuF A' j 6 (zF A 193 3)
        rw [zkd_d g2, g3']
        rfl
  · obtain ⟨set, n⟩ := a
    obtain ⟨⟨hn, n0, n1⟩, hE⟩ := hp
    exact ⟨0, ⟨rfl, rfl, rfl, trivial⟩, rfl, rfl, n0⟩
