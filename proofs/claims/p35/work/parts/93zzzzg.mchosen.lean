/-! merging, the class: what a world costs, which cost least -/
def zq_max : zQ := zpu (fun a : Int32 × Int32 => [.int a.1, .int a.2]) (fun _ _ => True) (fun a _ => .int (if a.1.toInt < a.2.toInt then a.2 else a.1))
set_option maxRecDepth 20000 in
theorem za_J9_max : zdo r_J9_max_7cf53 zq_max := by
  refine zdo_pu [] (fun _ _ => []) 40 fo_J9 rfl zs_nil k_J9_max_7cf53 (fun _ _ _ => no_zh) (fun a A _ => ?_)
  obtain ⟨x, y⟩ := a
  refine ⟨fun h => ?_, fun h => ?_⟩
  · have h : x.toInt < y.toInt := h
    refine ⟨?_, rfl⟩
    show some (Value.int y) = some (.int (if x.toInt < y.toInt then y else x))
    rw [if_pos h]
  · have h : ¬ x.toInt < y.toInt := h
    refine ⟨?_, rfl⟩
    show some (Value.int x) = some (.int (if x.toInt < y.toInt then y else x))
    rw [if_neg h]
theorem n32_8p : ∀ d, d < 9 → Int32.ofInt 1 <<< (Int32.ofInt 3 * Int32.ofNat d &&& 31) = Int32.ofNat (8 ^ d) := by decide +kernel
theorem n32_add {a b : Nat} (h : a + b < 2147483648) : Int32.ofNat a + Int32.ofNat b = Int32.ofNat (a + b) := by
  have ea := n32_big (show a < 2147483648 by omega)
  have eb := n32_big (show b < 2147483648 by omega)
  have es := n32_big h
  refine Int32.toInt_inj.mp ?_
  rw [i_add (by omega) (by omega), ea, eb, es]
  omega
theorem n32_mul : ∀ a, a < 10 → ∀ b, b < 10 → Int32.ofNat a * Int32.ofNat b = Int32.ofNat (a * b) := by decide +kernel
def ctP (w law tk : Nat) (D T : Nat → Nat) (A : zW) : Prop := w < 256 ∧ law < 3 ∧ zF A 324 1 = .int (Int32.ofNat tk) ∧ (∀ u, u < 6 → tk.testBit u = true → zI A (326 + u) w = Int32.ofNat (D u) ∧ D u ≤ 8) ∧ ∀ u, u < 6 → zI A 194 u = Int32.ofNat (T u) ∧ T u ≤ 9
abbrev ctA : Type := (Nat × Nat × Nat) × (Nat → Nat) × (Nat → Nat)
def zq_costOf : zQ := zpu (fun a : ctA => [.ref 324, .int (Int32.ofNat a.1.1), .int (Int32.ofNat a.1.2.1), .ref 194]) (fun a A => ctP a.1.1 a.1.2.1 a.1.2.2 a.2.1 a.2.2 A) (fun a _ => .int (Int32.ofNat (cst a.1.2.1 a.1.2.2 a.2.2 a.2.1 6)))
def in_ct (A : zW) (w law tk : Nat) (D T : Nat → Nat) : fL_ → List Value → zW → Prop := fun lg vs A' => ∃ u : Nat, f_sub [(5, false, .int (Int32.ofNat u)), (4, false, .int (Int32.ofNat (cst law tk T D u))), (0, false, .ref 324), (1, false, .int (Int32.ofNat w)), (2, false, .int (Int32.ofNat law)), (3, false, .ref 194)] lg ∧ vs = [] ∧ A' = A ∧ u ≤ 6
set_option maxRecDepth 20000 in
set_option maxHeartbeats 16000000 in
theorem zc_X6_costOf : zdo r_X6_costOf zq_costOf := by
  refine zdo_pu [(241, 2, zq_max)] (fun a A => [(6, in_ct A a.1.1 a.1.2.1 a.1.2.2 a.2.1 a.2.2)]) 100 fo_X6 rfl (zs_cons rfl za_J9_max zs_nil) k_X6_costOf (fun a A hp => ?_) (fun a A hp => ?_)
  · obtain ⟨⟨w, law, tk⟩, D, T⟩ := a
    obtain ⟨hw, hl, htk, hD, hT⟩ := hp
    have hw : w < 256 := hw
    have hl : law < 3 := hl
    have htk : zF A 324 1 = .int (Int32.ofNat tk) := htk
    have hD : ∀ u, u < 6 → tk.testBit u = true → zI A (326 + u) w = Int32.ofNat (D u) ∧ D u ≤ 8 := hD
    have hT : ∀ u, u < 6 → zI A 194 u = Int32.ofNat (T u) ∧ T u ≤ 9 := hT
    refine List.forall_mem_cons.mpr ⟨?_, fun _ h => absurd h List.not_mem_nil⟩
    rintro lg vs A' ⟨u, hs, rfl, rfl, hu⟩
    have hu : u ≤ 6 := hu
    have tu := n32_t (show u < 4096 by omega)
    have tl := n32_t (show law < 4096 by omega)
    have e6 : (Int32.ofInt 6).toInt = 6 := by decide
    have e6n : (Int32.ofNat 6).toInt = 6 := by decide
    have e1 : (Int32.ofInt 1).toInt = 1 := by decide
    have cu := n32_c (show u < 4096 by omega)
    have cw := n32_c (show w < 4096 by omega)
    have bnd := cst_le (law := law) (tk := tk) (T := T) (D := D) (fun x hx => (hT x hx).2) (fun x hx hb => (hD x hx hb).2) hu
    have eq1 : some (false, Value.int (Int32.ofNat u + Int32.ofInt 1)) = some (false, .int (Int32.ofNat (u + 1))) := by rw [n32_s (by omega)]
    refine ⟨_, 100, hs, fun h => ?_, fun h => ⟨fun h2 => ?_, fun h2 => ?_⟩⟩
    · have h : (Int32.ofInt 6).toInt ≤ (Int32.ofNat u).toInt := h
      rw [e6, tu] at h
      have e : u = 6 := by omega
      subst e
      exact ⟨rfl, rfl⟩
    · have h : ¬ (Int32.ofInt 6).toInt ≤ (Int32.ofNat u).toInt := h
      have h2 : (Int32.ofNat 6).toInt ≤ (Int32.ofNat u).toInt := h2
      rw [e6, tu] at h
      rw [e6n, tu] at h2
      omega
    · have h : ¬ (Int32.ofInt 6).toInt ≤ (Int32.ofNat u).toInt := h
      rw [e6, tu] at h
      have u6 : u < 6 := by omega
      have hbit := zbt_c (x := iv (zF A' 324 1)) (e := u) (by omega)
      rw [htk] at hbit
      have hbit : (Int32.ofNat tk >>> (Int32.ofNat u &&& 31) &&& Int32.ofInt 1).toInt = if zbi (Int32.ofNat tk) u = true then 1 else 0 := hbit
      rw [n32_zbi (by omega)] at hbit
      have go : ∀ c : Nat, c = cst law tk T D (u + 1) → some (false, Value.int (Int32.ofNat c)) = some (false, .int (Int32.ofNat (cst law tk T D (u + 1)))) := fun c hc => by rw [hc]
      refine ⟨fun h3 => ?_, fun h3 => ?_⟩
      · have h3 : ¬ (iv (zF A' 324 1) >>> (Int32.ofNat u &&& 31) &&& Int32.ofInt 1).toInt = 0 := h3
        rw [htk] at h3
        have h3 : ¬ (Int32.ofNat tk >>> (Int32.ofNat u &&& 31) &&& Int32.ofInt 1).toInt = 0 := h3
        rw [hbit] at h3
        have hb : tk.testBit u = true := by
          cases hb : tk.testBit u with
          | true => rfl
          | false =>
            rw [hb, if_neg Bool.false_ne_true] at h3
            exact absurd rfl h3
        obtain ⟨d1, d2⟩ := hD u u6 hb
        obtain ⟨t1, t2⟩ := hT u u6
        have h8 := p8_le d2
        have ev : zI A' (rv_ (zrl A' 325 (Int32.ofNat u).toNatClampNeg)) (Int32.ofNat w).toNatClampNeg = Int32.ofNat (D u) := by
          rw [cu, cw, zrl_325 u6]
          exact d1
        have et : zI A' 194 (Int32.ofNat u).toNatClampNeg = Int32.ofNat (T u) := by
          rw [cu]
          exact t1
        have hm : T u * D u ≤ 9 * 8 := Nat.mul_le_mul t2 d2
        refine ⟨fun h4 => ⟨fun h5 => ?_, fun h5 => ?_⟩, fun h4 => ?_⟩
        · have h4 : ¬ (Int32.ofNat law).toInt = 0 := h4
          have h5 : ¬ (Int32.ofNat law).toInt = (Int32.ofInt 1).toInt := h5
          rw [tl] at h4 h5
          rw [e1] at h5
          refine ⟨u + 1, ⟨eq1, ?_, rfl, rfl, rfl, rfl, trivial⟩, rfl, rfl, (show u + 1 ≤ 6 by omega)⟩
          show some (false, Value.int (Int32.ofNat (cst law tk T D u) + (Int32.ofInt 1 <<< (Int32.ofInt 3 * zI A' (rv_ (zrl A' 325 (Int32.ofNat u).toNatClampNeg)) (Int32.ofNat w).toNatClampNeg &&& 31)))) = _
          rw [ev, n32_8p _ (by omega), n32_add (by omega)]
          refine go _ ?_
          show _ = if tk.testBit u = true then (if law = 0 then _ else if law = 1 then _ else cst law tk T D u + 8 ^ D u) else _
          rw [if_pos hb, if_neg (by omega), if_neg (by omega)]
        · have h4 : ¬ (Int32.ofNat law).toInt = 0 := h4
          have h5 : ¬ ¬ (Int32.ofNat law).toInt = (Int32.ofInt 1).toInt := h5
          rw [tl] at h4 h5
          rw [e1] at h5
          have c8 : cst law tk T D u < 2147483648 := by omega
          refine ⟨(Int32.ofNat (cst law tk T D u), Int32.ofNat (D u)), ?_, trivial, ?_⟩
          · show [Value.int (Int32.ofNat (cst law tk T D u)), .int (zI A' (rv_ (zrl A' 325 (Int32.ofNat u).toNatClampNeg)) (Int32.ofNat w).toNatClampNeg)] = _
            rw [ev]
          · refine ⟨u + 1, ⟨eq1, ?_, rfl, rfl, rfl, rfl, trivial⟩, rfl, rfl, (show u + 1 ≤ 6 by omega)⟩
            show some (false, Value.int (if (Int32.ofNat (cst law tk T D u)).toInt < (Int32.ofNat (D u)).toInt then Int32.ofNat (D u) else Int32.ofNat (cst law tk T D u))) = _
            rw [n32_big c8, n32_t (show D u < 4096 by omega)]
            have e2 : (if ((cst law tk T D u : Nat) : Int) < ((D u : Nat) : Int) then Int32.ofNat (D u) else Int32.ofNat (cst law tk T D u)) = Int32.ofNat (max (cst law tk T D u) (D u)) := by
              by_cases c : cst law tk T D u < D u
              · rw [if_pos (by omega), Nat.max_eq_right (by omega)]
              · rw [if_neg (by omega), Nat.max_eq_left (by omega)]
            rw [e2]
            refine go _ ?_
            show _ = if tk.testBit u = true then (if law = 0 then _ else if law = 1 then max (cst law tk T D u) (D u) else _) else _
            rw [if_pos hb, if_neg (by omega), if_pos (by omega)]
        · have h4 : ¬ ¬ (Int32.ofNat law).toInt = 0 := h4
          rw [tl] at h4
          refine ⟨u + 1, ⟨eq1, ?_, rfl, rfl, rfl, rfl, trivial⟩, rfl, rfl, (show u + 1 ≤ 6 by omega)⟩
          show some (false, Value.int (Int32.ofNat (cst law tk T D u) + zI A' 194 (Int32.ofNat u).toNatClampNeg * zI A' (rv_ (zrl A' 325 (Int32.ofNat u).toNatClampNeg)) (Int32.ofNat w).toNatClampNeg)) = _
          rw [ev, et, n32_mul _ (by omega) _ (by omega), n32_add (by omega)]
          refine go _ ?_
          show _ = if tk.testBit u = true then (if law = 0 then cst law tk T D u + T u * D u else _) else _
          rw [if_pos hb, if_pos (by omega)]
      · have h3 : ¬ ¬ (iv (zF A' 324 1) >>> (Int32.ofNat u &&& 31) &&& Int32.ofInt 1).toInt = 0 := h3
        rw [htk] at h3
        have h3 : ¬ ¬ (Int32.ofNat tk >>> (Int32.ofNat u &&& 31) &&& Int32.ofInt 1).toInt = 0 := h3
        rw [hbit] at h3
        have hb : ¬ tk.testBit u = true := fun z => by
          rw [z, if_pos rfl] at h3
          exact h3 (by decide)
        refine ⟨u + 1, ⟨eq1, go _ ?_, rfl, rfl, rfl, rfl, trivial⟩, rfl, rfl, (show u + 1 ≤ 6 by omega)⟩
        show _ = if tk.testBit u = true then _ else cst law tk T D u
        rw [if_neg hb]
  · obtain ⟨⟨w, law, tk⟩, D, T⟩ := a
    exact ⟨0, ⟨rfl, rfl, rfl, rfl, rfl, rfl, trivial⟩, rfl, rfl, Nat.zero_le _⟩
/-! the worlds that cost least -/
def dsC (A : zW) (V : Nat) (n : Int32) (w u : Nat) : Nat := spr (st9 A (srcC A V u n)) 8 w
def trT (A : zW) (u : Nat) : Nat := (zI A 194 u).toInt.toNat
def csC (A : zW) (V : Nat) (n : Int32) (law w : Nat) : Nat := cst law (vwN (tkC A V n) 6) (trT A) (dsC A V n w) 6
def trP (A : zW) : Prop := ∀ u, u < 6 → 1 ≤ (zI A 194 u).toInt ∧ (zI A 194 u).toInt ≤ 9
theorem tkC_w {A : zW} {V : Nat} {n : Int32} {u : Nat} (h : tkC A V n u = true) : ∃ w, w < 256 ∧ okC A (srcC A V u n) w = true := by
  unfold tkC at h
  rw [Bool.and_eq_true] at h
  exact exN_iff.mp h.2
theorem dsC_8 {A : zW} {V : Nat} {n : Int32} {u w : Nat} (h : tkC A V n u = true) (hw : w < 256) : dsC A V n w u ≤ 8 := by
  obtain ⟨w0, h0, h1⟩ := tkC_w h
  have h2 := spr_same (ok := okC A (srcC A V u n)) (f := fun w => if okC A (srcC A V u n) w = true then 0 else 99) (g := st9 A (srcC A V u n)) (fun _ => rfl) (fun _ => rfl) h0 h1 hw
  unfold dsC
  omega
theorem tk_bit {A : zW} {V : Nat} {n : Int32} {u : Nat} (hu : u < 6) : (vwN (tkC A V n) 6).testBit u = tkC A V n u := by
  rw [vwN_b, decide_eq_true hu, Bool.true_and]
theorem msR_ct {A A' : zW} {V w law : Nat} {n : Int32} (h : msR A n V A') (hT : trP A) (hw : w < 256) (hl : law < 3) : ctP w law (vwN (tkC A V n) 6) (dsC A V n w) (trT A) A' := by
  obtain ⟨g, h3, h1, hr⟩ := h
  refine ⟨hw, hl, h1, fun u hu hb => ?_, fun u hu => ?_⟩
  · rw [tk_bit hu] at hb
    exact ⟨hr u hu hb w hw, dsC_8 hb hw⟩
  · have h4 := hT u hu
    rw [g.2.1 194 u (by omega)]
    have e : zI A 194 u = Int32.ofNat (trT A u) := n32_of (by unfold trT; omega)
    exact ⟨e, by unfold trT; omega⟩
theorem csC_b {A : zW} {V law w : Nat} {n : Int32} (hT : trP A) (hw : w < 256) : csC A V n law w ≤ 6 * 16777216 := cst_le (fun u hu => by
  have h4 := hT u hu
  unfold trT
  omega) (fun u hu hb => by
  rw [tk_bit hu] at hb
  exact dsC_8 hb hw) (Nat.le_refl 6)
abbrev chT : Type := msA × Nat
def chP (a : chT) (A : zW) : Prop := msP a.1 A ∧ trP A ∧ a.2 < 3
def chQ (a : chT) (A A' : zW) : Prop := ∃ (A1 : zW) (f : Nat → Int64), msR A a.1.1 (msV a.1 A) A1 ∧ A' = zsJ A1 333 f ∧ ∀ x, x < 256 → bF f x = mnB (csC A (msV a.1 A) a.1.1 a.2) 256 x
def zq_chosen : zQ := zs (fun a : chT => [.ref 324, .int (Int32.ofNat a.2), .ref 193]) chP (fun a A rv A' => rv = some (.ref 332) ∧ chQ a A A')
def in_ch (A : zW) (V : Nat) (n : Int32) (law : Nat) : fL_ → List Value → zW → Prop := fun lg vs A' => ∃ (w : Nat) (least : Int32) (A1 : zW) (f : Nat → Int64), f_sub [(4, false, .int (Int32.ofNat w)), (3, false, .int least), (0, false, .ref 324), (1, false, .int (Int32.ofNat law)), (2, false, .ref 193)] lg ∧ vs = [] ∧ A' = zsJ A1 333 f ∧ msR A n V A1 ∧ w ≤ 256 ∧ ((w = 0 ∧ least = Int32.ofInt 2147483647) ∨ ∃ b, lsP (csC A V n law) w b ∧ least = Int32.ofNat (csC A V n law b)) ∧ ∀ x, x < 256 → bF f x = mnB (csC A V n law) w x
theorem zB_332 : zB 332 4 = true := by decide +kernel
theorem bF_fi {f : Nat → Int64} {x : Nat} (hx : x < 256) : bF (fun y => if y < 4 then Int64.ofNat 0 else f y) x = false := by
  show (if x / 64 < 4 then Int64.ofNat 0 else f (x / 64)).toBitVec.getLsbD (x % 64) = false
  rw [if_pos (by omega)]
  exact l_zero.mp rfl _ (Nat.mod_lt _ (by decide))
set_option maxRecDepth 20000 in
set_option maxHeartbeats 16000000 in
theorem zc_X6_chosen : zdo r_X6_chosen zq_chosen := by
  refine zdo_of _ _ _ [(163, 2, zq_min), (177, 2, zq_msettle), (198, 1, zq_clear), (219, 4, zq_costOf), (231, 2, zq_add)] (fun a A => [(18, in_ch A (msV a.1 A) a.1.1 a.2)]) 120 fo_X6 rfl (zs_cons rfl za_J9_min (zs_cons rfl zc_X6_settle (zs_cons rfl za_X1_clear (zs_cons rfl zc_X6_costOf (zs_cons rfl za_X1_add zs_nil))))) k_X6_chosen (fun a A hp => ?_) (fun a A hp => ?_)
  · obtain ⟨⟨n, t, k, sv⟩, law⟩ := a
    obtain ⟨hm, hT, hl⟩ := hp
    have hl : law < 3 := hl
    show ∀ x ∈ [(18, in_ch A (msV (n, t, k, sv) A) n law)], _
    obtain ⟨V, hV⟩ : ∃ V, V = msV (n, t, k, sv) A := ⟨_, rfl⟩
    have out : ∀ (A' A1 : zW) (f : Nat → Int64), msR A n V A1 → A' = zsJ A1 333 f → (∀ x, x < 256 → bF f x = mnB (csC A V n law) 256 x) → chQ ((n, t, k, sv), law) A A' := fun A' A1 f h1 h2 h3 => by
      rw [hV] at h1 h3
      exact ⟨A1, f, h1, h2, h3⟩
    rw [← hV]
    refine List.forall_mem_cons.mpr ⟨?_, fun _ h => absurd h List.not_mem_nil⟩
    rintro lg vs A' ⟨w, least, A1, f, hs, rfl, eA, hR, hw, hle, hf⟩
    have hw : w ≤ 256 := hw
    have tw := n32_t (show w < 4096 by omega)
    have eq1 : some (false, Value.int (Int32.ofNat w + Int32.ofInt 1)) = some (false, .int (Int32.ofNat (w + 1))) := by rw [n32_s (by omega)]
    refine ⟨_, 120, hs, fun h => ?_, fun h => ?_⟩
    · have h : (Int32.ofInt 256).toInt ≤ (Int32.ofNat w).toInt := h
      rw [e256, tw] at h
      have e : w = 256 := by omega
      subst e
      exact ⟨rfl, out A' A1 f hR eA hf⟩
    · have h : ¬ (Int32.ofInt 256).toInt ≤ (Int32.ofNat w).toInt := h
      rw [e256, tw] at h
      have w2 : w < 256 := by omega
      have hct := msR_ct (law := law) hR hT w2 hl
      have cb := csC_b (V := V) (law := law) (n := n) hT w2
      have tc := n32_big (show csC A V n law w < 2147483648 by omega)
      have emax : (Int32.ofInt 2147483647).toInt = 2147483647 := by decide
      have addc : ∀ (f0 : Nat → Int64) (A0 : zW), A0 = zsJ A1 333 f0 → zad A0 332 w = zsJ A1 333 (addF f0 w) := fun f0 A0 e0 => by
        rw [e0]
        exact zad_q (q := 332)
      refine ⟨((w, law, vwN (tkC A V n) 6), dsC A V n w, trT A), rfl, ?_, ?_⟩
      · rw [eA]
        exact hct
      · refine ⟨fun h2 => ?_, fun h2 => ?_⟩
        · -- not less than the least
          have h2 : least.toInt ≤ (Int32.ofNat (csC A V n law w)).toInt := h2
          rw [tc] at h2
          rcases hle with ⟨e0, el⟩ | ⟨b, hb, el⟩
          · rw [el, emax] at h2
            omega
          · have cbb := csC_b (V := V) (law := law) (n := n) (w := b) hT (by have := hb.1; omega)
            have tb := n32_big (show csC A V n law b < 2147483648 by omega)
            rw [el, tb] at h2
            have h2 : csC A V n law b ≤ csC A V n law w := by omega
            have emin : (if (Int32.ofNat (csC A V n law b)).toInt ≤ (Int32.ofNat (csC A V n law w)).toInt then Int32.ofNat (csC A V n law b) else Int32.ofNat (csC A V n law w)) = Int32.ofNat (csC A V n law b) := by
              rw [tb, tc, if_pos (by omega)]
            refine ⟨(least, Int32.ofNat (csC A V n law w)), rfl, trivial, fun h3 => ?_, fun h3 => ?_⟩
            · have h3 : ¬ (Int32.ofNat (csC A V n law w)).toInt = (if least.toInt ≤ (Int32.ofNat (csC A V n law w)).toInt then least else Int32.ofNat (csC A V n law w)).toInt := h3
              rw [el, emin, tc, tb] at h3
              refine ⟨w + 1, _, A1, f, ⟨eq1, rfl, rfl, rfl, rfl, trivial⟩, rfl, eA, hR, (show w + 1 ≤ 256 by omega), Or.inr ⟨b, lsP_keep hb h2, ?_⟩, fun x hx => ?_⟩
              · rw [el]
                exact emin
              · rw [hf x hx, mnB_more hb.1 (show csC A V n law b < csC A V n law w by omega)]
            · have h3 : ¬ ¬ (Int32.ofNat (csC A V n law w)).toInt = (if least.toInt ≤ (Int32.ofNat (csC A V n law w)).toInt then least else Int32.ofNat (csC A V n law w)).toInt := h3
              rw [el, emin, tc, tb] at h3
              refine ⟨(332, 4, w), rfl, ⟨zB_332, (show w / 64 < 4 by omega), (show w < 4096 by omega)⟩, ?_⟩
              refine ⟨w + 1, _, A1, addF f w, ⟨eq1, rfl, rfl, rfl, rfl, trivial⟩, rfl, addc f A' eA, hR, (show w + 1 ≤ 256 by omega), Or.inr ⟨b, lsP_keep hb h2, ?_⟩, fun x hx => ?_⟩
              · rw [el]
                exact emin
              · rw [addF_b, hf x hx, mnB_same hb.1 hb.2 (by omega)]
        · -- less than all before
          have h2 : ¬ least.toInt ≤ (Int32.ofNat (csC A V n law w)).toInt := h2
          rw [tc] at h2
          have hls : ∀ y, y < w → csC A V n law w < csC A V n law y := fun y hy => by
            rcases hle with ⟨e0, -⟩ | ⟨b, hb, el⟩
            · omega
            · have cbb := csC_b (V := V) (law := law) (n := n) (w := b) hT (by have := hb.1; omega)
              have tb := n32_big (show csC A V n law b < 2147483648 by omega)
              rw [el, tb] at h2
              have := hb.2 y hy
              omega
          have emin : (if least.toInt ≤ (Int32.ofNat (csC A V n law w)).toInt then least else Int32.ofNat (csC A V n law w)) = Int32.ofNat (csC A V n law w) := by
            rw [tc, if_neg h2]
          refine ⟨(332, 4), rfl, ⟨zB_332, (by decide : 4 ≤ 64)⟩, ?_⟩
          refine ⟨(least, Int32.ofNat (csC A V n law w)), rfl, trivial, fun h3 => ?_, fun h3 => ?_⟩
          · have h3 : ¬ (Int32.ofNat (csC A V n law w)).toInt = (if least.toInt ≤ (Int32.ofNat (csC A V n law w)).toInt then least else Int32.ofNat (csC A V n law w)).toInt := h3
            rw [emin] at h3
            exact absurd rfl h3
          · refine ⟨(332, 4, w), rfl, ⟨zB_332, (show w / 64 < 4 by omega), (show w < 4096 by omega)⟩, ?_⟩
            refine ⟨w + 1, _, A1, addF (fun y => if y < 4 then Int64.ofNat 0 else f y) w, ⟨eq1, rfl, rfl, rfl, rfl, trivial⟩, rfl, addc _ _ ?_, hR, (show w + 1 ≤ 256 by omega), Or.inr ⟨w, lsP_less hls, emin⟩, fun x hx => ?_⟩
            · rw [eA]
              show zsJ (zsJ A1 333 f) 333 (fun x => if x < 4 then Int64.ofNat 0 else zJ (zsJ A1 333 f) 333 x) = _
              rw [zsJ_zsJ, zJ_s]
            · rw [addF_b, bF_fi hx, mnB_less hls]
  · obtain ⟨⟨n, t, k, sv⟩, law⟩ := a
    obtain ⟨hm, hT, hl⟩ := hp
    refine ⟨(n, t, k, sv), rfl, hm, ?_⟩
    rintro rv A1 ⟨rfl, hR⟩
    refine ⟨(332, 4), rfl, ⟨zB_332, (by decide : 4 ≤ 64)⟩, ?_⟩
    refine ⟨0, Int32.ofInt 2147483647, A1, _, ⟨rfl, rfl, rfl, rfl, rfl, trivial⟩, rfl, rfl, hR, Nat.zero_le _, Or.inl ⟨rfl, rfl⟩, fun x hx => ?_⟩
    rw [mnB_0]
    exact bF_fi hx
