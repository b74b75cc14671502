/-! merging, the reference: a world's row, rows compared -/
def rowN (A : zW) (n : Nat) (R : Nat → Nat) : zW := zsI A 376 (fun x => if x < n then Int32.ofNat (R x) else zI A 376 x)
section
variable {A : zW} {n : Nat} {R R' : Nat → Nat}
theorem rowN_at {x : Nat} (hx : x < n) : zI (rowN A n R) 376 x = Int32.ofNat (R x) := by
  unfold rowN
  rw [zsI_at, if_pos hx]
theorem rowN_eq (h : ∀ x, x < n → R x = R' x) : rowN A n R = rowN A n R' := by
  have e : (fun x => if x < n then Int32.ofNat (R x) else zI A 376 x) = (fun x => if x < n then Int32.ofNat (R' x) else zI A 376 x) := funext (fun x => by
    by_cases c : x < n
    · rw [if_pos c, if_pos c, h x c]
    · rw [if_neg c, if_neg c])
  unfold rowN
  rw [e]
theorem rowN_u {i v : Nat} (hi : i < n) : zuI (rowN A n R) 376 i (Int32.ofNat v) = rowN A n (fun x => if x = i then v else R x) := zuI_zsI (fun x => by
  by_cases e : x = i
  · subst e
    rw [if_pos hi, if_pos rfl]
    show Int32.ofNat (if x = x then v else R x) = _
    rw [if_pos rfl]
  · by_cases c : x < n
    · rw [if_pos c, if_neg e, if_pos c]
      show Int32.ofNat (if x = i then v else R x) = _
      rw [if_neg e]
    · rw [if_neg c, if_neg e, if_neg c])
theorem rowN_s : zuI (rowN A n R) 376 n (Int32.ofNat (R n)) = rowN A (n + 1) R := zuI_zsI (fun x => by
  by_cases e : x = n
  · subst e
    rw [if_pos (Nat.lt_succ_self x), if_pos rfl]
  · by_cases c : x < n
    · rw [if_pos (by omega), if_neg e, if_pos c]
    · rw [if_neg (by omega), if_neg e, if_neg c])
theorem rowN_0 : rowN A 0 R = A := zsI_self (fun x => if_neg (Nat.not_lt_zero x))
end
/-- what a row is, after u sources -/
def rwOK (law tk : Nat) (T D : Nat → Nat) (u : Nat) (R : Nat → Nat) : Prop := (∀ k, k < 6 → R k ≤ 100663296) ∧ (law ≠ 2 → R 0 = cst law tk T D u ∧ ∀ k, 1 ≤ k → k < 6 → R k = 0) ∧ (law = 2 → (∀ i j, i ≤ j → j < cN (fun i => tk.testBit i) u → R j ≤ R i) ∧ (∀ k, cN (fun i => tk.testBit i) u ≤ k → k < 6 → R k = 0) ∧ sm R (cN (fun i => tk.testBit i) u) = cst law tk T D u)
def cmpR (R B : Nat → Nat) (v : Int32) : Prop := (v = 0 ∧ ∀ k, k < 6 → R k = B k) ∨ (v = -1 ∧ ∃ k, k < 6 ∧ (∀ j, j < k → R j = B j) ∧ R k < B k) ∨ (v = 1 ∧ ∃ k, k < 6 ∧ (∀ j, j < k → R j = B j) ∧ B k < R k)
theorem rw_lt {law tk : Nat} {T D D' R R' : Nat → Nat} (h : rwOK law tk T D 6 R) (h' : rwOK law tk T D' 6 R') {k : Nat} (hk : k < 6) (he : ∀ j, j < k → R j = R' j) (hlt : R k < R' k) : cst law tk T D 6 < cst law tk T D' 6 := by
  by_cases c : law = 2
  · obtain ⟨a1, a2, a3⟩ := h.2.2 c
    obtain ⟨b1, b2, b3⟩ := h'.2.2 c
    have hn : cN (fun i => tk.testBit i) 6 ≤ 6 := cN_le
    have hkn : k < cN (fun i => tk.testBit i) 6 := Nat.lt_of_not_le (fun z => by
      rw [a2 k z hk, b2 k z hk] at hlt
      exact absurd hlt (Nat.lt_irrefl 0))
    rw [← a3, ← b3]
    exact sm_lt hn hkn he hlt (fun j h1 h2 => a1 k j h1 h2)
  · obtain ⟨a1, a2⟩ := h.2.1 c
    obtain ⟨b1, b2⟩ := h'.2.1 c
    have e : k = 0 := by
      refine Classical.byContradiction (fun z => ?_)
      rw [a2 k (by omega) hk, b2 k (by omega) hk] at hlt
      exact absurd hlt (Nat.lt_irrefl 0)
    subst e
    rw [← a1, ← b1]
    exact hlt
theorem rw_eq {law tk : Nat} {T D D' R R' : Nat → Nat} (h : rwOK law tk T D 6 R) (h' : rwOK law tk T D' 6 R') (he : ∀ k, k < 6 → R k = R' k) : cst law tk T D 6 = cst law tk T D' 6 := by
  by_cases c : law = 2
  · obtain ⟨a1, a2, a3⟩ := h.2.2 c
    obtain ⟨b1, b2, b3⟩ := h'.2.2 c
    have hn : cN (fun i => tk.testBit i) 6 ≤ 6 := cN_le
    rw [← a3, ← b3]
    exact sm_eq (fun k hk => he k (by omega))
  · rw [← (h.2.1 c).1, ← (h'.2.1 c).1]
    exact he 0 (by decide)
/-- a number on its way to where it belongs -/
def shF (R : Nat → Nat) (n a k : Nat) : Nat := if k ≤ a then R k else if k ≤ n then R (k - 1) else 0
abbrev lrA : Type := (Nat × Nat × Nat) × (Nat → Nat) × (Nat → Nat)
def lrP (a : lrA) (A : zW) : Prop := a.1.1 < 256 ∧ a.1.2.1 < 3 ∧ zF A 343 56 = .int (Int32.ofNat a.1.2.2) ∧ (∀ u, u < 6 → a.1.2.2.testBit u = true → zI A 375 (256 * u + a.1.1) = Int32.ofNat (a.2.1 u) ∧ a.2.1 u ≤ 8) ∧ ∀ u, u < 6 → zI A 345 u = Int32.ofNat (a.2.2 u) ∧ a.2.2 u ≤ 9
def zq_layRow : zQ := zs (fun a : lrA => [.ref 343, .int (Int32.ofNat a.1.1), .int (Int32.ofNat a.1.2.1)]) lrP (fun a A rv A' => rv = none ∧ ∃ R, A' = rowN A 6 R ∧ rwOK a.1.2.1 a.1.2.2 a.2.2 a.2.1 6 R)
def in_lr2 (A : zW) (w law : Nat) : fL_ → List Value → zW → Prop := fun lg vs A' => ∃ k : Nat, f_sub [(3, false, .int (Int32.ofNat k)), (0, false, .ref 343), (1, false, .int (Int32.ofNat w)), (2, false, .int (Int32.ofNat law))] lg ∧ vs = [] ∧ k ≤ 6 ∧ A' = rowN A k (fun _ => 0)
def in_lr26 (A : zW) (w law tk : Nat) (D T : Nat → Nat) : fL_ → List Value → zW → Prop := fun lg vs A' => ∃ (u n : Nat) (R : Nat → Nat), f_sub [(4, false, .int (Int32.ofNat u)), (3, false, .int (Int32.ofNat n)), (0, false, .ref 343), (1, false, .int (Int32.ofNat w)), (2, false, .int (Int32.ofNat law))] lg ∧ vs = [] ∧ u ≤ 6 ∧ (law = 2 → n = cN (fun i => tk.testBit i) u) ∧ n ≤ 6 ∧ A' = rowN A 6 R ∧ rwOK law tk T D u R
def in_lr126 (A : zW) (w law tk : Nat) (D T : Nat → Nat) : fL_ → List Value → zW → Prop := fun lg vs A' => ∃ (u at_ : Nat) (R : Nat → Nat), f_sub [(6, false, .int (Int32.ofNat at_)), (5, false, .int (Int32.ofNat (D u))), (4, false, .int (Int32.ofNat u)), (3, false, .int (Int32.ofNat (cN (fun i => tk.testBit i) u))), (0, false, .ref 343), (1, false, .int (Int32.ofNat w)), (2, false, .int (Int32.ofNat law))] lg ∧ vs = [] ∧ (u < 6 ∧ law = 2 ∧ tk.testBit u = true) ∧ at_ ≤ cN (fun i => tk.testBit i) u ∧ (∀ k, at_ < k → k ≤ cN (fun i => tk.testBit i) u → R (k - 1) < D u) ∧ A' = rowN A 6 (shF R (cN (fun i => tk.testBit i) u) at_) ∧ rwOK law tk T D u R
theorem cN_tk {tk u : Nat} (h : tk.testBit u = true) : cN (fun i => tk.testBit i) (u + 1) = cN (fun i => tk.testBit i) u + 1 := by
  show cN (fun i => tk.testBit i) u + (if tk.testBit u = true then 1 else 0) = _
  rw [if_pos h]
theorem cN_tn {tk u : Nat} (h : ¬ tk.testBit u = true) : cN (fun i => tk.testBit i) (u + 1) = cN (fun i => tk.testBit i) u := by
  show cN (fun i => tk.testBit i) u + (if tk.testBit u = true then 1 else 0) = _
  rw [if_neg h]
  rfl
theorem cst_n {law tk u : Nat} {T D : Nat → Nat} (h : ¬ tk.testBit u = true) : cst law tk T D (u + 1) = cst law tk T D u := if_neg h
theorem cst_y {law tk u : Nat} {T D : Nat → Nat} (h : tk.testBit u = true) : cst law tk T D (u + 1) = if law = 0 then cst law tk T D u + T u * D u else if law = 1 then max (cst law tk T D u) (D u) else cst law tk T D u + 8 ^ D u := if_pos h
/-- a row whose source takes no part -/
theorem rwOK_n {law tk u : Nat} {T D R : Nat → Nat} (h : rwOK law tk T D u R) (hb : ¬ tk.testBit u = true) : rwOK law tk T D (u + 1) R := by
  unfold rwOK
  rw [cN_tn hb, cst_n hb]
  exact h
/-- a row of one number -/
theorem rwOK_1 {law tk u c : Nat} {T D R : Nat → Nat} (h : rwOK law tk T D u R) (hl : law ≠ 2) (hc : c = cst law tk T D (u + 1)) (hb : c ≤ 100663296) : rwOK law tk T D (u + 1) (fun x => if x = 0 then c else R x) := by
  refine ⟨fun k hk => ?_, fun _ => ⟨?_, fun k h1 h2 => ?_⟩, fun z => absurd z hl⟩
  · show (if k = 0 then c else R k) ≤ _
    split
    · exact hb
    · exact h.1 k hk
  · show (if (0 : Nat) = 0 then c else R 0) = _
    rw [if_pos rfl, hc]
  · show (if k = 0 then c else R k) = 0
    rw [if_neg (by omega)]
    exact (h.2.1 hl).2 k h1 h2
/-- a sorted row with one number more -/
theorem rwOK_2 {tk u a : Nat} {T D R : Nat → Nat} (h : rwOK 2 tk T D u R) (hu : u < 6) (hb : tk.testBit u = true) (hD : D u ≤ 8) (ha : a ≤ cN (fun i => tk.testBit i) u) (h1 : a = 0 ∨ D u ≤ R (a - 1)) (h2 : ∀ k, a < k → k ≤ cN (fun i => tk.testBit i) u → R (k - 1) < D u) : rwOK 2 tk T D (u + 1) (insF R a (D u)) := by
  obtain ⟨r0, -, r2⟩ := h
  obtain ⟨d1, d2, d3⟩ := r2 rfl
  have hn : cN (fun i => tk.testBit i) u ≤ u := cN_le
  refine ⟨fun k hk => ?_, fun z => absurd rfl z, fun _ => ?_⟩
  · unfold insF
    split
    · exact r0 k hk
    · split
      · omega
      · exact r0 (k - 1) (by omega)
  · rw [cN_tk hb, cst_y hb, if_neg (by decide), if_neg (by decide)]
    refine ⟨ins_d d1 ha h1 (fun k a1 a2 => Nat.le_of_lt (h2 k a1 a2)), fun k a1 a2 => ?_, ?_⟩
    · unfold insF
      rw [if_neg (by omega), if_neg (by omega)]
      exact d2 (k - 1) (by omega) (by omega)
    · rw [sm_ins ha, d3]
theorem n32_m1s {a : Nat} (h1 : 1 ≤ a) (h2 : a < 4096) : Int32.ofNat a + Int32.ofInt (-1) = Int32.ofNat (a - 1) := by
  have e1 : (Int32.ofInt (-1)).toInt = -1 := by decide
  refine Int32.toInt_inj.mp ?_
  rw [i_add (by rw [e1, n32_t h2]; omega) (by rw [e1, n32_t h2]; omega), e1, n32_t h2, n32_t (show a - 1 < 4096 by omega)]
  omega
set_option maxRecDepth 20000 in
set_option maxHeartbeats 32000000 in
theorem zc_X12_layRow : zdo r_X12_layRow zq_layRow := by
  refine zdo_of _ _ _ [(475, 2, zq_hasBit)] (fun a A => [(2, in_lr2 A a.1.1 a.1.2.1), (26, in_lr26 A a.1.1 a.1.2.1 a.1.2.2 a.2.1 a.2.2), (126, in_lr126 A a.1.1 a.1.2.1 a.1.2.2 a.2.1 a.2.2)]) 120 fo_X12 rfl (zs_cons rfl za_X12_hasBit zs_nil) k_X12_layRow (fun a A hp => ?_) (fun a A hp => ?_)
  · obtain ⟨⟨w, law, tk⟩, D, T⟩ := a
    obtain ⟨hw, hl, htk, hD, hT⟩ := hp
    have hw : w < 256 := hw
    have hl : law < 3 := hl
    have htk : zF A 343 56 = .int (Int32.ofNat tk) := htk
    have hD : ∀ u, u < 6 → tk.testBit u = true → zI A 375 (256 * u + w) = Int32.ofNat (D u) ∧ D u ≤ 8 := hD
    have hT : ∀ u, u < 6 → zI A 345 u = Int32.ofNat (T u) ∧ T u ≤ 9 := hT
    have tl := n32_t (show law < 4096 by (try dsimp only); omega)
    have e6 : (Int32.ofInt 6).toInt = 6 := by decide
    have e1 : (Int32.ofInt 1).toInt = 1 := by decide
    have c0 : (Int32.ofInt 0).toNatClampNeg = 0 := by decide
    refine List.forall_mem_cons.mpr ⟨?_, List.forall_mem_cons.mpr ⟨?_, List.forall_mem_cons.mpr ⟨?_, fun _ h => absurd h List.not_mem_nil⟩⟩⟩
    · rintro lg vs A' ⟨k, hs, rfl, hk, eA⟩
      have hk : k ≤ 6 := hk
      have tk2 := n32_t (show k < 4096 by (try dsimp only); omega)
      refine ⟨_, 60, hs, fun h => ?_, fun h => ?_⟩
      · have h : (Int32.ofInt 6).toInt ≤ (Int32.ofNat k).toInt := h
        rw [e6, tk2] at h
        have e : k = 6 := by (try dsimp only); omega
        subst e
        refine ⟨0, 0, fun _ => 0, ⟨rfl, rfl, rfl, rfl, rfl, trivial⟩, rfl, Nat.zero_le _, fun _ => rfl, Nat.zero_le _, eA, ⟨fun _ _ => Nat.zero_le _, fun _ => ⟨rfl, fun _ _ _ => rfl⟩, fun _ => ⟨fun _ _ _ _ => Nat.le_refl _, fun _ _ _ => rfl, rfl⟩⟩⟩
      · have h : ¬ (Int32.ofInt 6).toInt ≤ (Int32.ofNat k).toInt := h
        rw [e6, tk2] at h
        refine ⟨k + 1, ⟨?_, rfl, rfl, rfl, trivial⟩, rfl, (show k + 1 ≤ 6 by (try dsimp only); omega), ?_⟩
        · show some (false, Value.int (Int32.ofNat k + Int32.ofInt 1)) = some (false, .int (Int32.ofNat (k + 1)))
          rw [n32_s (by (try dsimp only); omega)]
        · show zuI A' 376 (Int32.ofNat k).toNatClampNeg (Int32.ofInt 0) = _
          rw [n32_c (by (try dsimp only); omega), eA]
          exact rowN_s (R := fun _ => 0)
    · rintro lg vs A' ⟨u, n, R, hs, rfl, hu, hn, hn6, eA, hR⟩
      have hR : rwOK law tk T D u R := hR
      have hu : u ≤ 6 := hu
      have hn6 : n ≤ 6 := hn6
      have hn : law = 2 → n = cN (fun i => tk.testBit i) u := hn
      have tu := n32_t (show u < 4096 by (try dsimp only); omega)
      have cu := n32_c (show u < 4096 by (try dsimp only); omega)
      have eq1 : some (false, Value.int (Int32.ofNat u + Int32.ofInt 1)) = some (false, .int (Int32.ofNat (u + 1))) := by rw [n32_s (by (try dsimp only); omega)]
      have bnd := cst_le (law := law) (tk := tk) (T := T) (D := D) (fun x hx => (hT x hx).2) (fun x hx hb => (hD x hx hb).2) hu
      refine ⟨_, 120, hs, fun h => ?_, fun h => ?_⟩
      · have h : (Int32.ofInt 6).toInt ≤ (Int32.ofNat u).toInt := h
        rw [e6, tu] at h
        have e : u = 6 := by (try dsimp only); omega
        subst e
        exact ⟨rfl, R, eA, hR⟩
      · have h : ¬ (Int32.ofInt 6).toInt ≤ (Int32.ofNat u).toInt := h
        rw [e6, tu] at h
        have u6 : u < 6 := by (try dsimp only); omega
        have hn5 : law = 2 → n ≤ u := fun z => by
          rw [hn z]
          exact cN_le
        have f56 : zF A' 343 56 = .int (Int32.ofNat tk) := by
          rw [eA]
          exact htk
        have eb : hbB (iv (zF A' 343 56)).toInt64 (Int32.ofNat u) = tk.testBit u := by
          rw [f56]
          show hbB (Int32.ofNat tk).toInt64 (Int32.ofNat u) = _
          rw [zbt_m (by (try dsimp only); omega), n32_zbi (by (try dsimp only); omega)]
        refine ⟨((iv (zF A' 343 56)).toInt64, Int32.ofNat u), rfl, trivial, fun h2 => ?_, fun h2 => ?_⟩
        · have h2 : (zb (hbB (iv (zF A' 343 56)).toInt64 (Int32.ofNat u))).toInt = 0 := h2
          rw [eb] at h2
          have hb : ¬ tk.testBit u = true := fun z => by
            rw [zb_f h2] at z
            cases z
          exact ⟨u + 1, n, R, ⟨eq1, rfl, rfl, rfl, rfl, trivial⟩, rfl, (show u + 1 ≤ 6 by (try dsimp only); omega), fun z => by rw [cN_tn hb]; exact hn z, hn6, eA, rwOK_n hR hb⟩
        · have h2 : ¬ (zb (hbB (iv (zF A' 343 56)).toInt64 (Int32.ofNat u))).toInt = 0 := h2
          rw [eb] at h2
          have hb := zb_t h2
          obtain ⟨d1, d2⟩ := hD u u6 hb
          obtain ⟨t1, t2⟩ := hT u u6
          have h8 := p8_le d2
          have hm : T u * D u ≤ 9 * 8 := Nat.mul_le_mul t2 d2
          have ev : zI A' 375 (Int32.ofInt 256 * Int32.ofNat u + Int32.ofNat w).toNatClampNeg = Int32.ofNat (D u) := by
            rw [n32_m256 u6 hw, eA]
            exact (zsI_ne (by decide)).trans d1
          have et : zI A' 345 (Int32.ofNat u).toNatClampNeg = Int32.ofNat (T u) := by
            rw [cu, eA]
            exact (zsI_ne (by decide)).trans t1
          have e0 : zI A' 376 (Int32.ofInt 0).toNatClampNeg = Int32.ofNat (R 0) := by
            rw [c0, eA]
            exact rowN_at (by decide)
          refine ⟨fun h3 => ⟨fun h4 => ?_, fun h4 => ⟨fun h5 => ?_, fun h5 => ?_⟩⟩, fun h3 => ?_⟩
          · have h3 : ¬ (Int32.ofNat law).toInt = 0 := h3
            have h4 : ¬ (Int32.ofNat law).toInt = (Int32.ofInt 1).toInt := h4
            rw [tl] at h3 h4
            rw [e1] at h4
            have l2 : law = 2 := by (try dsimp only); omega
            have en := hn l2
            refine ⟨u, n, R, ⟨?_, ?_, rfl, ?_, rfl, rfl, rfl, trivial⟩, rfl, ⟨u6, l2, hb⟩, ?_, fun k k1 k2 => ?_, ?_, hR⟩
            · rfl
            · show some (false, Value.int (zI A' 375 (Int32.ofInt 256 * Int32.ofNat u + Int32.ofNat w).toNatClampNeg)) = _
              rw [ev]
            · rw [en]
              rfl
            · show n ≤ cN (fun i => tk.testBit i) u
              (try dsimp only); omega
            · have k2 : k ≤ cN (fun i => tk.testBit i) u := k2
              (try dsimp only); omega
            · rw [eA]
              refine rowN_eq (fun x hx => ?_)
              obtain ⟨-, z2, -⟩ := hR.2.2 l2
              show R x = shF R (cN (fun i => tk.testBit i) u) n x
              unfold shF
              by_cases c : x ≤ n
              · rw [if_pos c]
              · rw [if_neg c, if_neg (by (try dsimp only); omega)]
                exact z2 x (by (try dsimp only); omega) hx
          · have h3 : ¬ (Int32.ofNat law).toInt = 0 := h3
            have h4 : ¬ ¬ (Int32.ofNat law).toInt = (Int32.ofInt 1).toInt := h4
            have h5 : (zI A' 375 (Int32.ofInt 256 * Int32.ofNat u + Int32.ofNat w).toNatClampNeg).toInt ≤ (zI A' 376 (Int32.ofInt 0).toNatClampNeg).toInt := h5
            rw [tl] at h3 h4
            rw [e1] at h4
            have l1 : law = 1 := by (try dsimp only); omega
            have r0 := (hR.2.1 (by (try dsimp only); omega)).1
            rw [ev, e0, n32_t (show D u < 4096 by (try dsimp only); omega), n32_big (show R 0 < 2147483648 by (try dsimp only); omega)] at h5
            refine ⟨u + 1, n, fun x => if x = 0 then R 0 else R x, ⟨eq1, rfl, rfl, rfl, rfl, trivial⟩, rfl, (show u + 1 ≤ 6 by (try dsimp only); omega), fun z => absurd (show law = 2 from z) (by omega), hn6, ?_, rwOK_1 hR (by (try dsimp only); omega) ?_ (by (try dsimp only); omega)⟩
            · show zuI A' 376 (Int32.ofInt 0).toNatClampNeg (zI A' 376 (Int32.ofInt 0).toNatClampNeg) = _
              rw [e0, c0, eA]
              exact rowN_u (by decide)
            · rw [cst_y hb, if_neg (by (try dsimp only); omega), if_pos l1, ← r0, Nat.max_eq_left (by (try dsimp only); omega)]
          · have h3 : ¬ (Int32.ofNat law).toInt = 0 := h3
            have h4 : ¬ ¬ (Int32.ofNat law).toInt = (Int32.ofInt 1).toInt := h4
            have h5 : ¬ (zI A' 375 (Int32.ofInt 256 * Int32.ofNat u + Int32.ofNat w).toNatClampNeg).toInt ≤ (zI A' 376 (Int32.ofInt 0).toNatClampNeg).toInt := h5
            rw [tl] at h3 h4
            rw [e1] at h4
            have l1 : law = 1 := by (try dsimp only); omega
            have r0 := (hR.2.1 (by (try dsimp only); omega)).1
            rw [ev, e0, n32_t (show D u < 4096 by (try dsimp only); omega), n32_big (show R 0 < 2147483648 by (try dsimp only); omega)] at h5
            refine ⟨u + 1, n, fun x => if x = 0 then D u else R x, ⟨eq1, rfl, rfl, rfl, rfl, trivial⟩, rfl, (show u + 1 ≤ 6 by (try dsimp only); omega), fun z => absurd (show law = 2 from z) (by omega), hn6, ?_, rwOK_1 hR (by (try dsimp only); omega) ?_ (by (try dsimp only); omega)⟩
            · show zuI A' 376 (Int32.ofInt 0).toNatClampNeg (zI A' 375 (Int32.ofInt 256 * Int32.ofNat u + Int32.ofNat w).toNatClampNeg) = _
              rw [ev, c0, eA]
              exact rowN_u (by decide)
            · rw [cst_y hb, if_neg (by (try dsimp only); omega), if_pos l1, ← r0, Nat.max_eq_right (by (try dsimp only); omega)]
          · have h3 : ¬ ¬ (Int32.ofNat law).toInt = 0 := h3
            rw [tl] at h3
            have l0 : law = 0 := by (try dsimp only); omega
            have r0 := (hR.2.1 (by (try dsimp only); omega)).1
            refine ⟨u + 1, n, fun x => if x = 0 then R 0 + T u * D u else R x, ⟨eq1, rfl, rfl, rfl, rfl, trivial⟩, rfl, (show u + 1 ≤ 6 by (try dsimp only); omega), fun z => absurd (show law = 2 from z) (by omega), hn6, ?_, rwOK_1 hR (by (try dsimp only); omega) ?_ (by (try dsimp only); omega)⟩
            · show zuI A' 376 (Int32.ofInt 0).toNatClampNeg (zI A' 376 (Int32.ofInt 0).toNatClampNeg + zI A' 345 (Int32.ofNat u).toNatClampNeg * zI A' 375 (Int32.ofInt 256 * Int32.ofNat u + Int32.ofNat w).toNatClampNeg) = _
              rw [ev, et, e0, n32_mul _ (by (try dsimp only); omega) _ (by (try dsimp only); omega), n32_add (by (try dsimp only); omega), c0, eA]
              exact rowN_u (by decide)
            · rw [cst_y hb, if_pos l0, ← r0]
    · rintro lg vs A' ⟨u, a, R, hs, rfl, ⟨hu, l2, hb⟩, ha, hk, eA, hR⟩
      have hu : u < 6 := hu
      have ha : a ≤ cN (fun i => tk.testBit i) u := ha
      have hnu : cN (fun i => tk.testBit i) u ≤ u := cN_le
      have ta := n32_t (show a < 4096 by (try dsimp only); omega)
      obtain ⟨d1, d2⟩ := hD u hu hb
      have eq1 : some (false, Value.int (Int32.ofNat u + Int32.ofInt 1)) = some (false, .int (Int32.ofNat (u + 1))) := by rw [n32_s (by (try dsimp only); omega)]
      have eq2 : some (false, Value.int (Int32.ofNat (cN (fun i => tk.testBit i) u) + Int32.ofInt 1)) = some (false, .int (Int32.ofNat (cN (fun i => tk.testBit i) (u + 1)))) := by rw [n32_s (by (try dsimp only); omega), cN_tk hb]
      have l2 : law = 2 := l2
      have hb : tk.testBit u = true := hb
      have hR : rwOK law tk T D u R := hR
      obtain ⟨R0, z0, z2⟩ := id hR
      obtain ⟨z2, z3, -⟩ := z2 l2
      have put : zuI A' 376 (Int32.ofNat a).toNatClampNeg (Int32.ofNat (D u)) = rowN A 6 (insF R a (D u)) := by
        rw [n32_c (by (try dsimp only); omega), eA, rowN_u (by (try dsimp only); omega)]
        refine rowN_eq (fun x hx => ?_)
        unfold insF shF
        by_cases c1 : x < a
        · rw [if_neg (by (try dsimp only); omega), if_pos (by (try dsimp only); omega), if_pos c1]
        · by_cases c2 : x = a
          · rw [if_pos c2, if_neg c1, if_pos c2]
          · rw [if_neg c2, if_neg (by (try dsimp only); omega), if_neg c1, if_neg c2]
            by_cases c3 : x ≤ cN (fun i => tk.testBit i) u
            · rw [if_pos c3]
            · rw [if_neg c3, z3 (x - 1) (by (try dsimp only); omega) (by (try dsimp only); omega)]
      have fin : (a = 0 ∨ D u ≤ R (a - 1)) → in_lr26 A w law tk D T [(4, false, .int (Int32.ofNat u + Int32.ofInt 1)), (3, false, .int (Int32.ofNat (cN (fun i => tk.testBit i) u) + Int32.ofInt 1)), (0, false, .ref 343), (1, false, .int (Int32.ofNat w)), (2, false, .int (Int32.ofNat law))] [] (zuI A' 376 (Int32.ofNat a).toNatClampNeg (Int32.ofNat (D u))) := fun h1 => by
        refine ⟨u + 1, cN (fun i => tk.testBit i) (u + 1), insF R a (D u), ⟨eq1, eq2, rfl, rfl, rfl, trivial⟩, rfl, (show u + 1 ≤ 6 by (try dsimp only); omega), fun _ => rfl, (show cN (fun i => tk.testBit i) (u + 1) ≤ 6 by rw [cN_tk hb]; omega), put, ?_⟩
        rw [l2] at hR ⊢
        exact rwOK_2 hR hu hb d2 ha h1 hk
      refine ⟨_, 120, hs, fun h => ?_, fun h => ⟨fun h2 => ?_, fun h2 => ?_⟩⟩
      · have h : (Int32.ofNat a).toInt ≤ 0 := h
        rw [ta] at h
        obtain ⟨u', n', R', b1, b2, b3, b4⟩ := fin (Or.inl (by (try dsimp only); omega))
        exact ⟨u', n', R', ⟨b1.1, b1.2.1, b1.2.2.1, b1.2.2.2.1, b1.2.2.2.2.1, trivial⟩, rfl, b3, b4⟩
      · have h : ¬ (Int32.ofNat a).toInt ≤ 0 := h
        rw [ta] at h
        have e1' : zI A' 376 (Int32.ofNat a - Int32.ofInt 1).toNatClampNeg = Int32.ofNat (R (a - 1)) := by
          rw [n32_p (by (try dsimp only); omega) (by (try dsimp only); omega), n32_c (by (try dsimp only); omega), eA, rowN_at (by (try dsimp only); omega)]
          unfold shF
          rw [if_pos (by (try dsimp only); omega)]
        have h2 : (Int32.ofNat (D u)).toInt ≤ (zI A' 376 (Int32.ofNat a - Int32.ofInt 1).toNatClampNeg).toInt := h2
        have rb := R0 (a - 1) (by (try dsimp only); omega)
        rw [e1', n32_t (show D u < 4096 by (try dsimp only); omega), n32_big (show R (a - 1) < 2147483648 by (try dsimp only); omega)] at h2
        obtain ⟨u', n', R', b1, b2, b3, b4⟩ := fin (Or.inr (by (try dsimp only); omega))
        exact ⟨u', n', R', ⟨b1.1, b1.2.1, b1.2.2.1, b1.2.2.2.1, b1.2.2.2.2.1, trivial⟩, rfl, b3, b4⟩
      · have h : ¬ (Int32.ofNat a).toInt ≤ 0 := h
        rw [ta] at h
        have e1' : zI A' 376 (Int32.ofNat a - Int32.ofInt 1).toNatClampNeg = Int32.ofNat (R (a - 1)) := by
          rw [n32_p (by (try dsimp only); omega) (by (try dsimp only); omega), n32_c (by (try dsimp only); omega), eA, rowN_at (by (try dsimp only); omega)]
          unfold shF
          rw [if_pos (by (try dsimp only); omega)]
        have h2 : ¬ (Int32.ofNat (D u)).toInt ≤ (zI A' 376 (Int32.ofNat a - Int32.ofInt 1).toNatClampNeg).toInt := h2
        have rb := R0 (a - 1) (by (try dsimp only); omega)
        rw [e1', n32_t (show D u < 4096 by (try dsimp only); omega), n32_big (show R (a - 1) < 2147483648 by (try dsimp only); omega)] at h2
        refine ⟨u, a - 1, R, ⟨?_, rfl, rfl, rfl, rfl, rfl, rfl, trivial⟩, rfl, ⟨hu, l2, hb⟩, (show a - 1 ≤ _ by (try dsimp only); omega), fun k k1 k2 => ?_, ?_, hR⟩
        · show some (false, Value.int (Int32.ofNat a + Int32.ofInt (-1))) = some (false, .int (Int32.ofNat (a - 1)))
          rw [n32_m1s (by (try dsimp only); omega) (by (try dsimp only); omega)]
        · by_cases e : k = a
          · rw [e]
            (try dsimp only); omega
          · exact hk k (by (try dsimp only); omega) k2
        · show zuI A' 376 (Int32.ofNat a).toNatClampNeg (zI A' 376 (Int32.ofNat a - Int32.ofInt 1).toNatClampNeg) = _
          rw [e1', n32_c (by (try dsimp only); omega), eA, rowN_u (by (try dsimp only); omega)]
          refine rowN_eq (fun x hx => ?_)
          unfold shF
          by_cases c1 : x = a
          · rw [if_pos c1, if_neg (by (try dsimp only); omega), if_pos (by (try dsimp only); omega), c1]
          · rw [if_neg c1]
            by_cases c2 : x ≤ a
            · rw [if_pos c2, if_pos (by (try dsimp only); omega)]
            · rw [if_neg c2, if_neg (show ¬ x ≤ a - 1 by omega)]
  · obtain ⟨⟨w, law, tk⟩, D, T⟩ := a
    exact ⟨0, ⟨rfl, rfl, rfl, rfl, trivial⟩, rfl, Nat.zero_le _, rowN_0.symm⟩
abbrev crA : Type := (Nat → Nat) × (Nat → Nat)
def zq_compareRows : zQ := zs (fun _ : crA => [.ref 343]) (fun a A => ∀ k, k < 6 → (zI A 376 k = Int32.ofNat (a.1 k) ∧ a.1 k ≤ 100663296) ∧ zI A 377 k = Int32.ofNat (a.2 k) ∧ a.2 k ≤ 100663296) (fun a A rv A' => ∃ v : Int32, rv = some (.int v) ∧ A' = A ∧ cmpR a.1 a.2 v)
def in_cr (A : zW) (R B : Nat → Nat) : fL_ → List Value → zW → Prop := fun lg vs A' => ∃ k : Nat, f_sub [(1, false, .int (Int32.ofNat k)), (0, false, .ref 343)] lg ∧ vs = [] ∧ A' = A ∧ k ≤ 6 ∧ ∀ j, j < k → R j = B j
set_option maxRecDepth 20000 in
set_option maxHeartbeats 8000000 in
theorem zc_X12_compareRows : zdo r_X12_compareRows zq_compareRows := by
  refine zdo_of _ _ _ [] (fun a A => [(2, in_cr A a.1 a.2)]) 60 fo_X12 rfl zs_nil k_X12_compareRows (fun a A hp => ?_) (fun a A hp => ?_)
  · obtain ⟨R, B⟩ := a
    have hp : ∀ k, k < 6 → (zI A 376 k = Int32.ofNat (R k) ∧ R k ≤ 100663296) ∧ zI A 377 k = Int32.ofNat (B k) ∧ B k ≤ 100663296 := hp
    have e6 : (Int32.ofInt 6).toInt = 6 := by decide
    refine List.forall_mem_cons.mpr ⟨?_, fun _ h => absurd h List.not_mem_nil⟩
    rintro lg vs A' ⟨k, hs, rfl, rfl, hk, he⟩
    have hk : k ≤ 6 := hk
    have tk := n32_t (show k < 4096 by (try dsimp only); omega)
    have ck := n32_c (show k < 4096 by (try dsimp only); omega)
    refine ⟨_, 60, hs, fun h => ?_, fun h => ?_⟩
    · have h : (Int32.ofInt 6).toInt ≤ (Int32.ofNat k).toInt := h
      rw [e6, tk] at h
      exact ⟨0, rfl, rfl, Or.inl ⟨rfl, fun j hj => he j (by (try dsimp only); omega)⟩⟩
    · have h : ¬ (Int32.ofInt 6).toInt ≤ (Int32.ofNat k).toInt := h
      rw [e6, tk] at h
      obtain ⟨⟨a1, a2⟩, a3, a4⟩ := hp k (by (try dsimp only); omega)
      have tR := n32_big (show R k < 2147483648 by (try dsimp only); omega)
      have tB := n32_big (show B k < 2147483648 by (try dsimp only); omega)
      refine ⟨fun h2 => ?_, fun h2 => ⟨fun h3 => ?_, fun h3 => ?_⟩⟩
      · have h2 : (zI A' 376 (Int32.ofNat k).toNatClampNeg).toInt = (zI A' 377 (Int32.ofNat k).toNatClampNeg).toInt := h2
        rw [ck, a1, a3, tR, tB] at h2
        refine ⟨k + 1, ⟨?_, rfl, trivial⟩, rfl, rfl, (show k + 1 ≤ 6 by (try dsimp only); omega), fun j hj => ?_⟩
        · show some (false, Value.int (Int32.ofNat k + Int32.ofInt 1)) = some (false, .int (Int32.ofNat (k + 1)))
          rw [n32_s (by (try dsimp only); omega)]
        · by_cases e : j = k
          · rw [e]
            (try dsimp only); omega
          · exact he j (by (try dsimp only); omega)
      · have h2 : ¬ (zI A' 376 (Int32.ofNat k).toNatClampNeg).toInt = (zI A' 377 (Int32.ofNat k).toNatClampNeg).toInt := h2
        have h3 : (zI A' 377 (Int32.ofNat k).toNatClampNeg).toInt ≤ (zI A' 376 (Int32.ofNat k).toNatClampNeg).toInt := h3
        rw [ck, a1, a3, tR, tB] at h2 h3
        exact ⟨1, rfl, rfl, Or.inr (Or.inr ⟨rfl, k, by (try dsimp only); omega, he, by (try dsimp only); omega⟩)⟩
      · have h3 : ¬ (zI A' 377 (Int32.ofNat k).toNatClampNeg).toInt ≤ (zI A' 376 (Int32.ofNat k).toNatClampNeg).toInt := h3
        rw [ck, a1, a3, tR, tB] at h3
        exact ⟨-1, rfl, rfl, Or.inr (Or.inl ⟨rfl, k, by (try dsimp only); omega, he, by (try dsimp only); omega⟩)⟩
  · obtain ⟨R, B⟩ := a
    exact ⟨0, ⟨rfl, rfl, trivial⟩, rfl, rfl, Nat.zero_le _, fun j hj => absurd hj (Nat.not_lt_zero j)⟩
