/-! strikes of the reference -/
def zq_areApart : zQ := zpu (fun a : Nat × Nat => [.ref 343, .int (Int32.ofNat a.1), .int (Int32.ofNat a.2)]) (fun a _ => a.1 < 60 ∧ a.2 < 60) (fun a A => .int (zb (apB (zsw A a.1) (zsw A a.2) 4)))
def in_aap (A : zW) (a b : Nat) : fL_ → List Value → zW → Prop := fun lg vs A' => ∃ x : Nat, f_sub [(4, false, .int (Int32.ofNat x)), (3, false, .int (zb (apB (zsw A a) (zsw A b) x))), (0, false, .ref 343), (1, false, .int (Int32.ofNat a)), (2, false, .int (Int32.ofNat b))] lg ∧ vs = [] ∧ A' = A ∧ x ≤ 4
set_option maxHeartbeats 8000000 in
theorem zc_X12_areApart : zdo r_X12_areApart zq_areApart := by
  refine zdo_pu [] (fun a A => [(5, in_aap A a.1 a.2)]) 80 fo_X12 rfl zs_nil k_X12_areApart (fun a A hp => ?_) (fun a A hp => ?_)
  · obtain ⟨a, b⟩ := a
    obtain ⟨ha, hb⟩ := hp
    have ha : a < 60 := ha
    have hb : b < 60 := hb
    refine List.forall_mem_cons.mpr ⟨?_, fun _ h => absurd h List.not_mem_nil⟩
    rintro lg vs A' ⟨x, hs, rfl, rfl, hx⟩
    have hx : x ≤ 4 := hx
    have tx := n32_t (show x < 4096 by omega)
    have eq1 : some (false, Value.int (Int32.ofNat x + Int32.ofInt 1)) = some (false, .int (Int32.ofNat (x + 1))) := by rw [n32_s (by omega)]
    have eF : apB (zsw A' a) (zsw A' b) (x + 1) = (apB (zsw A' a) (zsw A' b) x && decide (zJ A' 344 (4 * a + x) &&& zJ A' 344 (4 * b + x) = Int64.ofNat 0)) := rfl
    have eY : ∀ v : Bool, apB (zsw A' a) (zsw A' b) (x + 1) = v → some (false, Value.int (zb v)) = some (false, .int (zb (apB (zsw A' a) (zsw A' b) (x + 1)))) := fun v z => by rw [z]
    refine ⟨_, 80, hs, fun h => ?_, fun h => ⟨fun h2 => ?_, fun h2 => ⟨fun h3 => ?_, fun h3 => ?_⟩⟩⟩
    · have h : (Int32.ofInt 4).toInt ≤ (Int32.ofNat x).toInt := h
      rw [e4i, tx] at h
      refine ⟨?_, rfl⟩
      show some (Value.int (zb (apB (zsw A' a) (zsw A' b) x))) = some (.int (zb (apB (zsw A' a) (zsw A' b) 4)))
      rw [show x = 4 by omega]
    · have h : ¬ (Int32.ofInt 4).toInt ≤ (Int32.ofNat x).toInt := h
      rw [e4i, tx] at h
      have h2 : (zb (apB (zsw A' a) (zsw A' b) x)).toInt = 0 := h2
      exact ⟨x + 1, ⟨eq1, eY false (by rw [eF, zb_f h2, Bool.false_and]), rfl, rfl, rfl, trivial⟩, rfl, rfl, (show x + 1 ≤ 4 by omega)⟩
    · have h : ¬ (Int32.ofInt 4).toInt ≤ (Int32.ofNat x).toInt := h
      rw [e4i, tx] at h
      have h3 : ¬ (lg_cmp (zJ A' 344 (Int32.ofInt 4 * Int32.ofNat a + Int32.ofNat x).toNatClampNeg &&& zJ A' 344 (Int32.ofInt 4 * Int32.ofNat b + Int32.ofNat x).toNatClampNeg) (Int64.ofNat 0)).toInt = 0 := h3
      rw [n32_m (show a < 4096 by omega) (by omega), n32_m (show b < 4096 by omega) (by omega)] at h3
      exact ⟨x + 1, ⟨eq1, eY false (by rw [eF, decide_eq_false (fun z => h3 (lg_cmp_0.mpr z)), Bool.and_false]), rfl, rfl, rfl, trivial⟩, rfl, rfl, (show x + 1 ≤ 4 by omega)⟩
    · have h : ¬ (Int32.ofInt 4).toInt ≤ (Int32.ofNat x).toInt := h
      rw [e4i, tx] at h
      have h2 : ¬ (zb (apB (zsw A' a) (zsw A' b) x)).toInt = 0 := h2
      have h3 : ¬ ¬ (lg_cmp (zJ A' 344 (Int32.ofInt 4 * Int32.ofNat a + Int32.ofNat x).toNatClampNeg &&& zJ A' 344 (Int32.ofInt 4 * Int32.ofNat b + Int32.ofNat x).toNatClampNeg) (Int64.ofNat 0)).toInt = 0 := h3
      rw [n32_m (show a < 4096 by omega) (by omega), n32_m (show b < 4096 by omega) (by omega)] at h3
      exact ⟨x + 1, ⟨eq1, eY true (by rw [eF, zb_t h2, decide_eq_true (lg_cmp_0.mp (Classical.not_not.mp h3))]; rfl), rfl, rfl, rfl, trivial⟩, rfl, rfl, (show x + 1 ≤ 4 by omega)⟩
  · exact ⟨0, ⟨rfl, rfl, rfl, rfl, rfl, trivial⟩, rfl, rfl, Nat.zero_le _⟩
/-- a claim's sentence and trust on this side -/
def cmS (A : zW) (k : Nat) : Nat := (zI A 366 k).toInt.toNat
def cmT (A : zW) (k : Nat) : Int32 := zI A 345 (zI A 367 k).toInt.toNat
def cmP (A : zW) (k : Nat) : Prop := k < 12 ∧ 0 ≤ (zI A 366 k).toInt ∧ (zI A 366 k).toInt < 60
def dsM (A : zW) (a b : Nat) : Bool := apB (zsw A (cmS A a)) (zsw A (cmS A b)) 4 && decide ((cmT A b).toInt ≤ (cmT A a).toInt)
def zq_doesStrike : zQ := zpu (fun a : Nat × Nat => [.ref 343, .int (Int32.ofNat a.1), .int (Int32.ofNat a.2)]) (fun a A => cmP A a.1 ∧ cmP A a.2) (fun a A => .int (zb (dsM A a.1 a.2)))
theorem zc_X12_doesStrike : zdo r_X12_doesStrike zq_doesStrike := by
  refine zdo_pu [(717, 3, zq_areApart)] (fun _ _ => []) 80 fo_X12 rfl (zs_cons rfl zc_X12_areApart zs_nil) k_X12_doesStrike (fun _ _ _ => no_zh) (fun a A hp => ?_)
  obtain ⟨a, b⟩ := a
  obtain ⟨⟨ha, a0, a1⟩, hb, b0, b1⟩ := hp
  have ha : a < 12 := ha
  have hb : b < 12 := hb
  have a0 : 0 ≤ (zI A 366 a).toInt := a0
  have a1 : (zI A 366 a).toInt < 60 := a1
  have b0 : 0 ≤ (zI A 366 b).toInt := b0
  have b1 : (zI A 366 b).toInt < 60 := b1
  have ca := n32_c (show a < 4096 by omega)
  have cb := n32_c (show b < 4096 by omega)
  have ea : zI A 366 a = Int32.ofNat (cmS A a) := ck_i32 (show 0 ≤ (zI A 366 a).toInt by omega)
  have eb : zI A 366 b = Int32.ofNat (cmS A b) := ck_i32 (show 0 ≤ (zI A 366 b).toInt by omega)
  have la : cmS A a < 60 := (show (zI A 366 a).toInt.toNat < 60 by omega)
  have lb : cmS A b < 60 := (show (zI A 366 b).toInt.toNat < 60 by omega)
  refine ⟨(cmS A a, cmS A b), ?_, ⟨la, lb⟩, fun h => ?_, fun h => ⟨fun h2 => ?_, fun h2 => ?_⟩⟩
  · show [Value.ref 343, .int (zI A 366 (Int32.ofNat a).toNatClampNeg), .int (zI A 366 (Int32.ofNat b).toNatClampNeg)] = [.ref 343, .int (Int32.ofNat (cmS A a)), .int (Int32.ofNat (cmS A b))]
    rw [ca, cb, ← ea, ← eb]
  · have h : (zb (apB (zsw A (cmS A a)) (zsw A (cmS A b)) 4)).toInt = 0 := h
    refine ⟨?_, rfl⟩
    show some (Value.int (Int32.ofInt 0)) = some (.int (zb (dsM A a b)))
    unfold dsM
    rw [zb_f h, Bool.false_and]
    rfl
  · have h2 : (zI A 345 (zI A 367 (Int32.ofNat a).toNatClampNeg).toNatClampNeg).toInt < (zI A 345 (zI A 367 (Int32.ofNat b).toNatClampNeg).toNatClampNeg).toInt := h2
    rw [ca, cb] at h2
    have h2 : (cmT A a).toInt < (cmT A b).toInt := h2
    refine ⟨?_, rfl⟩
    show some (Value.int (Int32.ofInt 0)) = some (.int (zb (dsM A a b)))
    unfold dsM
    rw [decide_eq_false (show ¬ (cmT A b).toInt ≤ (cmT A a).toInt by omega), Bool.and_false]
    rfl
  · have h : ¬ (zb (apB (zsw A (cmS A a)) (zsw A (cmS A b)) 4)).toInt = 0 := h
    have h2 : ¬ (zI A 345 (zI A 367 (Int32.ofNat a).toNatClampNeg).toNatClampNeg).toInt < (zI A 345 (zI A 367 (Int32.ofNat b).toNatClampNeg).toNatClampNeg).toInt := h2
    rw [ca, cb] at h2
    have h2 : ¬ (cmT A a).toInt < (cmT A b).toInt := h2
    refine ⟨?_, rfl⟩
    show some (Value.int (Int32.ofInt 1)) = some (.int (zb (dsM A a b)))
    unfold dsM
    rw [zb_t h, decide_eq_true (show (cmT A b).toInt ≤ (cmT A a).toInt by omega)]
    rfl
/-- the claims' sentences are in range -/
def cmR (A : zW) (q : Int32) : Prop := zF A 343 40 = .int q ∧ q.toInt ≤ 12 ∧ ∀ k : Nat, (k : Int) < q.toInt → 0 ≤ (zI A 366 k).toInt ∧ (zI A 366 k).toInt < 60
def skM (A : zW) (q x y : Int32) : Int32 := if clP q x ∧ clP q y then zb (dsM A x.toInt.toNat y.toInt.toNat) else Int32.ofInt (-1)
def zq_strikesM : zQ := zpu (fun a : Int32 × Int32 × Int32 => [.ref 343, .int a.2.1, .int a.2.2]) (fun a A => cmR A a.1) (fun a A => .int (skM A a.1 a.2.1 a.2.2))
theorem zc_X12_strikes : zdo r_X12_strikes zq_strikesM := by
  refine zdo_pu [(1212, 2, q_noClaim), (1221, 3, zq_doesStrike)] (fun _ _ => []) 60 fo_X12 rfl (zs_cons rfl za_X12_noClaim (zs_cons rfl zc_X12_doesStrike zs_nil)) k_X12_strikes (fun _ _ _ => no_zh) (fun a A hp => ?_)
  obtain ⟨q, x, y⟩ := a
  obtain ⟨hq, q1, hr⟩ := hp
  have q1 : q.toInt ≤ 12 := q1
  have hr : ∀ k : Nat, (k : Int) < q.toInt → 0 ≤ (zI A 366 k).toInt ∧ (zI A 366 k).toInt < 60 := hr
  have no : ¬ (clP q x ∧ clP q y) → some (Value.int (Int32.ofInt (-1))) = some (.int (skM A q x y)) := fun z => by
    unfold skM
    rw [if_neg z]
  refine ⟨(x, q), rfl, hq, fun h => ?_, fun h => ?_⟩
  · have h : ¬ clP q x := zb_y h
    exact ⟨no (fun z => h z.1), rfl⟩
  · have hx : clP q x := Classical.not_not.mp (zb_n (Classical.not_not.mp h))
    refine ⟨(y, q), rfl, hq, fun h2 => ?_, fun h2 => ?_⟩
    · have hy : clP q y := Classical.not_not.mp (zb_n h2)
      have ex : x = Int32.ofNat x.toInt.toNat := n32_of (by have := hx.1; omega)
      have ey : y = Int32.ofNat y.toInt.toNat := n32_of (by have := hy.1; omega)
      have px : cmP A x.toInt.toNat := ⟨by have := hx.1; have := hx.2; omega, hr _ (by have := hx.1; have := hx.2; omega)⟩
      have py : cmP A y.toInt.toNat := ⟨by have := hy.1; have := hy.2; omega, hr _ (by have := hy.1; have := hy.2; omega)⟩
      have eV : skM A q x y = zb (dsM A x.toInt.toNat y.toInt.toNat) := by
        unfold skM
        rw [if_pos ⟨hx, hy⟩]
      refine ⟨(x.toInt.toNat, y.toInt.toNat), ?_, ⟨px, py⟩, fun h3 => ?_, fun h3 => ?_⟩
      · show [Value.ref 343, .int x, .int y] = [.ref 343, .int (Int32.ofNat x.toInt.toNat), .int (Int32.ofNat y.toInt.toNat)]
        rw [← ex, ← ey]
      · have h3 : (zb (dsM A x.toInt.toNat y.toInt.toNat)).toInt = 0 := h3
        refine ⟨?_, rfl⟩
        show some (Value.int (Int32.ofInt 0)) = some (.int (skM A q x y))
        rw [eV, zb_f h3]
        rfl
      · have h3 : ¬ (zb (dsM A x.toInt.toNat y.toInt.toNat)).toInt = 0 := h3
        refine ⟨?_, rfl⟩
        show some (Value.int (Int32.ofInt 1)) = some (.int (skM A q x y))
        rw [eV, zb_t h3]
        rfl
    · have h2 : ¬ clP q y := zb_y h2
      exact ⟨no (fun z => h2 z.2), rfl⟩
