/-! least, giveUp, drop, view: what they do on each side -/
/-- every word has every bit -/
def zaB (f : Nat → Int64) (n : Nat) : Bool := (List.range n).all (fun x => decide ((f x).toInt = (Int64.ofInt (-1)).toInt))
set_option maxRecDepth 20000 in
theorem zaB_t {f : Nat → Int64} {n : Nat} : zaB f n = true ↔ ∀ x, x < n → (f x).toInt = (Int64.ofInt (-1)).toInt := by
  unfold zaB
  rw [List.all_eq_true]
  exact ⟨fun h x hx => of_decide_eq_true (h x (List.mem_range.mpr hx)), fun h x hx => decide_eq_true (h x (List.mem_range.mp hx))⟩
set_option maxRecDepth 20000 in
theorem zaB_f {f : Nat → Int64} {n x : Nat} (hx : x < n) (h : ¬ (f x).toInt = (Int64.ofInt (-1)).toInt) : zaB f n = false := by
  cases hb : zaB f n with
  | false => rfl
  | true => exact absurd (zaB_t.mp hb x hx) h
def zq_isAll : zQ := zpu (fun a : Nat × Nat => [.ref a.1]) (fun a _ => zB a.1 a.2 = true ∧ a.2 ≤ 64) (fun a A => .int (zb (zaB (zJ A (a.1 + 1)) a.2)))
def in_zal (A : zW) (q n : Nat) : fL_ → List Value → zW → Prop := fun lg vs A' => ∃ t : Int32, f_sub [(1, false, .int t), (0, false, .ref q)] lg ∧ vs = [] ∧ A' = A ∧ (0 ≤ t.toInt ∧ t.toInt ≤ n) ∧ ∀ x, x < t.toInt.toNat → (zJ A (q + 1) x).toInt = (Int64.ofInt (-1)).toInt
set_option maxRecDepth 20000 in
set_option maxHeartbeats 4000000 in
theorem za_X1_isAll : zdo r_X1_isAll zq_isAll := by
  refine zdo_pu [] (fun a A => [(2, in_zal A a.1 a.2)]) 60 fo_X1 rfl zs_nil k_X1_isAll (fun a A hp => ?_) (fun a A hp => ?_)
  · obtain ⟨q, n⟩ := a
    obtain ⟨hB, hn⟩ := hp
    have hB : zB q n = true := hB
    have hn : n ≤ 64 := hn
    refine List.forall_mem_cons.mpr ⟨?_, fun _ h => absurd h List.not_mem_nil⟩
    rintro lg vs A' ⟨t, hs, rfl, rfl, ⟨t0, t1⟩, hz⟩
    have t1 : t.toInt ≤ (n : Int) := t1
    have g := zB_f hB A'
    have l := zB_l hB A'
    have en := e32N hn
    refine ⟨_, 60, hs, fun h => ?_, fun h => ⟨fun h2 => ?_, fun h2 => ?_⟩⟩
    · have h : (Int32.ofNat (zkd A' (rv_ (zfl A' q (kfd fl_X1 13 (zkd A' q)))))).toInt ≤ t.toInt := h
      rw [l, en] at h
      refine ⟨?_, rfl⟩
      show some (Value.int 1) = some (.int (zb (zaB (zJ A' (q + 1)) n)))
      rw [zaB_t.mpr (fun x hx => hz x (by omega))]
      rfl
    · have h : ¬ (Int32.ofNat (zkd A' (rv_ (zfl A' q (kfd fl_X1 13 (zkd A' q)))))).toInt ≤ t.toInt := h
      rw [l, en] at h
      have h2 : ck_cm .eq (lg_cmp (zJ A' (rv_ (zfl A' q (kfd fl_X1 13 (zkd A' q)))) t.toInt.toNat) (Int64.ofInt (-1))).toInt 0 := h2
      rw [g] at h2
      have h2 : (zJ A' (q + 1) t.toInt.toNat).toInt = (Int64.ofInt (-1)).toInt := ck_cm_lg.mp h2
      have hi := i_inc t0 (by omega)
      refine ⟨t + 1, ⟨rfl, rfl, trivial⟩, rfl, rfl, ⟨by omega, by show (t + 1).toInt ≤ (n : Int); omega⟩, fun x hx => ?_⟩
      by_cases ex : x = t.toInt.toNat
      · rw [ex]
        exact h2
      · exact hz x (by omega)
    · have h : ¬ (Int32.ofNat (zkd A' (rv_ (zfl A' q (kfd fl_X1 13 (zkd A' q)))))).toInt ≤ t.toInt := h
      rw [l, en] at h
      have h2 : ¬ ck_cm .eq (lg_cmp (zJ A' (rv_ (zfl A' q (kfd fl_X1 13 (zkd A' q)))) t.toInt.toNat) (Int64.ofInt (-1))).toInt 0 := h2
      rw [g] at h2
      have h2 : ¬ (zJ A' (q + 1) t.toInt.toNat).toInt = (Int64.ofInt (-1)).toInt := fun z => h2 (ck_cm_lg.mpr z)
      refine ⟨?_, rfl⟩
      show some (Value.int 0) = some (.int (zb (zaB (zJ A' (q + 1)) n)))
      rw [zaB_f (show t.toInt.toNat < n by omega) h2]
      rfl
  · refine ⟨0, ⟨rfl, rfl, trivial⟩, rfl, rfl, ⟨by decide, ?_⟩, fun x hx => ?_⟩
    · have e0 : (0 : Int32).toInt = 0 := by decide
      rw [e0]
      omega
    · exact absurd hx (Nat.not_lt_zero x)
theorem m1_w {x : Int64} : x.toInt = (Int64.ofInt (-1)).toInt ↔ ∀ i, i < 64 → x.toBitVec.getLsbD i = true := by
  constructor
  · intro h i hi
    rw [Int64.toInt_inj.mp h]
    exact m1_64 i hi
  · intro h
    refine congrArg Int64.toInt (Int64.toBitVec_inj.mp (BitVec.eq_of_getLsbD_eq (fun i hi => ?_)))
    rw [h i hi, m1_64 i hi]
theorem cN_full {p : Nat → Bool} : ∀ {n : Nat}, cN p n = n ↔ ∀ i, i < n → p i = true
  | 0 => ⟨fun _ i hi => absurd hi (Nat.not_lt_zero i), fun _ => rfl⟩
  | n + 1 => by
    have hle := cN_le (p := p) (n := n)
    have ih := cN_full (p := p) (n := n)
    show cN p n + (if p n = true then 1 else 0) = n + 1 ↔ _
    constructor
    · intro h i hi
      by_cases hn : p n = true
      · rw [if_pos hn] at h
        by_cases e : i = n
        · rw [e]
          exact hn
        · exact ih.mp (by omega) i (by omega)
      · rw [if_neg hn] at h
        omega
    · intro h
      rw [if_pos (h n (Nat.lt_succ_self n)), ih.mpr (fun i hi => h i (by omega))]
/-- a sentence true everywhere: the class's question and the reference's -/
theorem all_eq {f g : Nat → Int64} (h : ∀ x, x < 4 → f x = g x) : zaB f 4 = true ↔ (szA (fun v => cbA v 64) g 4).toInt = 256 := by
  have e1 : szA (fun v => cbA v 64) g 4 = szA bcV f 4 := szA_eq (fun v => bc_cb.symm) (fun x hx => (h x hx).symm)
  have e2 := szA_cN (f := f) (k := 4) (by decide)
  have e3 : 64 * 4 = 256 := rfl
  rw [e3] at e2
  rw [e1, e2, zaB_t]
  constructor
  · intro z
    have e4 : cN (bF f) 256 = 256 := cN_full.mpr (fun i hi => m1_w.mp (z (i / 64) (by omega)) (i % 64) (by omega))
    rw [e4]
    rfl
  · intro z x hx
    have e4 : cN (bF f) 256 = 256 := by omega
    refine m1_w.mpr (fun i hi => ?_)
    have h5 := cN_full.mp e4 (64 * x + i) (by omega)
    rw [bF_at hi] at h5
    exact h5
theorem all_out {f : Nat → Int64} (h : zaB f 4 = false) : ∃ w, w < 256 ∧ ¬ (f (w / 64)).toBitVec.getLsbD (w % 64) = true := Classical.byContradiction (fun z => by
  have h1 : zaB f 4 = true := zaB_t.mpr (fun x hx => m1_w.mpr (fun i hi => Classical.byContradiction (fun y => z ⟨64 * x + i, by omega, by
    rw [show (64 * x + i) / 64 = x by omega, show (64 * x + i) % 64 = i by omega]
    exact y⟩)))
  rw [h] at h1
  cases h1)
/-! least -/
abbrev leA : Type := (Int32 × Int32 × Int32 × Int32) × Int32
abbrev lePs (c s : Int32) : Prop := 0 ≤ s.toInt ∧ s.toInt < c.toInt
def leq (s : Int32) : Nat := 2 + 2 * s.toInt.toNat
def leP (a : leA) (A : zW) : Prop := (zF A 0 1 = .int a.1.1 ∧ a.1.1.toInt ≤ 60) ∧ (zeV A a.1.2.1 ∧ zF A 193 2 = .int a.1.2.2.1 ∧ zF A 193 3 = .int a.1.2.2.2) ∧ zti A ∧ zeS A a.1.2.1 ∧ ∀ i, i < 6 → 0 ≤ (zI A 194 i).toInt ∧ (zI A 194 i).toInt ≤ 9
def lecA (a : leA) : zcuA := (leq a.2, a.1.2)
def leR (a : leA) (A : zW) (v : Int32) (A' : zW) : Prop := (¬ lePs a.1.1 a.2 ∧ v = -1 ∧ A' = A) ∨ (lePs a.1.1 a.2 ∧ zaB (zJ A (leq a.2 + 1)) 4 = true ∧ v = -3 ∧ A' = A) ∨ (lePs a.1.1 a.2 ∧ zaB (zJ A (leq a.2 + 1)) 4 = false ∧ v = zlcV (lecA a) A ∧ A' = zcuW A (leq a.2) (zcuV (lecA a) A))
def zq_leastC : zQ := zs (fun a : leA => [.ref 0, .int a.2]) leP (fun a A rv A' => ∃ v : Int32, rv = some (.int v) ∧ leR a A v A')
theorem le_zlc {a : leA} {A : zW} (hp : leP a A) (hs : lePs a.1.1 a.2) : zlcP (lecA a) A := by
  obtain ⟨⟨hc, hc60⟩, hE, hT, hS, hW⟩ := hp
  obtain ⟨s0, s1⟩ := hs
  exact ⟨⟨⟨zB_s (show a.2.toInt.toNat < 60 by omega), (show 2 + 2 * a.2.toInt.toNat ≠ 199 by omega)⟩, hE, hT⟩, hS, hW⟩
set_option maxRecDepth 20000 in
set_option maxHeartbeats 4000000 in
theorem zc_X11_least : zdo r_X11_least zq_leastC := by
  refine zdo_of _ _ _ [(381, 2, zq_sentenceAt), (801, 1, zq_isAll), (810, 2, zq_leastCut)] (fun _ _ => []) 60 fo_X11 rfl (zs_cons rfl za_X11_sentenceAt (zs_cons rfl za_X1_isAll (zs_cons rfl zc_X2_leastCut zs_nil))) k_X11_least (fun _ _ _ => no_zh) (fun a A hp => ?_)
  have hp0 := hp
  obtain ⟨⟨c, n, t, k⟩, s⟩ := a
  obtain ⟨⟨hc, hc60⟩, hE, hT, hS, hW⟩ := hp
  have hc60 : c.toInt ≤ 60 := hc60
  refine ⟨(s, c), rfl, ⟨hc, hc60⟩, fun h => ?_, fun h => ?_⟩
  · have hs : lePs c s := zat_y h
    have e1 : zat c s (.ref (2 + 2 * s.toInt.toNat)) = .ref (2 + 2 * s.toInt.toNat) := if_pos hs
    have hB := zB_s (show s.toInt.toNat < 60 by have := hs.1; have := hs.2; omega)
    refine ⟨(2 + 2 * s.toInt.toNat, 4), ?_, ⟨hB, (by decide : 4 ≤ 64)⟩, fun h2 => ?_, fun h2 => ?_⟩
    · show [zat c s (.ref (2 + 2 * s.toInt.toNat))] = _
      rw [e1]
    · have h2 : (zb (zaB (zJ A (leq s + 1)) 4)).toInt = 0 := h2
      refine ⟨lecA ((c, n, t, k), s), ?_, le_zlc hp0 hs, ?_⟩
      · show [Value.ref 193, zat c s (.ref (2 + 2 * s.toInt.toNat))] = [.ref 193, .ref (leq s)]
        rw [e1]
        rfl
      · exact ⟨_, rfl, Or.inr (Or.inr ⟨hs, zb_f h2, rfl, rfl⟩)⟩
    · have h2 : ¬ (zb (zaB (zJ A (leq s + 1)) 4)).toInt = 0 := h2
      exact ⟨-3, rfl, Or.inr (Or.inl ⟨hs, zb_t h2, rfl, rfl⟩)⟩
  · have h : zat c s (.ref (2 + 2 * s.toInt.toNat)) = .null := h
    exact ⟨-1, rfl, Or.inl ⟨fun z => zat_n (fun z => by cases z) h z, rfl, rfl⟩⟩
/-- the reference's -/
abbrev lmmA : Type := (Int32 × laA) × Int32
def lmmP (a : lmmA) (A : zW) : Prop := (zF A 343 1 = .int a.1.1 ∧ a.1.1.toInt ≤ 60) ∧ laP a.1.2 A ∧ mwr A a.1.2.1.toInt.toNat
def lmR (a : lmmA) (A : zW) (v : Int32) (A' : zW) : Prop := (¬ lePs a.1.1 a.2 ∧ v = -1 ∧ A' = A) ∨ (lePs a.1.1 a.2 ∧ (szA (fun v => cbA v 64) (zsw A a.2.toInt.toNat) 4).toInt = 256 ∧ v = -3 ∧ A' = A) ∨ (lePs a.1.1 a.2 ∧ ¬ (szA (fun v => cbA v 64) (zsw A a.2.toInt.toNat) 4).toInt = 256 ∧ laQ a.1.2 A A' ∧ v = encM (lmV (a.1.2, a.2.toInt.toNat, Int32.ofInt 0) A'))
def zq_leastMM : zQ := zs (fun a : lmmA => [.ref 343, .int a.2]) lmmP (fun a A rv A' => ∃ v : Int32, rv = some (.int v) ∧ lmR a A v A')
set_option maxRecDepth 20000 in
set_option maxHeartbeats 4000000 in
theorem zc_X12_least : zdo r_X12_least zq_leastMM := by
  refine zdo_of _ _ _ [(669, 2, q_noSentence), (690, 2, zq_countAt), (1032, 3, zq_leastM)] (fun _ _ => []) 60 fo_X12 rfl (zs_cons rfl za_X12_noSentence (zs_cons rfl za_X12_countAt (zs_cons rfl zc_X12_leastCut zs_nil))) k_X12_least (fun _ _ _ => no_zh) (fun a A hp => ?_)
  obtain ⟨⟨c, n, t, k⟩, s⟩ := a
  obtain ⟨⟨hc, hc60⟩, hla, hw⟩ := hp
  have hc60 : c.toInt ≤ 60 := hc60
  refine ⟨(s, c), rfl, hc, fun h => ?_, fun h => ?_⟩
  · have hs : lePs c s := Classical.not_not.mp (zb_n h)
    have hs6 : s.toInt < 60 := by
      have := hs.2
      omega
    have es : s = Int32.ofNat s.toInt.toNat := n32_of (by have := hs.1; omega)
    refine ⟨s, rfl, ⟨hs.1, hs6⟩, fun h2 => ?_, fun h2 => ?_⟩
    · have h2 : ¬ (szA (fun v => cbA v 64) (zsw A s.toInt.toNat) 4).toInt = (Int32.ofInt 256).toInt := h2
      rw [e256] at h2
      refine ⟨((n, t, k), s.toInt.toNat, Int32.ofInt 0), ?_, ⟨hla, (show s.toInt.toNat < 60 by have := hs.1; omega), hw⟩, ?_⟩
      · show [Value.ref 343, .int s, .int (Int32.ofInt 0)] = [.ref 343, .int (Int32.ofNat s.toInt.toNat), .int (Int32.ofInt 0)]
        rw [← es]
      · rintro rv A' ⟨hq, rfl⟩
        exact ⟨_, rfl, Or.inr (Or.inr ⟨hs, h2, hq, rfl⟩)⟩
    · have h2 : ¬ ¬ (szA (fun v => cbA v 64) (zsw A s.toInt.toNat) 4).toInt = (Int32.ofInt 256).toInt := h2
      rw [e256] at h2
      exact ⟨-3, rfl, Or.inr (Or.inl ⟨hs, Classical.not_not.mp h2, rfl, rfl⟩)⟩
  · have h := zb_y h
    exact ⟨-1, rfl, Or.inl ⟨h, rfl, rfl⟩⟩
/-! giveUp -/
def guR (a : leA) (A : zW) (v : Int32) (A' : zW) : Prop := ∃ A1, leR a A v A1 ∧ A' = if 0 < v.toInt then zabF A1 v (zF A1 193 3) a.1.2.1.toInt.toNat else A1
def zq_giveUpC : zQ := zs (fun a : leA => [.ref 0, .int a.2]) leP (fun a A rv A' => ∃ v : Int32, rv = some (.int v) ∧ guR a A v A')
theorem leR_J {a : leA} {A A' : zW} {v : Int32} (h : leR a A v A') : A' = A ∨ ∃ q V, A' = zcuW A q V := by
  rcases h with ⟨-, -, h⟩ | ⟨-, -, -, h⟩ | ⟨-, -, -, h⟩
  · exact Or.inl h
  · exact Or.inl h
  · exact Or.inr ⟨_, _, h⟩
set_option maxRecDepth 20000 in
theorem zc_X11_giveUp : zdo r_X11_giveUp zq_giveUpC := by
  refine zdo_of _ _ _ [(822, 2, zq_leastC), (831, 2, zq_abandonC)] (fun _ _ => []) 60 fo_X11 rfl (zs_cons rfl zc_X11_least (zs_cons rfl zc_X2_abandon zs_nil)) k_X11_giveUp (fun _ _ _ => no_zh) (fun a A hp => ?_)
  obtain ⟨⟨c, n, t, k⟩, s⟩ := a
  refine ⟨((c, n, t, k), s), rfl, hp, ?_⟩
  rintro rv A1 ⟨v, rfl, hR⟩
  have hE : zeV A1 n := by
    rcases leR_J hR with rfl | ⟨q, V, rfl⟩
    · exact hp.2.1.1
    · exact hp.2.1.1
  refine ⟨fun h => ?_, fun h => ?_⟩
  · have h : v.toInt ≤ 0 := h
    refine ⟨v, rfl, A1, hR, ?_⟩
    rw [if_neg (by omega)]
  · have h : ¬ v.toInt ≤ 0 := h
    refine ⟨(v, n), rfl, hE, ?_⟩
    refine ⟨v, rfl, A1, hR, ?_⟩
    rw [if_pos (by omega)]
def gmR (a : lmmA) (A : zW) (v : Int32) (A' : zW) : Prop := ∃ A1, lmR a A v A1 ∧ A' = if v.toInt < 0 then A1 else zov (zgF A1 v a.1.2.2.2 a.1.2.1.toInt.toNat)
def zq_giveUpM : zQ := zs (fun a : lmmA => [.ref 343, .int a.2]) lmmP (fun a A rv A' => ∃ v : Int32, rv = some (.int v) ∧ gmR a A v A')
set_option maxRecDepth 20000 in
theorem zc_X12_giveUp : zdo r_X12_giveUp zq_giveUpM := by
  refine zdo_of _ _ _ [(1041, 2, zq_leastMM), (1050, 2, zq_giveAll8)] (fun _ _ => []) 60 fo_X12 rfl (zs_cons rfl zc_X12_least (zs_cons rfl zc_X12_giveAll zs_nil)) k_X12_giveUp (fun _ _ _ => no_zh) (fun a A hp => ?_)
  obtain ⟨⟨c, n, t, k⟩, s⟩ := a
  refine ⟨((c, n, t, k), s), rfl, hp, ?_⟩
  rintro rv A1 ⟨v, rfl, hR⟩
  have hA : (zF A1 343 8 = .int n ∧ 0 ≤ n.toInt ∧ n.toInt ≤ 12) ∧ zF A1 343 16 = .int k := by
    rcases hR with ⟨-, -, rfl⟩ | ⟨-, -, -, rfl⟩ | ⟨-, -, h, -⟩
    · exact ⟨hp.2.1.1, hp.2.1.2.2.1.2⟩
    · exact ⟨hp.2.1.1, hp.2.1.2.2.1.2⟩
    · exact ⟨h.2.1.1, h.2.1.2.2.1.2⟩
  refine ⟨fun h => ?_, fun h => ?_⟩
  · have h : v.toInt < 0 := h
    refine ⟨v, rfl, A1, hR, ?_⟩
    rw [if_pos h]
  · have h : ¬ v.toInt < 0 := h
    refine ⟨(v, n, k), rfl, hA, ?_⟩
    refine ⟨v, rfl, A1, hR, ?_⟩
    rw [if_neg h]
/-! drop -/
abbrev drA : Type := Int32 × Int32 × Int32
abbrev drPs (n e : Int32) : Prop := 0 ≤ e.toInt ∧ e.toInt < n.toInt
def drPt (u : Int32) : Prop := u.toInt = -9 ∨ (0 ≤ u.toInt ∧ u.toInt < 100)
def drQ (n e u : Int32) (V : Value) (G : zW) (A : zW) (rv : Option Value) (A' : zW) : Prop := (¬ drPs n e ∧ rv = some (.int (-1)) ∧ A' = A) ∨ (drPs n e ∧ ¬ drPt u ∧ rv = some (.int (-2)) ∧ A' = A) ∨ (drPs n e ∧ drPt u ∧ rv = some V ∧ A' = G)
def zq_dropC : zQ := zs (fun a : drA => [.ref 0, .int a.2.1, .int a.2.2]) (fun a A => zeV A a.1) (fun a A => drQ a.1 a.2.1 a.2.2 (zF A (rv_ (zR A 195 a.2.1.toInt.toNat)) 6) (zuF A (rv_ (zR A 195 a.2.1.toInt.toNat)) 6 (.int a.2.2)) A)
set_option maxRecDepth 20000 in
set_option maxHeartbeats 4000000 in
theorem zc_X11_drop : zdo r_X11_drop zq_dropC := by
  refine zdo_of _ _ _ [(603, 2, zq_entryAt), (505, 1, q_isTime)] (fun _ _ => []) 60 fo_X11 rfl (zs_cons rfl za_X2_entryAt (zs_cons rfl za_X11_isTime zs_nil)) k_X11_drop (fun _ _ _ => no_zh) (fun a A hp => ?_)
  obtain ⟨n, e, u⟩ := a
  obtain ⟨hn, hE⟩ := hp
  have hE : ∀ e : Nat, (e : Int) < n.toInt → ∃ j : Nat, zR A 195 e = .ref j ∧ 385 ≤ j ∧ (zK A j).1 = 4 := hE
  refine ⟨(e, n), rfl, hn, fun h => ?_, fun h => ?_⟩
  · have hs : drPs n e := zat_y h
    obtain ⟨j, g1, g2, g3⟩ := hE e.toInt.toNat (by have := hs.1; have := hs.2; omega)
    have e1 : zat n e (zR A 195 e.toInt.toNat) = .ref j := by
      unfold zat
      rw [if_pos (show 0 ≤ e.toInt ∧ e.toInt < n.toInt from hs), g1]
    have ej : rv_ (zR A 195 e.toInt.toNat) = j := by rw [g1]; rfl
    have fin : drPt u → drQ n e u (zF A (rv_ (zR A 195 e.toInt.toNat)) 6) (zuF A (rv_ (zR A 195 e.toInt.toNat)) 6 (.int u)) A (some (zfl A (rv_ (zat n e (zR A 195 e.toInt.toNat))) (kfd fl_X11 220 (zkd A (rv_ (zat n e (zR A 195 e.toInt.toNat))))))) (zuF A (rv_ (zat n e (zR A 195 e.toInt.toNat))) (kpd pl_X11 220 (zkd A (rv_ (zat n e (zR A 195 e.toInt.toNat))))) (.int u)) := fun hu => by
      rw [e1, ej]
      refine Or.inr (Or.inr ⟨hs, hu, ?_, ?_⟩)
      · show some (zfl A j (kfd fl_X11 220 (zkd A j))) = some (zF A j 6)
        rw [zkd_d g2, g3, zfl_d g2]
        rfl
      · show zuF A j (kpd pl_X11 220 (zkd A j)) (.int u) = zuF A j 6 (.int u)
        rw [zkd_d g2, g3]
        rfl
    have z0 : zc (rv_ (zat n e (zR A 195 e.toInt.toNat))) (kpd pl_X11 220 (zkd A (rv_ (zat n e (zR A 195 e.toInt.toNat))))) = 0 := by
      rw [e1]
      exact zc_d g2
    refine ⟨fun h2 => ?_, fun h2 => ?_⟩
    · have h2 : u.toInt = (Int32.ofInt (-9)).toInt := h2
      rw [em9] at h2
      exact ⟨z0, fin (Or.inl h2)⟩
    · have h2 : ¬ u.toInt = (Int32.ofInt (-9)).toInt := h2
      rw [em9] at h2
      refine ⟨u, rfl, trivial, fun h3 => ?_, fun h3 => ?_⟩
      · exact ⟨z0, fin (Or.inr (zb_y h3))⟩
      · have h3 := zb_n (Classical.not_not.mp h3)
        exact Or.inr (Or.inl ⟨hs, fun z => by
          rcases z with z | z
          · exact h2 z
          · exact h3 z, rfl, rfl⟩)
  · have h : zat n e (zR A 195 e.toInt.toNat) = .null := h
    refine Or.inl ⟨fun z => ?_, rfl, rfl⟩
    have z : drPs n e := z
    obtain ⟨j, g1, -⟩ := hE e.toInt.toNat (by have := z.1; have := z.2; omega)
    exact zat_n (by rw [g1]; exact fun z => by cases z) h z
def zq_dropM : zQ := zs (fun a : drA => [.ref 343, .int a.2.1, .int a.2.2]) (fun a A => zF A 343 8 = .int a.1 ∧ 0 ≤ a.1.toInt ∧ a.1.toInt ≤ 12) (fun a A => drQ a.1 a.2.1 a.2.2 (.int (zI A 353 a.2.1.toInt.toNat)) (zov (zuI A 353 a.2.1.toInt.toNat a.2.2)) A)
set_option maxRecDepth 20000 in
set_option maxHeartbeats 4000000 in
theorem zc_X12_drop : zdo r_X12_drop zq_dropM := by
  refine zdo_of _ _ _ [(933, 2, q_noEntry), (457, 3, zq_in), (741, 1, zq_otherView)] (fun _ _ => []) 60 fo_X12 rfl (zs_cons rfl za_X12_noEntry (zs_cons rfl za_X12_in (zs_cons rfl za_X12_otherView zs_nil))) k_X12_drop (fun _ _ _ => no_zh) (fun a A hp => ?_)
  obtain ⟨n, e, u⟩ := a
  obtain ⟨hn, n0, n1⟩ := hp
  have e0 := ze0
  have e99 := ze99
  have eu := Int32.toInt_toInt64 u
  refine ⟨(e, n), rfl, hn, fun h => ?_, fun h => ?_⟩
  · have hs : drPs n e := Classical.not_not.mp (zb_n h)
    refine ⟨fun h2 => ?_, fun h2 => ?_⟩
    · have h2 : u.toInt = (Int32.ofInt (-9)).toInt := h2
      rw [em9] at h2
      exact ⟨(), rfl, trivial, Or.inr (Or.inr ⟨hs, Or.inl h2, rfl, rfl⟩)⟩
    · have h2 : ¬ u.toInt = (Int32.ofInt (-9)).toInt := h2
      rw [em9] at h2
      refine ⟨(u.toInt64, Int64.ofNat 0, Int64.ofInt 99), rfl, trivial, fun h3 => ?_, fun h3 => ?_⟩
      · have h3 : (Int64.ofNat 0).toInt ≤ u.toInt64.toInt ∧ u.toInt64.toInt ≤ (Int64.ofInt 99).toInt := zb_y h3
        have hu : drPt u := Or.inr ⟨by omega, by omega⟩
        exact ⟨(), rfl, trivial, Or.inr (Or.inr ⟨hs, hu, rfl, rfl⟩)⟩
      · have h3 : ¬ ((Int64.ofNat 0).toInt ≤ u.toInt64.toInt ∧ u.toInt64.toInt ≤ (Int64.ofInt 99).toInt) := zb_n (Classical.not_not.mp h3)
        have no : ¬ drPt u := fun z => by
          rcases z with z | z
          · exact h2 z
          · exact h3 ⟨by omega, by omega⟩
        exact Or.inr (Or.inl ⟨hs, no, rfl, rfl⟩)
  · exact Or.inl ⟨zb_y h, rfl, rfl⟩
/-! view -/
def vwC (A : zW) (t k : Int32) : zW := zuF (zuF A 193 2 (.int t)) 193 3 (.int k)
def vwM (A : zW) (t k : Int32) : zW := zov (zuF (zuF A 343 15 (.int t)) 343 16 (.int k))
def vwPt (t k : Int32) : Prop := (0 ≤ t.toInt ∧ t.toInt < 100) ∧ (0 ≤ k.toInt ∧ k.toInt < 100)
def vwQc (a : Int32 × Int32 × Int32) (A : zW) (rv : Option Value) (A' : zW) : Prop := (¬ vwPt a.2.1 a.2.2 ∧ rv = some (.int (-2)) ∧ A' = A) ∨ (vwPt a.2.1 a.2.2 ∧ rv = some (.int (icV (Int32.ofNat (vwN (cvP (vwC A a.2.1 a.2.2) a.2.1 a.2.2) a.1.toInt.toNat)))) ∧ A' = vwC A a.2.1 a.2.2)
def zq_viewC : zQ := zs (fun a : Int32 × Int32 × Int32 => [.ref 0, .int a.2.1, .int a.2.2]) (fun a A => zeV A a.1) vwQc
set_option maxRecDepth 20000 in
set_option maxHeartbeats 4000000 in
theorem zc_X11_view : zdo r_X11_view zq_viewC := by
  refine zdo_of _ _ _ [(505, 1, q_isTime), (579, 1, zq_inViewC), (589, 1, zq_ibc)] (fun _ _ => []) 60 fo_X11 rfl (zs_cons rfl za_X11_isTime (zs_cons rfl zc_X2_inView (zs_cons rfl za_J6_ibc zs_nil))) k_X11_view (fun _ _ _ => no_zh) (fun a A hp => ?_)
  obtain ⟨n, t, k⟩ := a
  obtain ⟨⟨hn, n0, n1⟩, hE⟩ := hp
  have hn : zF A 193 1 = .int n := hn
  refine ⟨t, rfl, trivial, fun h => ?_, fun h => ?_⟩
  · exact Or.inl ⟨fun z => zb_n h z.1, rfl, rfl⟩
  have ht : 0 ≤ t.toInt ∧ t.toInt < 100 := zb_y h
  refine ⟨k, rfl, trivial, fun h => ?_, fun h => ?_⟩
  rotate_left
  · exact Or.inl ⟨fun z => zb_n (Classical.not_not.mp h) z.2, rfl, rfl⟩
  have hk : 0 ≤ k.toInt ∧ k.toInt < 100 := zb_y h
  have hE' : zeV (vwC A t k) n := by
    refine ⟨⟨?_, n0, n1⟩, hE⟩
    unfold vwC
    rw [zuF_x, if_neg (by decide), zuF_x, if_neg (by decide)]
    exact hn
  have h2 : zF (vwC A t k) 193 2 = .int t := by
    unfold vwC
    rw [zuF_x, if_neg (by decide), zuF_x, if_pos ⟨rfl, rfl⟩]
  have h3 : zF (vwC A t k) 193 3 = .int k := by
    unfold vwC
    rw [zuF_x, if_pos ⟨rfl, rfl⟩]
  refine ⟨rfl, rfl, (n, t, k), rfl, ⟨hE', h2, h3⟩, ?_⟩
  exact ⟨_, rfl, trivial, Or.inr ⟨⟨ht, hk⟩, rfl, rfl⟩⟩
def vwPm (a : Int32 × Int32 × Int32) (A : zW) : Prop := (zF A 343 8 = .int a.1 ∧ 0 ≤ a.1.toInt ∧ a.1.toInt ≤ 12) ∧ sei A a.1.toInt.toNat ∧ ∃ l : Int32, zF A 343 17 = .int l ∧ (¬ l.toInt = 0 → lwOK A (zJ A 354) (2 ^ a.1.toInt.toNat))
def vwQm (a : Int32 × Int32 × Int32) (A : zW) (rv : Option Value) (A' : zW) : Prop := (¬ vwPt a.2.1 a.2.2 ∧ rv = some (.int (-2)) ∧ A' = A) ∨ (vwPt a.2.1 a.2.2 ∧ laQ a (vwM A a.2.1 a.2.2) A' ∧ rv = some (.int (cbA (Int32.ofNat (vwN (mvP A' a.2.1 a.2.2) a.1.toInt.toNat)).toInt64 64)))
def zq_viewMM : zQ := zs (fun a : Int32 × Int32 × Int32 => [.ref 343, .int a.2.1, .int a.2.2]) vwPm vwQm
theorem vwM_F {A : zW} {t k : Int32} {q i : Nat} (h : ¬ (q = 343 ∧ (i = 15 ∨ i = 16 ∨ i = 19 ∨ i = 33 ∨ i = 55))) : zF (vwM A t k) q i = zF A q i := by
  unfold vwM zov
  rw [zuF_x, if_neg (fun z => h ⟨z.1, by omega⟩), zuF_x, if_neg (fun z => h ⟨z.1, by omega⟩), zuF_x, if_neg (fun z => h ⟨z.1, by omega⟩), zuF_x, if_neg (fun z => h ⟨z.1, by omega⟩), zuF_x, if_neg (fun z => h ⟨z.1, by omega⟩)]
theorem vwM_la {a : Int32 × Int32 × Int32} {A : zW} (hp : vwPm a A) : laP a (vwM A a.2.1 a.2.2) := by
  obtain ⟨⟨hn, n0, n1⟩, hs, l, hl, hlw⟩ := hp
  obtain ⟨n, t, k⟩ := a
  refine ⟨⟨(vwM_F (by omega)).trans hn, n0, n1⟩, hs, ⟨?_, ?_⟩, ⟨l, (vwM_F (by omega)).trans hl, hlw⟩, Int32.ofInt 0, ?_, fun z => absurd (by decide) z⟩
  · show zF (vwM A t k) 343 15 = .int t
    unfold vwM zov
    rw [zuF_x, if_neg (by decide), zuF_x, if_neg (by decide), zuF_x, if_neg (by decide), zuF_x, if_neg (by decide), zuF_x, if_pos ⟨rfl, rfl⟩]
  · show zF (vwM A t k) 343 16 = .int k
    unfold vwM zov
    rw [zuF_x, if_neg (by decide), zuF_x, if_neg (by decide), zuF_x, if_neg (by decide), zuF_x, if_pos ⟨rfl, rfl⟩]
  · show zF (vwM A t k) 343 19 = .int (Int32.ofInt 0)
    unfold vwM zov
    rw [zuF_x, if_neg (by decide), zuF_x, if_neg (by decide), zuF_x, if_pos ⟨rfl, rfl⟩]
def in_vm12 (a : Int32 × Int32 × Int32) (A : zW) : fL_ → List Value → zW → Prop := fun lg vs A' => f_sub [(0, false, .ref 343), (1, false, .int a.2.1), (2, false, .int a.2.2)] lg ∧ vs = [] ∧ A' = A ∧ 0 ≤ a.2.1.toInt ∧ a.2.1.toInt < 100
def in_vm27 (a : Int32 × Int32 × Int32) (A : zW) : fL_ → List Value → zW → Prop := fun lg vs A' => f_sub [(0, false, .ref 343), (1, false, .int a.2.1), (2, false, .int a.2.2)] lg ∧ vs = [] ∧ A' = A ∧ vwPt a.2.1 a.2.2
set_option maxRecDepth 20000 in
set_option maxHeartbeats 4000000 in
theorem zc_X12_view : zdo r_X12_view zq_viewMM := by
  refine zdo_of _ _ _ [(457, 3, zq_in), (741, 1, zq_otherView), (924, 1, zq_lay8), (679, 1, zq_countBits)] (fun a A => [(12, in_vm12 a A), (27, in_vm27 a A)]) 60 fo_X12 rfl (zs_cons rfl za_X12_in (zs_cons rfl za_X12_otherView (zs_cons rfl zc_X12_lay (zs_cons rfl za_X12_countBits zs_nil)))) k_X12_view (fun a A hp => ?_) (fun a A hp => ?_)
  · obtain ⟨n, t, k⟩ := a
    refine List.forall_mem_cons.mpr ⟨?_, List.forall_mem_cons.mpr ⟨?_, fun _ h => absurd h List.not_mem_nil⟩⟩
    · rintro lg vs A' ⟨hs, rfl, rfl, ht⟩
      have e0 := ze0
      have e99 := ze99
      have ek := Int32.toInt_toInt64 k
      refine ⟨_, 60, hs, (k.toInt64, Int64.ofNat 0, Int64.ofInt 99), rfl, trivial, fun h => ?_, fun h => ?_⟩
      rotate_left
      · have h : ¬ ((Int64.ofNat 0).toInt ≤ k.toInt64.toInt ∧ k.toInt64.toInt ≤ (Int64.ofInt 99).toInt) := zb_n (Classical.not_not.mp h)
        have no : ¬ vwPt t k := fun z => h ⟨by have := z.2.1; omega, by have := z.2.2; omega⟩
        exact Or.inl ⟨no, rfl, rfl⟩
      have hk : (Int64.ofNat 0).toInt ≤ k.toInt64.toInt ∧ k.toInt64.toInt ≤ (Int64.ofInt 99).toInt := zb_y h
      exact ⟨⟨rfl, rfl, rfl, trivial⟩, rfl, rfl, ht, by show 0 ≤ k.toInt; omega, by show k.toInt < 100; omega⟩
    · rintro lg vs A' ⟨hs, rfl, rfl, good⟩
      refine ⟨_, 60, hs, rfl, rfl, (), rfl, trivial, ?_⟩
      refine ⟨(n, t, k), rfl, vwM_la hp, ?_⟩
      rintro rv A2 ⟨rfl, hQ⟩
      refine ⟨_, rfl, trivial, ?_⟩
      refine Or.inr ⟨good, hQ, ?_⟩
      show some (Value.int (cbA (iv (zF A2 343 20)).toInt64 64)) = _
      rw [hQ.2.2.2]
      rfl
  · obtain ⟨n, t, k⟩ := a
    have e0 := ze0
    have e99 := ze99
    have et := Int32.toInt_toInt64 t
    refine ⟨(t.toInt64, Int64.ofNat 0, Int64.ofInt 99), rfl, trivial, fun h => ?_, fun h => ?_⟩
    · have h : ¬ ((Int64.ofNat 0).toInt ≤ t.toInt64.toInt ∧ t.toInt64.toInt ≤ (Int64.ofInt 99).toInt) := zb_n h
      have no : ¬ vwPt t k := fun z => h ⟨by have := z.1.1; omega, by have := z.1.2; omega⟩
      exact Or.inl ⟨no, rfl, rfl⟩
    have ht : (Int64.ofNat 0).toInt ≤ t.toInt64.toInt ∧ t.toInt64.toInt ≤ (Int64.ofInt 99).toInt := zb_y h
    exact ⟨⟨rfl, rfl, rfl, trivial⟩, rfl, rfl, by show 0 ≤ t.toInt; omega, by show t.toInt < 100; omega⟩
