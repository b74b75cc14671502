/-! texts: a letter's value, operands and operators of the reference -/
def hb (a : Int64) (k : Int32) : Prop := ((a.toUInt64 >>> (k.toInt64.toUInt64 &&& Int64.toUInt64 63)).toInt64 &&& Int64.ofNat 1).toInt = (Int64.ofNat 1).toInt
def hbB (a : Int64) (k : Int32) : Bool := decide (((a.toUInt64 >>> (k.toInt64.toUInt64 &&& Int64.toUInt64 63)).toInt64 &&& Int64.ofNat 1).toInt = (Int64.ofNat 1).toInt)
theorem hbB_t {a : Int64} {k : Int32} : hbB a k = true ↔ hb a k := decide_eq_true_iff
theorem s_X12_hasBit : f_do r_X12_hasBit (fun As h rv h' => ∀ a : Int64 × Int32, As = [.long a.1, .int a.2] → True → h' = h ∧ rv = some (.int (wv (hbB a.1 a.2)))) := by
  refine do_ofP (fun a : Int64 × Int32 => [.long a.1, .int a.2]) (fun _ _ => True) (fun a h rv h' => h' = h ∧ rv = some (.int (wv (hbB a.1 a.2)))) [] (fun _ _ => []) 40 fo_X12 no_sp k_X12_hasBit (fun _ _ _ => no_hd) (fun a h0 _ => ?_)
  obtain ⟨a, k⟩ := a
  refine ⟨fun h => ?_, fun h => ?_⟩
  · have h : ck_cm .ne (lg_cmp ((a.toUInt64 >>> (k.toInt64.toUInt64 &&& Int64.toUInt64 63)).toInt64 &&& Int64.ofNat 1) (Int64.ofNat 1)).toInt 0 := h
    have h : ¬ hb a k := ck_cm_lg.mp h
    refine ⟨rfl, ?_⟩
    show some (Value.int 0) = some (.int (wv (hbB a k)))
    rw [show hbB a k = false from Bool.eq_false_iff.mpr (fun z => h (hbB_t.mp z))]
    rfl
  · have h : ¬ ck_cm .ne (lg_cmp ((a.toUInt64 >>> (k.toInt64.toUInt64 &&& Int64.toUInt64 63)).toInt64 &&& Int64.ofNat 1) (Int64.ofNat 1)).toInt 0 := h
    have h : ¬ ¬ hb a k := fun z => h (ck_cm_lg.mpr z)
    refine ⟨rfl, ?_⟩
    show some (Value.int 1) = some (.int (wv (hbB a k)))
    rw [hbB_t.mpr (Classical.not_not.mp h)]
    rfl
/-- the word of a letter, bit by bit -/
def lpA (l t : Nat) : Nat → Int64
  | 0 => Int64.ofNat 0
  | n + 1 => lpA l t n ||| (if hbB (Int32.ofNat (64 * t + n)).toInt64 (Int32.ofNat l) = true then Int64.ofNat 1 <<< ((Int32.ofNat n).toInt64 &&& 63) else Int64.ofNat 0)
theorem lpA_ok : ∀ l, l < 8 → ∀ t, t < 4 → lpA l t 64 = ltW l t := by decide +kernel
theorem n32_of {t : Int32} {n : Nat} (h : t.toInt = (n : Int)) : t = Int32.ofNat n := by
  have h2 : t = Int32.ofInt (n : Int) := i32_of h
  rw [h2]
  rfl
abbrev puA : Type := (Nat → Nat) × pS × Int32
def pu_F : puA → List Value := fun (B, _, l) => [.ref (B 343), .int l]
def in_p2 (B : Nat → Nat) (s : pS) (l : Int32) : fL_ → List Value → lW → Prop := fun lg vs w => ∃ (t : Int32) (G : Nat → Int64), f_sub [(2, false, .int t), (0, false, .ref (B 343)), (1, false, .int l)] lg ∧ vs = [] ∧ mX B (s.1, s.2.1 + 1, updW s.2.2 s.2.1 G) s.1.1 s.2.1 w ∧ 0 ≤ t.toInt ∧ t.toInt ≤ 4 ∧ ∀ x, x < t.toInt.toNat → G x = ltW l.toInt.toNat x
def in_p12 (B : Nat → Nat) (s : pS) (l : Int32) : fL_ → List Value → lW → Prop := fun lg vs w => ∃ (t u : Int32) (G : Nat → Int64), f_sub [(5, false, .int u), (3, true, .long (lpA l.toInt.toNat t.toInt.toNat u.toInt.toNat)), (2, false, .int t), (0, false, .ref (B 343)), (1, false, .int l)] lg ∧ vs = [] ∧ mX B (s.1, s.2.1 + 1, updW s.2.2 s.2.1 G) s.1.1 s.2.1 w ∧ (0 ≤ t.toInt ∧ t.toInt < 4) ∧ (0 ≤ u.toInt ∧ u.toInt ≤ 64) ∧ ∀ x, x < t.toInt.toNat → G x = ltW l.toInt.toNat x
def Sp_pu : fP lW := [(475, 2, fLr r_X12_hasBit)]
theorem Sp_pu_ok : f_sp T_X12_pushLetter Sp_pu wW := List.forall_mem_cons.mpr ⟨sp_w rfl (fun _ _ _ _ _ _ h => h.2.2.1), fun _ h => absurd h List.not_mem_nil⟩
set_option maxHeartbeats 4000000 in
theorem s_X12_pushLetter : ∀ (a : puA) (w w' : lW) (rv : Option Value), fLr r_X12_pushLetter (pu_F a) w rv w' → (mS a.1 a.2.1 w ∧ a.2.1.2.1 < 60 ∧ 0 ≤ a.2.2.toInt ∧ a.2.2.toInt < 8) → rv = none ∧ mS a.1 (pshV (ltW a.2.2.toInt.toNat) a.2.1) w' := by
  refine do_ofW pu_F (fun a w => mS a.1 a.2.1 w ∧ a.2.1.2.1 < 60 ∧ 0 ≤ a.2.2.toInt ∧ a.2.2.toInt < 8) (fun a _ rv w' => rv = none ∧ mS a.1 (pshV (ltW a.2.2.toInt.toNat) a.2.1) w') Sp_pu (fun a _ => [(2, in_p2 a.1 a.2.1 a.2.2), (12, in_p12 a.1 a.2.1 a.2.2)]) 40 fo_X12 Sp_pu_ok k_X12_pushLetter (fun a w0 hp => ?_) (fun a w0 hp hd0 => ?_)
  · obtain ⟨B, s, l⟩ := a
    obtain ⟨-, h60, l0, l8⟩ := hp
    have h60 : s.2.1 < 60 := h60
    have l0 : 0 ≤ l.toInt := l0
    have l8 : l.toInt < 8 := l8
    have e4 : (Int32.ofInt 4).toInt = 4 := by decide
    have e64 : (Int32.ofInt 64).toInt = 64 := by decide
    refine List.forall_mem_cons.mpr ⟨?_, List.forall_mem_cons.mpr ⟨?_, fun _ h => absurd h List.not_mem_nil⟩⟩
    · rintro lg vs w ⟨t, G, hs, rfl, h, t0, t4, hG⟩
      have h : mX B (s.1, s.2.1 + 1, updW s.2.2 s.2.1 G) s.1.1 s.2.1 w := h
      obtain ⟨x, g1, ex⟩ := h.gv
      refine ⟨_, 60, hs, fun hc => ?_, fun hc => ?_⟩
      · have hc : (Int32.ofInt 4).toInt ≤ t.toInt := hc
        rw [e4] at hc
        intro q e0 hq
        have hq : w.1[q]? = some (B 343, e0) := hq
        refine ⟨rfl, ?_⟩
        have y := h.pv hq (x := x + 1) (show Value.int (iv (eG fl_X12 162 (hof w.1 (B 343))) + 1) = .int (x + 1) by rw [g1]; rfl) (i_p1 ex (by omega))
        refine mX.ext y (fun i hi z hz => ?_)
        show updW s.2.2 s.2.1 G i z = updW s.2.2 s.2.1 (ltW l.toInt.toNat) i z
        by_cases e : i = s.2.1
        · rw [e, updW_at, updW_at]
          exact hG z (by omega)
        · rw [updW_ne e, updW_ne e]
      · have hc : ¬ (Int32.ofInt 4).toInt ≤ t.toInt := hc
        rw [e4] at hc
        exact ⟨t, 0, G, ⟨rfl, rfl, rfl, rfl, rfl, trivial⟩, rfl, h, ⟨t0, by omega⟩, by decide, hG⟩
    · rintro lg vs w ⟨t, u, G, hs, rfl, h, ⟨t0, t4⟩, ⟨u0, u64⟩, hG⟩
      have h : mX B (s.1, s.2.1 + 1, updW s.2.2 s.2.1 G) s.1.1 s.2.1 w := h
      refine ⟨_, 80, hs, fun hc => ?_, fun hc => ?_⟩
      · have hc : (Int32.ofInt 64).toInt ≤ u.toInt := hc
        rw [e64] at hc
        obtain ⟨x, g1, ex⟩ := h.gv
        obtain ⟨i1, i2, i3⟩ := t_inc t0 t4
        have eu : u.toInt.toNat = 64 := by omega
        intro q e0 hq
        have ei : (Int32.ofInt 4 * iv (eG fl_X12 162 (hof w.1 (B 343))) + t).toNatClampNeg = 4 * s.2.1 + t.toInt.toNat := by
          rw [g1]
          show (Int32.ofInt 4 * x + t).toInt.toNat = _
          rw [four_ix ⟨by omega, by omega⟩ t0 (by omega), nat_i ex]
        have y := h.wv (j := s.2.1) h.g17 hq (u := lpA l.toInt.toNat t.toInt.toNat u.toInt.toNat) ei (show t.toInt.toNat < 4 by omega)
        refine ⟨t + 1, fun x => if x = t.toInt.toNat then lpA l.toInt.toNat t.toInt.toNat u.toInt.toNat else G x, ⟨rfl, rfl, rfl, trivial⟩, rfl, ?_, i1, i2, fun z hz => ?_⟩
        · refine mX.ext y (fun i hi z hz => ?_)
          show updW (updW s.2.2 s.2.1 G) s.2.1 (fun x => if x = t.toInt.toNat then lpA l.toInt.toNat t.toInt.toNat u.toInt.toNat else updW s.2.2 s.2.1 G s.2.1 x) i z = updW s.2.2 s.2.1 (fun x => if x = t.toInt.toNat then lpA l.toInt.toNat t.toInt.toNat u.toInt.toNat else G x) i z
          by_cases e : i = s.2.1
          · rw [e, updW_at, updW_at, updW_at]
          · rw [updW_ne e, updW_ne e, updW_ne e]
        · rw [i3] at hz
          show (if z = t.toInt.toNat then lpA l.toInt.toNat t.toInt.toNat u.toInt.toNat else G z) = ltW l.toInt.toNat z
          by_cases ez : z = t.toInt.toNat
          · rw [if_pos ez, eu, ez]
            exact lpA_ok _ (by omega) _ (by omega)
          · rw [if_neg ez]
            exact hG z (by omega)
      · have hc : ¬ (Int32.ofInt 64).toInt ≤ u.toInt := hc
        rw [e64] at hc
        have n1 : (Int32.ofInt 64 * t + u) = Int32.ofNat (64 * t.toInt.toNat + u.toInt.toNat) := by
          have m1 : (Int32.ofInt 64 * t).toInt = 64 * t.toInt := by
            rw [i_mul (by rw [e64]; omega) (by rw [e64]; omega), e64]
          refine n32_of ?_
          rw [i_add (by rw [m1]; omega) (by rw [m1]; omega), m1]
          omega
        have n2 : u = Int32.ofNat u.toInt.toNat := n32_of (by omega)
        have n3 : l = Int32.ofNat l.toInt.toNat := n32_of (by omega)
        have iu : (u + 1).toInt = u.toInt + 1 := i_inc u0 (by omega)
        intro rv w1 hx
        have hx : fLr r_X12_hasBit [.long (Int32.ofInt 64 * t + u).toInt64, .int l] w rv w1 := hx
        have h1 := h.keep hx (by decide) (by decide)
        obtain ⟨-, er⟩ := (s_X12_hasBit _ _ _ _ _ _ hx).2 ((Int32.ofInt 64 * t + u).toInt64, l) rfl trivial
        have er : rv = some (.int (wv (hbB (Int32.ofInt 64 * t + u).toInt64 l))) := er
        have nx : ∀ {z : Int64} {L : fL_}, f_sub [(5, false, .int (u + 1)), (3, true, .long (lpA l.toInt.toNat t.toInt.toNat u.toInt.toNat ||| z)), (2, false, .int t), (0, false, .ref (B 343)), (1, false, .int l)] L → z = (if hbB (Int32.ofNat (64 * t.toInt.toNat + u.toInt.toNat)).toInt64 (Int32.ofNat l.toInt.toNat) = true then Int64.ofNat 1 <<< ((Int32.ofNat u.toInt.toNat).toInt64 &&& 63) else Int64.ofNat 0) → in_p12 B s l L [] w1 := by
          intro z L hL hz
          subst hz
          refine ⟨t, u + 1, G, ?_, rfl, h1, ⟨t0, t4⟩, ⟨by omega, by omega⟩, hG⟩
          rw [show (u + 1).toInt.toNat = u.toInt.toNat + 1 by omega]
          exact hL
        obtain ⟨b, eb⟩ : ∃ b, hbB (Int32.ofInt 64 * t + u).toInt64 l = b := ⟨_, rfl⟩
        rw [eb] at er
        subst er
        rw [n1] at eb
        cases b with
        | true =>
          refine ⟨fun hb => absurd (show (1 : Int32).toInt = 0 from hb) (by decide), fun _ => ?_⟩
          refine nx ⟨rfl, rfl, rfl, rfl, rfl, trivial⟩ ?_
          rw [← n3, eb, if_pos rfl, ← n2]
          rfl
        | false =>
          refine ⟨fun _ => ?_, fun hb => absurd (show (0 : Int32).toInt = 0 by decide) hb⟩
          refine nx ⟨rfl, rfl, rfl, rfl, rfl, trivial⟩ ?_
          rw [← n3, eb, if_neg (by decide)]
          rfl
  · obtain ⟨B, s, l⟩ := a
    obtain ⟨h, -, -, -⟩ := hp
    obtain ⟨G, hG⟩ := mX.up h
    exact ⟨0, G, ⟨rfl, rfl, rfl, trivial⟩, rfl, hG, by decide, by decide, fun x hx => absurd hx (Nat.not_lt_zero x)⟩
/-- operand: a sign pushed, or a value -/
def mpA (c : Int32) (s : pS) : pS := if c.toInt = 45 ∨ c.toInt = 40 then psh c s else tdS (valS c s)
def in_mo22 (B : Nat → Nat) (s : pS) (c : Int32) : fL_ → List Value → lW → Prop := fun lg vs w => f_sub [(0, false, .ref (B 343))] lg ∧ vs = [] ∧ mX B (psh c s) s.1.1 s.2.1 w ∧ (c.toInt = 45 ∨ c.toInt = 40)
def in_mo67 (B : Nat → Nat) (s : pS) (c : Int32) : fL_ → List Value → lW → Prop := fun lg vs w => f_sub [(0, false, .ref (B 343))] lg ∧ vs = [] ∧ mS B (valS c s) w ∧ ¬ (c.toInt = 45 ∨ c.toInt = 40)
def Sp_mo : fP lW := [(519, 2, fLr r_X12_pushLetter), (531, 2, fLr r_X12_pushAll), (543, 1, fLr r_X12_turned)]
theorem Sp_mo_ok : f_sp T_X12_operand Sp_mo wW := List.forall_mem_cons.mpr ⟨sp_w rfl (fun _ _ _ _ _ _ h => h.2.2.1), List.forall_mem_cons.mpr ⟨sp_w rfl (fun _ _ _ _ _ _ h => h.2.2.1), List.forall_mem_cons.mpr ⟨sp_w rfl (fun _ _ _ _ _ _ h => h.2.2.1), fun _ h => absurd h List.not_mem_nil⟩⟩⟩
set_option maxHeartbeats 4000000 in
theorem s_X12_operand : ∀ (a : puA) (w w' : lW) (rv : Option Value), fLr r_X12_operand (pu_F a) w rv w' → (mS a.1 a.2.1 w ∧ (a.2.1.2.1 < 59 ∧ a.2.1.1.1 < 60) ∧ (a.2.2.toInt = 45 ∨ a.2.2.toInt = 40 ∨ okc a.2.2)) → rv = none ∧ mS a.1 (mpA a.2.2 a.2.1) w' := by
  refine do_ofW pu_F (fun a w => mS a.1 a.2.1 w ∧ (a.2.1.2.1 < 59 ∧ a.2.1.1.1 < 60) ∧ (a.2.2.toInt = 45 ∨ a.2.2.toInt = 40 ∨ okc a.2.2)) (fun a _ rv w' => rv = none ∧ mS a.1 (mpA a.2.2 a.2.1) w') Sp_mo (fun a _ => [(22, in_mo22 a.1 a.2.1 a.2.2), (67, in_mo67 a.1 a.2.1 a.2.2)]) 40 fo_X12 Sp_mo_ok k_X12_operand (fun a w0 hp => ?_) (fun a w0 hp hd0 => ?_)
  · obtain ⟨B, s, c⟩ := a
    obtain ⟨-, ⟨v59, m60⟩, -⟩ := hp
    have v59 : s.2.1 < 59 := v59
    have m60 : s.1.1 < 60 := m60
    refine List.forall_mem_cons.mpr ⟨?_, List.forall_mem_cons.mpr ⟨?_, fun _ h => absurd h List.not_mem_nil⟩⟩
    · rintro lg vs w ⟨hs, rfl, h, hc⟩
      have h : mX B (psh c s) s.1.1 s.2.1 w := h
      obtain ⟨x, g1, ex⟩ := h.gm
      refine ⟨_, 40, hs, ?_⟩
      intro q e0 hq
      have hq : w.1[q]? = some (B 343, e0) := hq
      refine ⟨rfl, ?_⟩
      have y := h.pm hq (x := x + 1) (show Value.int (iv (eG fl_X12 167 (hof w.1 (B 343))) + 1) = .int (x + 1) by rw [g1]; rfl) (i_p1 ex (by omega))
      have e : mpA c s = psh c s := if_pos hc
      show mS B (mpA c s) _
      rw [e]
      exact y
    · rintro lg vs w ⟨hs, rfl, h, hc⟩
      have h : mS B (valS c s) w := h
      refine ⟨_, 40, hs, ?_⟩
      intro rv w1 hx
      have hx : fLr r_X12_turned [.ref (B 343)] w rv w1 := hx
      obtain ⟨rfl, a1⟩ := s_X12_turned (B, valS c s) w w1 rv hx ⟨h, (show 0 < s.2.1 + 1 by omega), (show s.2.1 + 1 ≤ 60 by omega)⟩
      refine ⟨rfl, ?_⟩
      have e : mpA c s = tdS (valS c s) := if_neg hc
      show mS B (mpA c s) w1
      rw [e]
      exact a1
  · obtain ⟨B, s, c⟩ := a
    obtain ⟨h, ⟨v59, m60⟩, hcs⟩ := hp
    have h : mX B s s.1.1 s.2.1 w0 := h
    have v59 : s.2.1 < 59 := v59
    have hcs : c.toInt = 45 ∨ c.toInt = 40 ∨ okc c := hcs
    have e45 : (Int32.ofInt 45).toInt = 45 := by decide
    have e40 : (Int32.ofInt 40).toInt = 40 := by decide
    have e97 : (Int32.ofInt 97).toInt = 97 := by decide
    have e49 : (Int32.ofInt 49).toInt = 49 := by decide
    obtain ⟨x, g1, ex⟩ := h.gm
    have psg : ∀ {q : Nat} {e0 : va_E} {L : fL_}, (c.toInt = 45 ∨ c.toInt = 40) → w0.1[q]? = some (rv_ (eG fl_X12 20 (hof w0.1 (B 343))), e0) → f_sub [(0, false, .ref (B 343))] L → in_mo22 B s c L [] (w0.1.set q (rv_ (eG fl_X12 20 (hof w0.1 (B 343))), sI (iv (eG fl_X12 167 (hof w0.1 (B 343)))).toNatClampNeg c (hof w0.1 (rv_ (eG fl_X12 20 (hof w0.1 (B 343)))))), w0.2) := by
      intro q e0 L hc hq hL
      refine ⟨hL, rfl, h.w347 h.g20 hq ?_, hc⟩
      show (iv (eG fl_X12 167 (hof w0.1 (B 343)))).toInt.toNat = s.1.1
      rw [g1]
      exact nat_i ex
    refine ⟨fun h1 => ?_, fun h1 => ⟨fun h2 => ⟨fun h3 => ⟨fun h4 => ?_, fun h4 => ?_⟩, fun h3 => ?_⟩, fun h2 => ?_⟩⟩
    · have h1 : c.toInt = (Int32.ofInt 45).toInt := h1
      rw [e45] at h1
      intro q e0 hq
      exact psg (Or.inl h1) hq ⟨rfl, trivial⟩
    · have h1 : ¬ c.toInt = (Int32.ofInt 45).toInt := h1
      rw [e45] at h1
      have h2 : ¬ c.toInt = (Int32.ofInt 40).toInt := h2
      rw [e40] at h2
      have h3 : c.toInt < (Int32.ofInt 97).toInt := h3
      rw [e97] at h3
      have h4 : ¬ c.toInt = (Int32.ofInt 49).toInt := h4
      rw [e49] at h4
      have h48 : c.toInt = 48 := by
        have y := (hcs.resolve_left h1).resolve_left h2
        unfold okc at y
        omega
      intro rv w1 hx
      have hx : fLr r_X12_pushAll [.ref (B 343), .int (wv false)] w0 rv w1 := hx
      obtain ⟨rfl, a1⟩ := s_X12_pushAll (B, s, false) w0 w1 rv hx ⟨h, (show s.2.1 < 60 by omega)⟩
      refine ⟨⟨rfl, trivial⟩, rfl, ?_, fun z => z.elim h1 h2⟩
      have e : (fun _ => cW false) = opdW c := by
        funext x
        unfold opdW
        rw [if_neg h4, if_pos h48]
        rfl
      show mS B (s.1, s.2.1 + 1, updW s.2.2 s.2.1 (opdW c)) w1
      rw [← e]
      exact a1
    · have h1 : ¬ c.toInt = (Int32.ofInt 45).toInt := h1
      rw [e45] at h1
      have h2 : ¬ c.toInt = (Int32.ofInt 40).toInt := h2
      rw [e40] at h2
      have h4 : ¬ ¬ c.toInt = (Int32.ofInt 49).toInt := h4
      rw [e49] at h4
      intro rv w1 hx
      have hx : fLr r_X12_pushAll [.ref (B 343), .int (wv true)] w0 rv w1 := hx
      obtain ⟨rfl, a1⟩ := s_X12_pushAll (B, s, true) w0 w1 rv hx ⟨h, (show s.2.1 < 60 by omega)⟩
      refine ⟨⟨rfl, trivial⟩, rfl, ?_, fun z => z.elim h1 h2⟩
      have e : (fun _ => cW true) = opdW c := by
        funext x
        unfold opdW
        rw [if_pos (Classical.not_not.mp h4)]
        rfl
      show mS B (s.1, s.2.1 + 1, updW s.2.2 s.2.1 (opdW c)) w1
      rw [← e]
      exact a1
    · have h1 : ¬ c.toInt = (Int32.ofInt 45).toInt := h1
      rw [e45] at h1
      have h2 : ¬ c.toInt = (Int32.ofInt 40).toInt := h2
      rw [e40] at h2
      have h3 : ¬ c.toInt < (Int32.ofInt 97).toInt := h3
      rw [e97] at h3
      have hr : 97 ≤ c.toInt ∧ c.toInt ≤ 104 := by
        have y := (hcs.resolve_left h1).resolve_left h2
        unfold okc at y
        omega
      have ek : (c - Int32.ofInt 97).toInt = c.toInt - 97 := by
        rw [i_sub (by rw [e97]; omega) (by rw [e97]; omega), e97]
      intro rv w1 hx
      have hx : fLr r_X12_pushLetter [.ref (B 343), .int (c - Int32.ofInt 97)] w0 rv w1 := hx
      obtain ⟨rfl, a1⟩ := s_X12_pushLetter (B, s, c - Int32.ofInt 97) w0 w1 rv hx ⟨h, (show s.2.1 < 60 by omega), (show 0 ≤ (c - Int32.ofInt 97).toInt by omega), (show (c - Int32.ofInt 97).toInt < 8 by omega)⟩
      refine ⟨⟨rfl, trivial⟩, rfl, ?_, fun z => z.elim h1 h2⟩
      have e : ltW (c - Int32.ofInt 97).toInt.toNat = opdW c := by
        funext x
        unfold opdW
        rw [if_neg (by omega), if_neg (by omega), ek]
      show mS B (s.1, s.2.1 + 1, updW s.2.2 s.2.1 (opdW c)) w1
      rw [← e]
      exact a1
    · have h2 : ¬ ¬ c.toInt = (Int32.ofInt 40).toInt := h2
      rw [e40] at h2
      intro q e0 hq
      exact psg (Or.inr (Classical.not_not.mp h2)) hq ⟨rfl, trivial⟩
