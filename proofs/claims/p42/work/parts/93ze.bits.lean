section
/-! sets of worlds: the class's operations on four words -/
theorem fo_X1 : f_ok5 fl_X1 pl_X1 nw_X1 kl_X1 il_X1 = true := by decide +kernel
theorem fo_J9 : f_ok5 fl_J9 pl_J9 nw_J9 kl_J9 il_J9 = true := by decide +kernel
abbrev bxA : Type := Nat × List Value × Nat × ClassId × (Nat → Int64)
def bx (x : bxA) (h : fH) : Prop := h x.1 = some (.inr (1, x.2.1)) ∧ x.2.1.getD 0 .null = .ref x.2.2.1 ∧ h x.2.2.1 = some (.inl (x.2.2.2.1, 4, .inr (.inl x.2.2.2.2)))
def m1_ : Int64 := Int64.ofInt (-1)
def o_turn (u : Int64) : Int64 := u ^^^ m1_
def o_meet (u v : Int64) : Int64 := u &&& v
def o_join (u v : Int64) : Int64 := u ||| v
def o_match (u v : Int64) : Int64 := (u ^^^ v) ^^^ m1_
def opV (how : Int32) (u v : Int64) : Int64 := if how.toInt = 0 then o_turn u else if how.toInt = 1 then o_meet u v else if how.toInt = 2 then o_join u v else if how.toInt = 3 then o_join (o_turn u) v else o_match u v
def P_op1 (o : Int64 → Int64) : fPh := fun As h rv h' => ∀ a : bxA, As = [.ref a.1] → bx a h → rv = none ∧ ∃ g : Nat → Int64, h' = hset h a.2.2.1 (.inl (a.2.2.2.1, 4, .inr (.inl g))) ∧ ∀ x, x < 4 → g x = o (a.2.2.2.2 x)
def P_op2 (o : Int64 → Int64 → Int64) : fPh := fun As h rv h' => ∀ a : bxA × bxA, As = [.ref a.1.1, .ref a.2.1] → (bx a.1 h ∧ bx a.2 h ∧ a.1.2.2.1 ≠ a.2.2.2.1) → rv = none ∧ ∃ g : Nat → Int64, h' = hset h a.1.2.2.1 (.inl (a.1.2.2.2.1, 4, .inr (.inl g))) ∧ ∀ x, x < 4 → g x = o (a.1.2.2.2.2 x) (a.2.2.2.2.2 x)
def in_o1 (o : Int64 → Int64) (p a : Nat) (cA : ClassId) (f : Nat → Int64) (h0 : fH) : fL_ → List Value → fH → Prop := fun lg vs w => ∃ (t : Int32) (g : Nat → Int64), f_sub [(1, false, .int t), (0, false, .ref p)] lg ∧ vs = [] ∧ w = hset h0 a (.inl (cA, 4, .inr (.inl g))) ∧ 0 ≤ t.toInt ∧ t.toInt ≤ 4 ∧ ∀ x, x < 4 → g x = if x < t.toInt.toNat then o (f x) else f x
def in_o2 (o : Int64 → Int64 → Int64) (p p2 a : Nat) (cA : ClassId) (f f2 : Nat → Int64) (h0 : fH) : fL_ → List Value → fH → Prop := fun lg vs w => ∃ (t : Int32) (g : Nat → Int64), f_sub [(2, false, .int t), (0, false, .ref p), (1, false, .ref p2)] lg ∧ vs = [] ∧ w = hset h0 a (.inl (cA, 4, .inr (.inl g))) ∧ 0 ≤ t.toInt ∧ t.toInt ≤ 4 ∧ ∀ x, x < 4 → g x = if x < t.toInt.toNat then o (f x) (f2 x) else f x
theorem e4_ : (Int32.ofNat 4).toInt = 4 := by decide
theorem o_step {o : Int64 → Int64} {f g : Nat → Int64} {t : Nat} (h : ∀ x, x < 4 → g x = if x < t then o (f x) else f x) (ht : t < 4) : ∀ x, x < 4 → vp_updL g t (o (g t)) x = if x < t + 1 then o (f x) else f x := by
  intro x hx
  unfold vp_updL
  by_cases e : x = t
  · subst e
    rw [if_pos rfl, if_pos (by omega), h x hx, if_neg (by omega)]
  · rw [if_neg e, h x hx]
    by_cases hl : x < t
    · rw [if_pos hl, if_pos (by omega)]
    · rw [if_neg hl, if_neg (by omega)]
theorem o_step2 {o : Int64 → Int64 → Int64} {f f2 g : Nat → Int64} {t : Nat} (h : ∀ x, x < 4 → g x = if x < t then o (f x) (f2 x) else f x) (ht : t < 4) : ∀ x, x < 4 → vp_updL g t (o (g t) (f2 t)) x = if x < t + 1 then o (f x) (f2 x) else f x := by
  intro x hx
  unfold vp_updL
  by_cases e : x = t
  · subst e
    rw [if_pos rfl, if_pos (by omega), h x hx, if_neg (by omega)]
  · rw [if_neg e, h x hx]
    by_cases hl : x < t
    · rw [if_pos hl, if_pos (by omega)]
    · rw [if_neg hl, if_neg (by omega)]
theorem t_end {t : Int32} (h1 : t.toInt ≤ 4) (h2 : 4 ≤ t.toInt) : t.toInt.toNat = 4 := by omega
theorem t_inc {t : Int32} (h0 : 0 ≤ t.toInt) (h1 : t.toInt < 4) : 0 ≤ (t + 1).toInt ∧ (t + 1).toInt ≤ 4 ∧ (t + 1).toInt.toNat = t.toInt.toNat + 1 := by
  have h := i_inc h0 (by omega)
  rw [h]
  omega
set_option maxHeartbeats 4000000 in
theorem s_X1_turn : f_do r_X1_turn (P_op1 o_turn) := by
  refine do_ofP (fun a : bxA => [.ref a.1]) (fun a h => bx a h) (fun a h rv h' => rv = none ∧ ∃ g : Nat → Int64, h' = hset h a.2.2.1 (.inl (a.2.2.2.1, 4, .inr (.inl g))) ∧ ∀ x, x < 4 → g x = o_turn (a.2.2.2.2 x)) [] (fun a h => [(2, in_o1 o_turn a.1 a.2.2.1 a.2.2.2.1 a.2.2.2.2 h)]) 60 fo_X1 no_sp k_X1_turn (fun a h0 hp => ?_) (fun a h0 hp => ?_)
  · refine List.forall_mem_cons.mpr ⟨?_, fun _ h => absurd h List.not_mem_nil⟩
    obtain ⟨p, fs, a, cA, f⟩ := a
    obtain ⟨hp, h0a, ha⟩ := hp
    have hp : h0 p = some (.inr (1, fs)) := hp
    have h0a : fs.getD 0 .null = .ref a := h0a
    have ha : h0 a = some (.inl (cA, 4, .inr (.inl f))) := ha
    rintro lg vs w ⟨t, g, hs, rfl, ew, t0, t4, hg⟩
    have ew : w = hset h0 a (.inl (cA, 4, .inr (.inl g))) := ew
    have hg : ∀ x, x < 4 → g x = if x < t.toInt.toNat then o_turn (f x) else f x := hg
    have g1 : eG fl_X1 13 (w p) = .ref a := by
      rw [ew, hset_ne (Ne.symm (ne_of_h hp ha)), hp, ← h0a]
      rfl
    have wa : w a = some (.inl (cA, 4, .inr (.inl g))) := by rw [ew, hset_at]
    refine ⟨_, 60, hs, fun hc => ?_, fun hc => ?_⟩
    · have hc : (Int32.ofNat (eL (w (rv_ (eG fl_X1 13 (w p)))))).toInt ≤ t.toInt := hc
      rw [g1] at hc
      have hc : (Int32.ofNat (eL (w a))).toInt ≤ t.toInt := hc
      rw [wa] at hc
      have hc : (Int32.ofNat 4).toInt ≤ t.toInt := hc
      rw [e4_] at hc
      refine ⟨rfl, g, ew, fun x hx => ?_⟩
      rw [hg x hx, t_end t4 hc, if_pos hx]
    · have hc : ¬ (Int32.ofNat (eL (w (rv_ (eG fl_X1 13 (w p)))))).toInt ≤ t.toInt := hc
      rw [g1] at hc
      have hc : ¬ (Int32.ofNat (eL (w a))).toInt ≤ t.toInt := hc
      rw [wa] at hc
      have hc : ¬ (Int32.ofNat 4).toInt ≤ t.toInt := hc
      rw [e4_] at hc
      obtain ⟨i1, i2, i3⟩ := t_inc t0 (show t.toInt < 4 by omega)
      refine ⟨t + 1, vp_updL g t.toInt.toNat (o_turn (g t.toInt.toNat)), ⟨rfl, rfl, trivial⟩, rfl, ?_, i1, i2, ?_⟩
      · show hset w (rv_ (eG fl_X1 13 (w p))) (sJ t.toNatClampNeg (eJ (w (rv_ (eG fl_X1 13 (w p)))) t.toNatClampNeg ^^^ m1_) (w (rv_ (eG fl_X1 13 (w p))))) = _
        rw [g1]
        show hset w a (sJ t.toNatClampNeg (eJ (w a) t.toNatClampNeg ^^^ m1_) (w a)) = _
        rw [wa, ew]
        exact hset_hset
      · show ∀ x, x < 4 → vp_updL g t.toInt.toNat (o_turn (g t.toInt.toNat)) x = if x < (t + 1).toInt.toNat then o_turn (f x) else f x
        rw [i3]
        exact o_step hg (by omega)
  · obtain ⟨p, fs, a, cA, f⟩ := a
    obtain ⟨hp, h0a, ha⟩ := hp
    exact ⟨0, f, ⟨rfl, rfl, trivial⟩, rfl, (hset_self ha).symm, by decide, by decide, fun x _ => (if_neg (Nat.not_lt_zero x)).symm⟩
set_option maxHeartbeats 4000000 in
theorem s_X1_meet : f_do r_X1_meet (P_op2 o_meet) := by
  refine do_ofP (fun a : bxA × bxA => [.ref a.1.1, .ref a.2.1]) (fun a h => bx a.1 h ∧ bx a.2 h ∧ a.1.2.2.1 ≠ a.2.2.2.1) (fun a h rv h' => rv = none ∧ ∃ g : Nat → Int64, h' = hset h a.1.2.2.1 (.inl (a.1.2.2.2.1, 4, .inr (.inl g))) ∧ ∀ x, x < 4 → g x = o_meet (a.1.2.2.2.2 x) (a.2.2.2.2.2 x)) [] (fun a h => [(2, in_o2 o_meet a.1.1 a.2.1 a.1.2.2.1 a.1.2.2.2.1 a.1.2.2.2.2 a.2.2.2.2.2 h)]) 60 fo_X1 no_sp k_X1_meet (fun a h0 hp => ?_) (fun a h0 hp => ?_)
  · refine List.forall_mem_cons.mpr ⟨?_, fun _ h => absurd h List.not_mem_nil⟩
    obtain ⟨⟨p, fs, a, cA, f⟩, ⟨p2, fs2, a2, cA2, f2⟩⟩ := a
    obtain ⟨⟨hp, h0a, ha⟩, ⟨hp2, h0a2, ha2⟩, hne⟩ := hp
    have hp : h0 p = some (.inr (1, fs)) := hp
    have h0a : fs.getD 0 .null = .ref a := h0a
    have ha : h0 a = some (.inl (cA, 4, .inr (.inl f))) := ha
    have hp2 : h0 p2 = some (.inr (1, fs2)) := hp2
    have h0a2 : fs2.getD 0 .null = .ref a2 := h0a2
    have ha2 : h0 a2 = some (.inl (cA2, 4, .inr (.inl f2))) := ha2
    have hne : a ≠ a2 := hne
    rintro lg vs w ⟨t, g, hs, rfl, ew, t0, t4, hg⟩
    have ew : w = hset h0 a (.inl (cA, 4, .inr (.inl g))) := ew
    have hg : ∀ x, x < 4 → g x = if x < t.toInt.toNat then o_meet (f x) (f2 x) else f x := hg
    have g1 : eG fl_X1 13 (w p) = .ref a := by
      rw [ew, hset_ne (Ne.symm (ne_of_h hp ha)), hp, ← h0a]
      rfl
    have g2 : eG fl_X1 13 (w p2) = .ref a2 := by
      rw [ew, hset_ne (Ne.symm (ne_of_h hp2 ha)), hp2, ← h0a2]
      rfl
    have wa : w a = some (.inl (cA, 4, .inr (.inl g))) := by rw [ew, hset_at]
    have wa2 : w a2 = some (.inl (cA2, 4, .inr (.inl f2))) := by rw [ew, hset_ne (Ne.symm hne), ha2]
    have l1 : (Int32.ofNat (eL (w (rv_ (eG fl_X1 13 (w p)))))).toInt = 4 := by
      rw [g1]
      show (Int32.ofNat (eL (w a))).toInt = 4
      rw [wa]
      exact e4_
    have l2 : (Int32.ofNat (eL (w (rv_ (eG fl_X1 13 (w p2)))))).toInt = 4 := by
      rw [g2]
      show (Int32.ofNat (eL (w a2))).toInt = 4
      rw [wa2]
      exact e4_
    refine ⟨_, 60, hs, fun hc => ?_, fun hc => ⟨fun hd => ?_, fun _ => ?_⟩⟩
    · have hc : (Int32.ofNat (eL (w (rv_ (eG fl_X1 13 (w p)))))).toInt ≤ t.toInt := hc
      rw [l1] at hc
      refine ⟨rfl, g, ew, fun x hx => ?_⟩
      rw [hg x hx, t_end t4 hc, if_pos hx]
    · have hc : ¬ (Int32.ofNat (eL (w (rv_ (eG fl_X1 13 (w p)))))).toInt ≤ t.toInt := hc
      rw [l1] at hc
      have hd : (Int32.ofNat (eL (w (rv_ (eG fl_X1 13 (w p2)))))).toInt ≤ t.toInt := hd
      rw [l2] at hd
      exact absurd hd hc
    · have hc : ¬ (Int32.ofNat (eL (w (rv_ (eG fl_X1 13 (w p)))))).toInt ≤ t.toInt := hc
      rw [l1] at hc
      obtain ⟨i1, i2, i3⟩ := t_inc t0 (show t.toInt < 4 by omega)
      refine ⟨t + 1, vp_updL g t.toInt.toNat (o_meet (g t.toInt.toNat) (f2 t.toInt.toNat)), ⟨rfl, rfl, rfl, trivial⟩, rfl, ?_, i1, i2, ?_⟩
      · show hset w (rv_ (eG fl_X1 13 (w p))) (sJ t.toNatClampNeg (eJ (w (rv_ (eG fl_X1 13 (w p)))) t.toNatClampNeg &&& eJ (w (rv_ (eG fl_X1 13 (w p2)))) t.toNatClampNeg) (w (rv_ (eG fl_X1 13 (w p))))) = _
        rw [g1, g2]
        show hset w a (sJ t.toNatClampNeg (eJ (w a) t.toNatClampNeg &&& eJ (w a2) t.toNatClampNeg) (w a)) = _
        rw [wa, wa2, ew]
        exact hset_hset
      · show ∀ x, x < 4 → vp_updL g t.toInt.toNat (o_meet (g t.toInt.toNat) (f2 t.toInt.toNat)) x = if x < (t + 1).toInt.toNat then o_meet (f x) (f2 x) else f x
        rw [i3]
        exact o_step2 hg (by omega)
  · obtain ⟨⟨p, fs, a, cA, f⟩, ⟨p2, fs2, a2, cA2, f2⟩⟩ := a
    obtain ⟨⟨hp, h0a, ha⟩, -, -⟩ := hp
    exact ⟨0, f, ⟨rfl, rfl, rfl, trivial⟩, rfl, (hset_self ha).symm, by decide, by decide, fun x _ => (if_neg (Nat.not_lt_zero x)).symm⟩
set_option maxHeartbeats 4000000 in
theorem s_X1_join : f_do r_X1_join (P_op2 o_join) := by
  refine do_ofP (fun a : bxA × bxA => [.ref a.1.1, .ref a.2.1]) (fun a h => bx a.1 h ∧ bx a.2 h ∧ a.1.2.2.1 ≠ a.2.2.2.1) (fun a h rv h' => rv = none ∧ ∃ g : Nat → Int64, h' = hset h a.1.2.2.1 (.inl (a.1.2.2.2.1, 4, .inr (.inl g))) ∧ ∀ x, x < 4 → g x = o_join (a.1.2.2.2.2 x) (a.2.2.2.2.2 x)) [] (fun a h => [(2, in_o2 o_join a.1.1 a.2.1 a.1.2.2.1 a.1.2.2.2.1 a.1.2.2.2.2 a.2.2.2.2.2 h)]) 60 fo_X1 no_sp k_X1_join (fun a h0 hp => ?_) (fun a h0 hp => ?_)
  · refine List.forall_mem_cons.mpr ⟨?_, fun _ h => absurd h List.not_mem_nil⟩
    obtain ⟨⟨p, fs, a, cA, f⟩, ⟨p2, fs2, a2, cA2, f2⟩⟩ := a
    obtain ⟨⟨hp, h0a, ha⟩, ⟨hp2, h0a2, ha2⟩, hne⟩ := hp
    have hp : h0 p = some (.inr (1, fs)) := hp
    have h0a : fs.getD 0 .null = .ref a := h0a
    have ha : h0 a = some (.inl (cA, 4, .inr (.inl f))) := ha
    have hp2 : h0 p2 = some (.inr (1, fs2)) := hp2
    have h0a2 : fs2.getD 0 .null = .ref a2 := h0a2
    have ha2 : h0 a2 = some (.inl (cA2, 4, .inr (.inl f2))) := ha2
    have hne : a ≠ a2 := hne
    rintro lg vs w ⟨t, g, hs, rfl, ew, t0, t4, hg⟩
    have ew : w = hset h0 a (.inl (cA, 4, .inr (.inl g))) := ew
    have hg : ∀ x, x < 4 → g x = if x < t.toInt.toNat then o_join (f x) (f2 x) else f x := hg
    have g1 : eG fl_X1 13 (w p) = .ref a := by
      rw [ew, hset_ne (Ne.symm (ne_of_h hp ha)), hp, ← h0a]
      rfl
    have g2 : eG fl_X1 13 (w p2) = .ref a2 := by
      rw [ew, hset_ne (Ne.symm (ne_of_h hp2 ha)), hp2, ← h0a2]
      rfl
    have wa : w a = some (.inl (cA, 4, .inr (.inl g))) := by rw [ew, hset_at]
    have wa2 : w a2 = some (.inl (cA2, 4, .inr (.inl f2))) := by rw [ew, hset_ne (Ne.symm hne), ha2]
    have l1 : (Int32.ofNat (eL (w (rv_ (eG fl_X1 13 (w p)))))).toInt = 4 := by
      rw [g1]
      show (Int32.ofNat (eL (w a))).toInt = 4
      rw [wa]
      exact e4_
    have l2 : (Int32.ofNat (eL (w (rv_ (eG fl_X1 13 (w p2)))))).toInt = 4 := by
      rw [g2]
      show (Int32.ofNat (eL (w a2))).toInt = 4
      rw [wa2]
      exact e4_
    refine ⟨_, 60, hs, fun hc => ?_, fun hc => ⟨fun hd => ?_, fun _ => ?_⟩⟩
    · have hc : (Int32.ofNat (eL (w (rv_ (eG fl_X1 13 (w p)))))).toInt ≤ t.toInt := hc
      rw [l1] at hc
      refine ⟨rfl, g, ew, fun x hx => ?_⟩
      rw [hg x hx, t_end t4 hc, if_pos hx]
    · have hc : ¬ (Int32.ofNat (eL (w (rv_ (eG fl_X1 13 (w p)))))).toInt ≤ t.toInt := hc
      rw [l1] at hc
      have hd : (Int32.ofNat (eL (w (rv_ (eG fl_X1 13 (w p2)))))).toInt ≤ t.toInt := hd
      rw [l2] at hd
      exact absurd hd hc
    · have hc : ¬ (Int32.ofNat (eL (w (rv_ (eG fl_X1 13 (w p)))))).toInt ≤ t.toInt := hc
      rw [l1] at hc
      obtain ⟨i1, i2, i3⟩ := t_inc t0 (show t.toInt < 4 by omega)
      refine ⟨t + 1, vp_updL g t.toInt.toNat (o_join (g t.toInt.toNat) (f2 t.toInt.toNat)), ⟨rfl, rfl, rfl, trivial⟩, rfl, ?_, i1, i2, ?_⟩
      · show hset w (rv_ (eG fl_X1 13 (w p))) (sJ t.toNatClampNeg (eJ (w (rv_ (eG fl_X1 13 (w p)))) t.toNatClampNeg ||| eJ (w (rv_ (eG fl_X1 13 (w p2)))) t.toNatClampNeg) (w (rv_ (eG fl_X1 13 (w p))))) = _
        rw [g1, g2]
        show hset w a (sJ t.toNatClampNeg (eJ (w a) t.toNatClampNeg ||| eJ (w a2) t.toNatClampNeg) (w a)) = _
        rw [wa, wa2, ew]
        exact hset_hset
      · show ∀ x, x < 4 → vp_updL g t.toInt.toNat (o_join (g t.toInt.toNat) (f2 t.toInt.toNat)) x = if x < (t + 1).toInt.toNat then o_join (f x) (f2 x) else f x
        rw [i3]
        exact o_step2 hg (by omega)
  · obtain ⟨⟨p, fs, a, cA, f⟩, ⟨p2, fs2, a2, cA2, f2⟩⟩ := a
    obtain ⟨⟨hp, h0a, ha⟩, -, -⟩ := hp
    exact ⟨0, f, ⟨rfl, rfl, rfl, trivial⟩, rfl, (hset_self ha).symm, by decide, by decide, fun x _ => (if_neg (Nat.not_lt_zero x)).symm⟩
set_option maxHeartbeats 4000000 in
theorem s_X1_match : f_do r_X1_match (P_op2 o_match) := by
  refine do_ofP (fun a : bxA × bxA => [.ref a.1.1, .ref a.2.1]) (fun a h => bx a.1 h ∧ bx a.2 h ∧ a.1.2.2.1 ≠ a.2.2.2.1) (fun a h rv h' => rv = none ∧ ∃ g : Nat → Int64, h' = hset h a.1.2.2.1 (.inl (a.1.2.2.2.1, 4, .inr (.inl g))) ∧ ∀ x, x < 4 → g x = o_match (a.1.2.2.2.2 x) (a.2.2.2.2.2 x)) [] (fun a h => [(2, in_o2 o_match a.1.1 a.2.1 a.1.2.2.1 a.1.2.2.2.1 a.1.2.2.2.2 a.2.2.2.2.2 h)]) 60 fo_X1 no_sp k_X1_match (fun a h0 hp => ?_) (fun a h0 hp => ?_)
  · refine List.forall_mem_cons.mpr ⟨?_, fun _ h => absurd h List.not_mem_nil⟩
    obtain ⟨⟨p, fs, a, cA, f⟩, ⟨p2, fs2, a2, cA2, f2⟩⟩ := a
    obtain ⟨⟨hp, h0a, ha⟩, ⟨hp2, h0a2, ha2⟩, hne⟩ := hp
    have hp : h0 p = some (.inr (1, fs)) := hp
    have h0a : fs.getD 0 .null = .ref a := h0a
    have ha : h0 a = some (.inl (cA, 4, .inr (.inl f))) := ha
    have hp2 : h0 p2 = some (.inr (1, fs2)) := hp2
    have h0a2 : fs2.getD 0 .null = .ref a2 := h0a2
    have ha2 : h0 a2 = some (.inl (cA2, 4, .inr (.inl f2))) := ha2
    have hne : a ≠ a2 := hne
    rintro lg vs w ⟨t, g, hs, rfl, ew, t0, t4, hg⟩
    have ew : w = hset h0 a (.inl (cA, 4, .inr (.inl g))) := ew
    have hg : ∀ x, x < 4 → g x = if x < t.toInt.toNat then o_match (f x) (f2 x) else f x := hg
    have g1 : eG fl_X1 13 (w p) = .ref a := by
      rw [ew, hset_ne (Ne.symm (ne_of_h hp ha)), hp, ← h0a]
      rfl
    have g2 : eG fl_X1 13 (w p2) = .ref a2 := by
      rw [ew, hset_ne (Ne.symm (ne_of_h hp2 ha)), hp2, ← h0a2]
      rfl
    have wa : w a = some (.inl (cA, 4, .inr (.inl g))) := by rw [ew, hset_at]
    have wa2 : w a2 = some (.inl (cA2, 4, .inr (.inl f2))) := by rw [ew, hset_ne (Ne.symm hne), ha2]
    have l1 : (Int32.ofNat (eL (w (rv_ (eG fl_X1 13 (w p)))))).toInt = 4 := by
      rw [g1]
      show (Int32.ofNat (eL (w a))).toInt = 4
      rw [wa]
      exact e4_
    have l2 : (Int32.ofNat (eL (w (rv_ (eG fl_X1 13 (w p2)))))).toInt = 4 := by
      rw [g2]
      show (Int32.ofNat (eL (w a2))).toInt = 4
      rw [wa2]
      exact e4_
    refine ⟨_, 60, hs, fun hc => ?_, fun hc => ⟨fun hd => ?_, fun _ => ?_⟩⟩
    · have hc : (Int32.ofNat (eL (w (rv_ (eG fl_X1 13 (w p)))))).toInt ≤ t.toInt := hc
      rw [l1] at hc
      refine ⟨rfl, g, ew, fun x hx => ?_⟩
      rw [hg x hx, t_end t4 hc, if_pos hx]
    · have hc : ¬ (Int32.ofNat (eL (w (rv_ (eG fl_X1 13 (w p)))))).toInt ≤ t.toInt := hc
      rw [l1] at hc
      have hd : (Int32.ofNat (eL (w (rv_ (eG fl_X1 13 (w p2)))))).toInt ≤ t.toInt := hd
      rw [l2] at hd
      exact absurd hd hc
    · have hc : ¬ (Int32.ofNat (eL (w (rv_ (eG fl_X1 13 (w p)))))).toInt ≤ t.toInt := hc
      rw [l1] at hc
      obtain ⟨i1, i2, i3⟩ := t_inc t0 (show t.toInt < 4 by omega)
      refine ⟨t + 1, vp_updL g t.toInt.toNat (o_match (g t.toInt.toNat) (f2 t.toInt.toNat)), ⟨rfl, rfl, rfl, trivial⟩, rfl, ?_, i1, i2, ?_⟩
      · show hset w (rv_ (eG fl_X1 13 (w p))) (sJ t.toNatClampNeg ((eJ (w (rv_ (eG fl_X1 13 (w p)))) t.toNatClampNeg ^^^ eJ (w (rv_ (eG fl_X1 13 (w p2)))) t.toNatClampNeg) ^^^ m1_) (w (rv_ (eG fl_X1 13 (w p))))) = _
        rw [g1, g2]
        show hset w a (sJ t.toNatClampNeg ((eJ (w a) t.toNatClampNeg ^^^ eJ (w a2) t.toNatClampNeg) ^^^ m1_) (w a)) = _
        rw [wa, wa2, ew]
        exact hset_hset
      · show ∀ x, x < 4 → vp_updL g t.toInt.toNat (o_match (g t.toInt.toNat) (f2 t.toInt.toNat)) x = if x < (t + 1).toInt.toNat then o_match (f x) (f2 x) else f x
        rw [i3]
        exact o_step2 hg (by omega)
  · obtain ⟨⟨p, fs, a, cA, f⟩, ⟨p2, fs2, a2, cA2, f2⟩⟩ := a
    obtain ⟨⟨hp, h0a, ha⟩, -, -⟩ := hp
    exact ⟨0, f, ⟨rfl, rfl, rfl, trivial⟩, rfl, (hset_self ha).symm, by decide, by decide, fun x _ => (if_neg (Nat.not_lt_zero x)).symm⟩
theorem s_X1_imply : f_do r_X1_imply (P_op2 (fun u v => o_join (o_turn u) v)) := by
  refine do_ofP (fun a : bxA × bxA => [.ref a.1.1, .ref a.2.1]) (fun a h => bx a.1 h ∧ bx a.2 h ∧ a.1.2.2.1 ≠ a.2.2.2.1) (fun a h rv h' => rv = none ∧ ∃ g : Nat → Int64, h' = hset h a.1.2.2.1 (.inl (a.1.2.2.2.1, 4, .inr (.inl g))) ∧ ∀ x, x < 4 → g x = o_join (o_turn (a.1.2.2.2.2 x)) (a.2.2.2.2.2 x)) [(117, 1, P_op1 o_turn), (126, 2, P_op2 o_join)] (fun _ _ => []) 40 fo_X1 (List.forall_mem_cons.mpr ⟨sp_one rfl s_X1_turn, List.forall_mem_cons.mpr ⟨sp_one rfl s_X1_join, no_sp⟩⟩) k_X1_imply (fun _ _ _ => no_hd) (fun a h0 hp => ?_)
  obtain ⟨⟨p, fs, a, cA, f⟩, ⟨p2, fs2, a2, cA2, f2⟩⟩ := a
  obtain ⟨⟨hp, h0a, ha⟩, ⟨hp2, h0a2, ha2⟩, hne⟩ := hp
  have hp : h0 p = some (.inr (1, fs)) := hp
  have ha : h0 a = some (.inl (cA, 4, .inr (.inl f))) := ha
  have hp2 : h0 p2 = some (.inr (1, fs2)) := hp2
  have ha2 : h0 a2 = some (.inl (cA2, 4, .inr (.inl f2))) := ha2
  have hne : a ≠ a2 := hne
  intro rv h1 hx
  obtain ⟨rfl, g, e1, hg⟩ := hx (p, fs, a, cA, f) rfl ⟨hp, h0a, ha⟩
  have e1 : h1 = hset h0 a (.inl (cA, 4, .inr (.inl g))) := e1
  intro rv h2 hx2
  obtain ⟨rfl, g2, e2, hg2⟩ := hx2 ((p, fs, a, cA, g), (p2, fs2, a2, cA2, f2)) rfl ⟨⟨(by rw [e1, hset_ne (Ne.symm (ne_of_h hp ha))]; exact hp), h0a, (by rw [e1]; exact hset_at)⟩, ⟨(by rw [e1, hset_ne (Ne.symm (ne_of_h hp2 ha))]; exact hp2), h0a2, (by rw [e1, hset_ne (Ne.symm hne)]; exact ha2)⟩, hne⟩
  have e2 : h2 = hset h1 a (.inl (cA, 4, .inr (.inl g2))) := e2
  refine ⟨rfl, g2, ?_, fun x hx => ?_⟩
  · rw [e2, e1]
    exact hset_hset
  · rw [hg2 x hx]
    show o_join (g x) (f2 x) = _
    rw [hg x hx]
def P_min : fPh := fun As h rv h' => ∀ a : Int32 × Int32, As = [.int a.1, .int a.2] → True → h' = h ∧ rv = some (.int (if a.1.toInt ≤ a.2.toInt then a.1 else a.2))
theorem s_J9_min : f_do r_J9_min_7cf53 P_min := by
  refine do_ofP (fun a : Int32 × Int32 => [.int a.1, .int a.2]) (fun _ _ => True) (fun a h rv h' => h' = h ∧ rv = some (.int (if a.1.toInt ≤ a.2.toInt then a.1 else a.2))) [] (fun _ _ => []) 40 fo_J9 no_sp k_J9_min_7cf53 (fun _ _ _ => no_hd) (fun a h0 _ => ?_)
  obtain ⟨x, y⟩ := a
  refine ⟨fun h => ?_, fun h => ?_⟩
  · have h : y.toInt < x.toInt := h
    refine ⟨rfl, ?_⟩
    show some (Value.int y) = some (.int (if x.toInt ≤ y.toInt then x else y))
    rw [if_neg (by omega)]
  · have h : ¬ y.toInt < x.toInt := h
    refine ⟨rfl, ?_⟩
    show some (Value.int x) = some (.int (if x.toInt ≤ y.toInt then x else y))
    rw [if_pos (by omega)]
abbrev clA : Type := (Nat × Int32 × Nat × Int32 × Int32) × (ClassId × Nat × (Nat → Int64)) × (ClassId × Nat × (Nat → Int64))
def P_cpl : fPh := fun As h rv h' => ∀ a : clA, As = [.ref a.1.1, .int a.1.2.1, .ref a.1.2.2.1, .int a.1.2.2.2.1, .int a.1.2.2.2.2] → h a.1.1 = some (.inl (a.2.1.1, a.2.1.2.1, .inr (.inl a.2.1.2.2))) → h a.1.2.2.1 = some (.inl (a.2.2.1, a.2.2.2.1, .inr (.inl a.2.2.2.2))) → rv = none ∧ h' = hset h a.1.2.2.1 (.inl (a.2.2.1, a.2.2.2.1, .inr (.inl (va_cpy a.2.1.2.2 a.2.2.2.2 a.1.2.1.toNatClampNeg a.1.2.2.2.1.toNatClampNeg a.1.2.2.2.2.toNatClampNeg))))
theorem sp_cpl {T : fT} {key : Nat} (hT : T.2.2.2.2.2.1 key = (5, f_cpl)) : (T.2.2.2.2.2.1 (key, 5, P_cpl).1).1 = (key, 5, P_cpl).2.1 ∧ ∀ (As : List Value) (w : fH) (ws : va_W) (sh : List Nat) (rv : Option Value) (ws' : va_W) (sh' : List Nat), wH w ws sh → (T.2.2.2.2.2.1 (key, 5, P_cpl).1).2 As ws sh rv ws' sh' → ∃ w', wH w' ws' sh' ∧ (key, 5, P_cpl).2.2 As w rv w' := by
  refine ⟨by show (T.2.2.2.2.2.1 key).1 = 5; rw [hT], fun As w ws sh rv ws' sh' hw hx => ?_⟩
  have hx : (T.2.2.2.2.2.1 key).2 As ws sh rv ws' sh' := hx
  rw [hT] at hx
  obtain ⟨a0, a1, sp, dp, n, q0, q1, n0, n1, c0, c1, f, g, rfl, h0, h1, rfl, rfl, rfl⟩ := (show f_cpl As ws sh rv ws' sh' from hx)
  obtain ⟨rfl, hd⟩ := hw
  refine ⟨_, ⟨rfl, hd.set h1⟩, fun a e x0 x1 => ⟨rfl, ?_⟩⟩
  obtain ⟨⟨b0, sp', b1, dp', n'⟩, ⟨d0, m0, f'⟩, ⟨d1, m1, g'⟩⟩ := a
  have e : [Value.ref a0, .int sp, .ref a1, .int dp, .int n] = [.ref b0, .int sp', .ref b1, .int dp', .int n'] := e
  simp only [List.cons.injEq, Value.ref.injEq, Value.int.injEq, and_true] at e
  obtain ⟨rfl, rfl, rfl, rfl, rfl⟩ := e
  have y0 : hof ws a0 = some (.inl (d0, m0, .inr (.inl f'))) := x0
  have y1 : hof ws a1 = some (.inl (d1, m1, .inr (.inl g'))) := x1
  rw [hof_at hd h0] at y0
  rw [hof_at hd h1] at y1
  clear x0 x1
  cases y0
  cases y1
  exact hof_set hd h1
/-- become: the words of the other -/
theorem s_X1_become : f_do r_X1_become (fun As h rv h' => ∀ a : bxA × bxA, As = [.ref a.1.1, .ref a.2.1] → (bx a.1 h ∧ bx a.2 h) → rv = none ∧ ∃ g : Nat → Int64, h' = hset h a.1.2.2.1 (.inl (a.1.2.2.2.1, 4, .inr (.inl g))) ∧ ∀ x, x < 4 → g x = a.2.2.2.2.2 x) := by
  refine do_ofP (fun a : bxA × bxA => [.ref a.1.1, .ref a.2.1]) (fun a h => bx a.1 h ∧ bx a.2 h) (fun a h rv h' => rv = none ∧ ∃ g : Nat → Int64, h' = hset h a.1.2.2.1 (.inl (a.1.2.2.2.1, 4, .inr (.inl g))) ∧ ∀ x, x < 4 → g x = a.2.2.2.2.2 x) [(91, 2, P_min), (100, 5, P_cpl)] (fun _ _ => []) 40 fo_X1 (List.forall_mem_cons.mpr ⟨sp_one rfl s_J9_min, List.forall_mem_cons.mpr ⟨sp_cpl rfl, no_sp⟩⟩) k_X1_become (fun _ _ _ => no_hd) (fun a h0 hp => ?_)
  obtain ⟨⟨p, fs, a, cA, f⟩, ⟨p2, fs2, a2, cA2, f2⟩⟩ := a
  obtain ⟨⟨hp, h0a, ha⟩, ⟨hp2, h0a2, ha2⟩⟩ := hp
  have hp : h0 p = some (.inr (1, fs)) := hp
  have h0a : fs.getD 0 .null = .ref a := h0a
  have ha : h0 a = some (.inl (cA, 4, .inr (.inl f))) := ha
  have hp2 : h0 p2 = some (.inr (1, fs2)) := hp2
  have h0a2 : fs2.getD 0 .null = .ref a2 := h0a2
  have ha2 : h0 a2 = some (.inl (cA2, 4, .inr (.inl f2))) := ha2
  have g1 : eG fl_X1 13 (h0 p) = .ref a := by
    rw [hp, ← h0a]
    rfl
  have g2 : eG fl_X1 13 (h0 p2) = .ref a2 := by
    rw [hp2, ← h0a2]
    rfl
  have l1 : eL (h0 (rv_ (eG fl_X1 13 (h0 p)))) = 4 := by
    rw [g1]
    show eL (h0 a) = 4
    rw [ha]
    rfl
  have l2 : eL (h0 (rv_ (eG fl_X1 13 (h0 p2)))) = 4 := by
    rw [g2]
    show eL (h0 a2) = 4
    rw [ha2]
    rfl
  intro rv h1 hx
  obtain ⟨e1, er⟩ := hx (Int32.ofNat (eL (h0 (rv_ (eG fl_X1 13 (h0 p))))), Int32.ofNat (eL (h0 (rv_ (eG fl_X1 13 (h0 p2)))))) rfl trivial
  have e1 : h1 = h0 := e1
  subst h1
  have er : rv = some (.int (if (Int32.ofNat (eL (h0 (rv_ (eG fl_X1 13 (h0 p)))))).toInt ≤ (Int32.ofNat (eL (h0 (rv_ (eG fl_X1 13 (h0 p2)))))).toInt then Int32.ofNat (eL (h0 (rv_ (eG fl_X1 13 (h0 p))))) else Int32.ofNat (eL (h0 (rv_ (eG fl_X1 13 (h0 p2))))))) := er
  rw [l1, l2, if_pos (Int.le_refl _)] at er
  subst er
  intro rv h2 hx2
  have e3 : [eG fl_X1 13 (h0 p2), Value.int (Int32.ofInt 0), eG fl_X1 13 (h0 p), .int (Int32.ofInt 0), .int (Int32.ofNat 4)] = [.ref a2, .int (Int32.ofInt 0), .ref a, .int (Int32.ofInt 0), .int (Int32.ofNat 4)] := by rw [g1, g2]
  obtain ⟨rfl, e2⟩ := hx2 ((a2, Int32.ofInt 0, a, Int32.ofInt 0, Int32.ofNat 4), (cA2, 4, f2), (cA, 4, f)) e3 ha2 ha
  refine ⟨rfl, _, e2, fun x hx => ?_⟩
  show va_cpy f2 f 0 0 4 x = f2 x
  unfold va_cpy
  rw [if_pos ⟨Nat.zero_le _, by omega⟩]
  congr 1
  omega
end
section
/-! make, with the sentences' worlds -/
theorem bl_S (i : Nat) (hi : i < 60) : lp_L2[2 + 2 * i]? = some (0, 1, 1, [(2, 0, 3 + 2 * i)]) := lp_at_ok (List.all_eq_true.mp (show (List.range 60).all (fun i => lp_at lp_L2 (2 + 2 * i) (0, 1, 1, [(2, 0, 3 + 2 * i)])) = true by decide +kernel) i (List.mem_range.mpr hi))
theorem bt_S : ∀ i, i < 60 → lp_sh[2 + 2 * i]? = some 86 := by decide +kernel
theorem bl_W (i : Nat) (hi : i < 60) : lp_L2[3 + 2 * i]? = some (2, 1, 4, []) := lp_at_ok (List.all_eq_true.mp (show (List.range 60).all (fun i => lp_at lp_L2 (3 + 2 * i) (2, 1, 4, [])) = true by decide +kernel) i (List.mem_range.mpr hi))
theorem bt_W : ∀ i, i < 60 → lp_sh[3 + 2 * i]? = some 87 := by decide +kernel
def wS (B : Nat → Nat) (W : Nat → Nat → Int64) (w : lW) : Prop := ∀ i, i < 60 → aJ B (3 + 2 * i) 4 (W i) w
theorem wS.keep {B : Nat → Nat} {W : Nat → Nat → Int64} {rt : Nat} {Wr : List (Nat × Nat)} {T : fT} {cc : ByteArray} {As : List Value} {w w' : lW} {rv : Option Value} (hW : wS B W w) (hI : bI B w) (h : fLr (fq cw_TT cw_SG rt Wr T cc) As w rv w') (hw : (87, 0) ∉ Wr) : wS B W w' :=
  fun i hi => (hW i hi).keep hI h (bl_W i hi) (bt_W i hi) (show (2 : Nat) ≠ 0 by decide) hw
/-- a sentence as a set -/
theorem wS.bx {B : Nat → Nat} {W : Nat → Nat → Int64} {w : lW} (hW : wS B W w) (hI : bI B w) {tys : List (ClassId × FieldType)} (hw : ck_wo tys cw_TT cw_SG w.1 w.2) {i : Nat} (hi : i < 60) : ∃ (fs : List Value) (cA : ClassId), bx (B (2 + 2 * i), fs, B (3 + 2 * i), cA, W i) (hof w.1) := by
  obtain ⟨vs, h1, -, h3⟩ := hI.2.ov hI.1 hw (bl_S i hi) (bt_S i hi) (show cw_TT[86]? = some (0, 1, _, _) from rfl)
  obtain ⟨cA, h4⟩ := hW i hi
  exact ⟨vs, cA, h1, h3 0 (3 + 2 * i) rfl, h4⟩
theorem wS.upd {B : Nat → Nat} {W : Nat → Nat → Int64} {w w' : lW} (hW : wS B W w) (hI : bI B w) {C : Nat} (hC : C < 60) {cA : ClassId} {g : Nat → Int64} (hh : hof w'.1 = hset (hof w.1) (B (3 + 2 * C)) (.inl (cA, 4, .inr (.inl g)))) : wS B (fun i => if i = C then g else W i) w' := by
  intro i hi
  by_cases e : i = C
  · subst e
    refine ⟨cA, ?_⟩
    show hof w'.1 (B (3 + 2 * i)) = some (.inl (cA, 4, .inr (.inl (if i = i then g else W i))))
    rw [if_pos rfl, hh, hset_at]
  · obtain ⟨c2, h2⟩ := hW i hi
    refine ⟨c2, ?_⟩
    show hof w'.1 (B (3 + 2 * i)) = some (.inl (c2, 4, .inr (.inl (if i = C then g else W i))))
    rw [if_neg e, hh, hset_ne (hI.2.ne hI.1 (bl_W i hi) (bl_W C hC) (by omega))]
    exact h2
def mk6Q (c how a b c' : Int32) (W W' : Nat → Nat → Int64) : Prop := (c'.toInt = c.toInt ∧ ∀ i x, W' i x = W i x) ∨ (c'.toInt = c.toInt + 1 ∧ (∀ i, i ≠ c.toInt.toNat → W' i = W i) ∧ ∀ x, x < 4 → W' c.toInt.toNat x = opV how (W a.toInt.toNat x) (W b.toInt.toNat x))
abbrev k6A : Type := ((Nat → Nat) × Int32 × (Nat → Nat → Int64)) × Int32 × Int32 × Int32
def k6_F : k6A → List Value := fun ((B, _, _), how, a, b) => [.ref (B 0), .int how, .int a, .int b]
def k6_P : k6A → lW → Prop := fun ((B, c, W), _, _, _) w => nS B c w ∧ wS B W w ∧ 0 ≤ c.toInt ∧ c.toInt ≤ 60
def k6O (B : Nat → Nat) (c : Int32) (W : Nat → Nat → Int64) (how a b : Int32) (rv : Option Value) (w' : lW) : Prop := ∃ (v c' : Int32) (W' : Nat → Nat → Int64), rv = some (.int v) ∧ oF B 0 11 1 (.int c') w' ∧ wS B W' w' ∧ mkQ how a b c v c' ∧ mk6Q c how a b c' W W'
def k6_Q : k6A → lW → Option Value → lW → Prop := fun ((B, c, W), how, a, b) _ rv w' => k6O B c W how a b rv w'
def in_6k33 (B : Nat → Nat) (c : Int32) (W : Nat → Nat → Int64) (how a b : Int32) : fL_ → List Value → lW → Prop := fun lg vs w => in_k33 B c how a b lg vs w ∧ wS B W w
def in_6k157 (B : Nat → Nat) (c : Int32) (W : Nat → Nat → Int64) (how a b : Int32) : fL_ → List Value → lW → Prop := fun lg vs w => in_k157 B c how a b lg vs w ∧ ∃ W', wS B W' w ∧ (∀ i, i ≠ c.toInt.toNat → W' i = W i) ∧ ∀ x, x < 4 → W' c.toInt.toNat x = opV how (W a.toInt.toNat x) (W b.toInt.toNat x)
def k6_hd : k6A → lW → fI lW := fun ((B, c, W), how, a, b) _ => [(33, in_6k33 B c W how a b), (157, in_6k157 B c W how a b)]
section
variable {B : Nat → Nat} {c how a b : Int32} {W : Nat → Nat → Int64} {w0 : lW}
theorem g_sent {w : lW} (hI : nS B c w) (h0 : 0 ≤ c.toInt) (h60 : c.toInt < 60) : eR (hof w.1 (rv_ (eG fl_X11 15 (hof w.1 (B 0))))) (iv (eG fl_X11 108 (hof w.1 (B 0)))).toNatClampNeg = .ref (B (2 + 2 * c.toInt.toNat)) := by
  rw [g_cnt hI.2.2, bR (fl := fl_X11) (i := 15) (k2 := 0) (r := 1) hI.2.2 hI.1 bl_0 rfl rfl]
  obtain ⟨cA, g, h, hg⟩ := hI.2.1
  show eR (hof w.1 (B 1)) c.toInt.toNat = _
  rw [h]
  show va_rf (g c.toInt.toNat) = _
  rw [hg _ (by omega)]
  rfl
/-- an operation on the new sentence -/
theorem k6_op {o : Int64 → Int64 → Int64} {C D : Nat} {W1 : Nat → Nat → Int64} {w1 w2 : lW} {rv : Option Value} {rt : Nat} {Wr : List (Nat × Nat)} {T : fT} {cc : ByteArray} (hx : fLr (fq cw_TT cw_SG rt Wr T cc) [.ref (B (2 + 2 * C)), .ref (B (2 + 2 * D))] w1 rv w2) (hs : f_do (fq cw_TT cw_SG rt Wr T cc) (P_op2 o)) (hI : bI B w1) (hW : wS B W1 w1) (hC : C < 60) (hD : D < 60) (hn : C ≠ D) : rv = none ∧ ∃ g : Nat → Int64, wS B (fun i => if i = C then g else W1 i) w2 ∧ ∀ x, x < 4 → g x = o (W1 C x) (W1 D x) := by
  obtain ⟨tys, hw, -⟩ := hx.2.2.2.2.1
  obtain ⟨fs1, c1, b1⟩ := hW.bx hI hw hC
  obtain ⟨fs2, c2, b2⟩ := hW.bx hI hw hD
  obtain ⟨rfl, g, e, hg⟩ := (hs _ _ _ _ _ _ hx).2 (_, _) rfl ⟨b1, b2, hI.2.ne hI.1 (bl_W C hC) (bl_W D hD) (by omega)⟩
  exact ⟨rfl, g, hW.upd hI hC e, hg⟩
theorem k6_bc {C D : Nat} {W1 : Nat → Nat → Int64} {w1 w2 : lW} {rv : Option Value} (hx : fLr r_X1_become [.ref (B (2 + 2 * C)), .ref (B (2 + 2 * D))] w1 rv w2) (hI : bI B w1) (hW : wS B W1 w1) (hC : C < 60) (hD : D < 60) : rv = none ∧ ∃ g : Nat → Int64, wS B (fun i => if i = C then g else W1 i) w2 ∧ ∀ x, x < 4 → g x = W1 D x := by
  obtain ⟨tys, hw, -⟩ := hx.2.2.2.2.1
  obtain ⟨fs1, c1, b1⟩ := hW.bx hI hw hC
  obtain ⟨fs2, c2, b2⟩ := hW.bx hI hw hD
  obtain ⟨rfl, g, e, hg⟩ := (s_X1_become _ _ _ _ _ _ hx).2 (_, _) rfl ⟨b1, b2⟩
  exact ⟨rfl, g, hW.upd hI hC e, hg⟩
theorem k6_tn {C : Nat} {W1 : Nat → Nat → Int64} {w1 w2 : lW} {rv : Option Value} (hx : fLr r_X1_turn [.ref (B (2 + 2 * C))] w1 rv w2) (hI : bI B w1) (hW : wS B W1 w1) (hC : C < 60) : rv = none ∧ ∃ g : Nat → Int64, wS B (fun i => if i = C then g else W1 i) w2 ∧ ∀ x, x < 4 → g x = o_turn (W1 C x) := by
  obtain ⟨tys, hw, -⟩ := hx.2.2.2.2.1
  obtain ⟨fs1, c1, b1⟩ := hW.bx hI hw hC
  obtain ⟨rfl, g, e, hg⟩ := (s_X1_turn _ _ _ _ _ _ hx).2 _ rfl b1
  exact ⟨rfl, g, hW.upd hI hC e, hg⟩
/-- the words of the new sentence after become and an operation -/
theorem k6_two {C : Nat} {W : Nat → Nat → Int64} {g g2 : Nat → Int64} {w : lW} (h : wS B (fun i => if i = C then g2 else (fun i => if i = C then g else W i) i) w) {V : Nat → Int64} (hV : ∀ x, x < 4 → g2 x = V x) : ∃ W', wS B W' w ∧ (∀ i, i ≠ C → W' i = W i) ∧ ∀ x, x < 4 → W' C x = V x := by
  refine ⟨_, h, fun i hi => ?_, fun x hx => ?_⟩
  · show (if i = C then g2 else if i = C then g else W i) = W i
    rw [if_neg hi, if_neg hi]
  · show (if C = C then g2 else if C = C then g else W C) x = V x
    rw [if_pos rfl]
    exact hV x hx
set_option maxHeartbeats 4000000 in
theorem k6_h33 (hc60 : 0 ≤ c.toInt ∧ c.toInt ≤ 60) : ∀ (lg : fL_) (vs : List Value) (w : lW), in_6k33 B c W how a b lg vs w → ∃ (L : fL_) (f : Nat), f_sub L lg ∧ wh oW T_X11_make Sp_mk (k6_Q ((B, c, W), how, a, b) w0) K_X11_make (k6_hd ((B, c, W), how, a, b) w0) f 33 L vs w := by
  rintro lg vs w ⟨⟨hs, rfl, hI, hh⟩, hW⟩
  have e60 : (Int32.ofNat 60).toInt = 60 := by decide
  have unk : ¬ ((0 ≤ a.toInt ∧ a.toInt < c.toInt) ∧ (how.toInt = 0 ∨ (0 ≤ b.toInt ∧ b.toInt < c.toInt))) → k6O B c W how a b (some (.int (-1))) w := by
    intro hx
    refine ⟨-1, c, W, rfl, hI.2.2, hW, ?_, Or.inl ⟨rfl, fun _ _ => rfl⟩⟩
    unfold mkQ
    rw [if_pos hh, if_neg hx]
    exact ⟨rfl, rfl⟩
  refine ⟨_, 80, hs, fun h1 => ?_, fun h1 => ⟨fun h2 => ?_, fun h2 => ?_⟩⟩
  · have h1 : at_ B c a = .null := h1
    exact unk (fun z => at_nul.mp h1 z.1)
  rotate_left
  · have h2 : (if how.toInt = 0 then at_ B c a else at_ B c b) = .null := h2
    refine unk (fun z => ?_)
    split at h2
    · exact at_nul.mp h2 z.1
    · rename_i hn
      exact at_nul.mp h2 (z.2.resolve_left hn)
  have h1 : ¬ at_ B c a = .null := h1
  have h2 : ¬ (if how.toInt = 0 then at_ B c a else at_ B c b) = .null := h2
  have ha : 0 ≤ a.toInt ∧ a.toInt < c.toInt := Classical.byContradiction fun z => h1 (at_nul.mpr z)
  have hb : how.toInt = 0 ∨ (0 ≤ b.toInt ∧ b.toInt < c.toInt) := by
    by_cases hz : how.toInt = 0
    · exact Or.inl hz
    · rw [if_neg hz] at h2
      exact Or.inr (Classical.byContradiction fun z => h2 (at_nul.mpr z))
  refine ⟨fun hf => ?_, fun hf => ?_⟩
  rotate_left
  · have hf : ¬ (iv (eG fl_X11 108 (hof w.1 (B 0)))).toInt < (Int32.ofNat (eL (hof w.1 (rv_ (eG fl_X11 15 (hof w.1 (B 0))))))).toInt := hf
    rw [g_cnt hI.2.2, g_len hI.1 hI.2.2 hI.2.1, e60] at hf
    have hf : ¬ c.toInt < 60 := hf
    refine ⟨-4, c, W, rfl, hI.2.2, hW, ?_, Or.inl ⟨rfl, fun _ _ => rfl⟩⟩
    unfold mkQ
    rw [if_pos hh, if_pos ⟨ha, hb⟩, if_pos (by omega)]
    exact ⟨rfl, rfl⟩
  have hf : (iv (eG fl_X11 108 (hof w.1 (B 0)))).toInt < (Int32.ofNat (eL (hof w.1 (rv_ (eG fl_X11 15 (hof w.1 (B 0))))))).toInt := hf
  rw [g_cnt hI.2.2, g_len hI.1 hI.2.2 hI.2.1, e60] at hf
  have hf : c.toInt < 60 := hf
  have cN : c.toInt.toNat < 60 := by omega
  have aN : a.toInt.toNat < 60 := by omega
  have ac : c.toInt.toNat ≠ a.toInt.toNat := by omega
  have gs := g_sent hI hc60.1 hf
  intro rv w1 hx
  have hx : fLr r_X1_become [eR (hof w.1 (rv_ (eG fl_X11 15 (hof w.1 (B 0))))) (iv (eG fl_X11 108 (hof w.1 (B 0)))).toNatClampNeg, at_ B c a] w rv w1 := hx
  rw [gs, at_ref ha] at hx
  have hI1 := hI.keep hx (by decide) (by decide)
  obtain ⟨rfl, g, hW1, hg⟩ := k6_bc hx hI.1 hW cN aN
  have fin : ∀ {w2 : lW} {g2 : Nat → Int64}, nS B c w2 → wS B (fun i => if i = c.toInt.toNat then g2 else (fun i => if i = c.toInt.toNat then g else W i) i) w2 → (∀ x, x < 4 → g2 x = opV how (W a.toInt.toNat x) (W b.toInt.toNat x)) → in_6k157 B c W how a b [(0, false, .ref (B 0))] [] w2 := fun h1 h2 h3 => ⟨⟨⟨rfl, trivial⟩, rfl, h1, hh, ⟨ha, hb⟩, hf⟩, k6_two h2 h3⟩
  have gC : ∀ x, (if c.toInt.toNat = c.toInt.toNat then g else W c.toInt.toNat) x = g x := fun x => by rw [if_pos rfl]
  have two : ¬ how.toInt = 0 → ∀ {o : Int64 → Int64 → Int64} {rt : Nat} {Wr : List (Nat × Nat)} {T : fT} {cc : ByteArray} {w2 : lW} {rv : Option Value}, fLr (fq cw_TT cw_SG rt Wr T cc) [eR (hof w.1 (rv_ (eG fl_X11 15 (hof w.1 (B 0))))) (iv (eG fl_X11 108 (hof w.1 (B 0)))).toNatClampNeg, if how.toInt = 0 then at_ B c a else at_ B c b] w1 rv w2 → f_do (fq cw_TT cw_SG rt Wr T cc) (P_op2 o) → bs_K.all (fun x => !(Wr.contains x)) = true → (11, 1) ∉ Wr → (∀ u v, o u v = opV how u v) → rv = none ∧ in_6k157 B c W how a b [(0, false, .ref (B 0))] [] w2 := by
    intro h0 o rt Wr T cc w2 rv hx2 hs2 k1 k2 ho
    have hbb := hb.resolve_left h0
    have bc : c.toInt.toNat ≠ b.toInt.toNat := by omega
    rw [gs, if_neg h0, at_ref hbb] at hx2
    obtain ⟨rfl, g2, hW2, hg2⟩ := k6_op hx2 hs2 hI1.1 hW1 cN (by omega) bc
    refine ⟨rfl, fin (hI1.keep hx2 k1 k2) hW2 (fun x hx4 => ?_)⟩
    rw [hg2 x hx4]
    show o ((if c.toInt.toNat = c.toInt.toNat then g else W c.toInt.toNat) x) ((if b.toInt.toNat = c.toInt.toNat then g else W b.toInt.toNat) x) = _
    rw [gC, if_neg (Ne.symm bc), hg x hx4, ho]
  refine ⟨fun h3 => ?_, fun h3 h4 => ⟨fun h5 => ?_, fun h5 => ?_, fun h5 => ?_, fun h5 => ?_, trivial⟩⟩
  · have h3 : how.toInt < 0 ∨ 3 < how.toInt := h3
    have e : how.toInt = 4 := by omega
    intro rv w2 hx2
    obtain ⟨rfl, h⟩ := two (by omega) (show fLr r_X1_match _ w1 rv w2 from hx2) s_X1_match (by decide) (by decide) (fun u v => by unfold opV; rw [if_neg (by omega), if_neg (by omega), if_neg (by omega), if_neg (by omega)])
    exact ⟨⟨⟨rfl, trivial⟩, h.1.2⟩, h.2⟩
  · have h5 : how.toInt = 0 := h5
    intro rv w2 hx2
    have hx2 : fLr r_X1_turn [eR (hof w.1 (rv_ (eG fl_X11 15 (hof w.1 (B 0))))) (iv (eG fl_X11 108 (hof w.1 (B 0)))).toNatClampNeg] w1 rv w2 := hx2
    rw [gs] at hx2
    obtain ⟨rfl, g2, hW2, hg2⟩ := k6_tn hx2 hI1.1 hW1 cN
    have h := fin (hI1.keep hx2 (by decide) (by decide)) hW2 (fun x hx4 => by
      rw [hg2 x hx4]
      show o_turn ((if c.toInt.toNat = c.toInt.toNat then g else W c.toInt.toNat) x) = _
      rw [gC, hg x hx4]
      unfold opV
      rw [if_pos h5])
    exact ⟨⟨⟨rfl, trivial⟩, h.1.2⟩, h.2⟩
  · have h5 : how.toInt = 0 + 1 := h5
    intro rv w2 hx2
    obtain ⟨rfl, h⟩ := two (by omega) (show fLr r_X1_meet _ w1 rv w2 from hx2) s_X1_meet (by decide) (by decide) (fun u v => by unfold opV; rw [if_neg (by omega), if_pos (by omega)])
    exact ⟨⟨⟨rfl, trivial⟩, h.1.2⟩, h.2⟩
  · have h5 : how.toInt = 0 + 1 + 1 := h5
    intro rv w2 hx2
    obtain ⟨rfl, h⟩ := two (by omega) (show fLr r_X1_join _ w1 rv w2 from hx2) s_X1_join (by decide) (by decide) (fun u v => by unfold opV; rw [if_neg (by omega), if_neg (by omega), if_pos (by omega)])
    exact ⟨⟨⟨rfl, trivial⟩, h.1.2⟩, h.2⟩
  · have h5 : how.toInt = 0 + 1 + 1 + 1 := h5
    intro rv w2 hx2
    obtain ⟨rfl, h⟩ := two (by omega) (show fLr r_X1_imply _ w1 rv w2 from hx2) s_X1_imply (by decide) (by decide) (fun u v => by unfold opV; rw [if_neg (by omega), if_neg (by omega), if_neg (by omega), if_pos (by omega)])
    exact ⟨⟨⟨rfl, trivial⟩, h.1.2⟩, h.2⟩
set_option maxHeartbeats 4000000 in
theorem k6_h157 : ∀ (lg : fL_) (vs : List Value) (w : lW), in_6k157 B c W how a b lg vs w → ∃ (L : fL_) (f : Nat), f_sub L lg ∧ wh oW T_X11_make Sp_mk (k6_Q ((B, c, W), how, a, b) w0) K_X11_make (k6_hd ((B, c, W), how, a, b) w0) f 157 L vs w := by
  rintro lg vs w ⟨⟨hs, rfl, hI, hh, hab, hf⟩, W', hW, h1, h2⟩
  have hf : c.toInt < 60 := hf
  refine ⟨_, 40, hs, ?_⟩
  intro rv w1 hx
  have hx : fLr r_X11_newSentence [.ref (B 0)] w rv w1 := hx
  obtain ⟨rfl, a1⟩ := cl_new hI.1 hI.2.2 hx
  refine ⟨c, c + 1, W', rfl, a1, hW.keep hI.1 hx (by decide), ?_, Or.inr ⟨?_, h1, h2⟩⟩
  · unfold mkQ
    rw [if_pos hh, if_pos hab, if_neg (by omega)]
    exact ⟨rfl, rfl⟩
  · have h3 := hab.1
    exact i_inc (by omega) (by omega)
set_option maxHeartbeats 4000000 in
theorem k6_en {w : lW} (hI : nS B c w) (hW : wS B W w) (hc60 : 0 ≤ c.toInt ∧ c.toInt ≤ 60) : wl oW T_X11_make Sp_mk (k6_Q ((B, c, W), how, a, b) w0) K_X11_make (k6_hd ((B, c, W), how, a, b) w0) 40 K_X11_make 0 (la 0 (k6_F ((B, c, W), how, a, b))) [] w := by
  have e4 : (Int32.ofInt 4).toInt = 4 := by decide
  have bad : ¬ (0 ≤ how.toInt ∧ how.toInt ≤ 4) → k6O B c W how a b (some (.int (-2))) w := by
    intro hx
    refine ⟨-2, c, W, rfl, hI.2.2, hW, ?_, Or.inl ⟨rfl, fun _ _ => rfl⟩⟩
    unfold mkQ
    rw [if_neg hx]
    exact ⟨rfl, rfl⟩
  refine ⟨fun h1 => ?_, fun h1 => ⟨fun h2 => ?_, fun h2 => ?_⟩⟩
  · have h1 : how.toInt < 0 := h1
    exact bad (by omega)
  rotate_left
  · have h2 : ¬ how.toInt ≤ (Int32.ofInt 4).toInt := h2
    exact bad (by omega)
  have h1 : ¬ how.toInt < 0 := h1
  have h2 : how.toInt ≤ (Int32.ofInt 4).toInt := h2
  intro rv w1 hx
  have hx : fLr r_X11_sentenceAt [.ref (B 0), .int a] w rv w1 := hx
  obtain ⟨rfl, hI1⟩ := cl_at hI hc60.2 hx
  have hW1 := hW.keep hI.1 hx (by decide)
  refine ⟨fun h3 => ?_, fun h3 => ?_⟩
  · have h3 : ¬ how.toInt = 0 := h3
    intro rv w2 hx2
    have hx2 : fLr r_X11_sentenceAt [.ref (B 0), .int b] w1 rv w2 := hx2
    obtain ⟨rfl, hI2⟩ := cl_at hI1 hc60.2 hx2
    refine ⟨⟨⟨rfl, rfl, rfl, trivial⟩, ?_, hI2, (show 0 ≤ how.toInt by omega), (show how.toInt ≤ 4 by omega)⟩, hW1.keep hI1.1 hx2 (by decide)⟩
    rw [if_neg h3]
    rfl
  · have h3 : ¬ ¬ how.toInt = 0 := h3
    refine ⟨⟨⟨rfl, rfl, rfl, trivial⟩, ?_, hI1, (show 0 ≤ how.toInt by omega), (show how.toInt ≤ 4 by omega)⟩, hW1⟩
    rw [if_pos (Classical.not_not.mp h3)]
    rfl
end
theorem s6_X11_make : ∀ (a : k6A) (w w' : lW) (rv : Option Value), fLr r_X11_make (k6_F a) w rv w' → k6_P a w → k6_Q a w rv w' := by
  refine do_ofW k6_F k6_P k6_Q Sp_mk k6_hd 40 fo_X11 Sp_mk_ok k_X11_make (fun a w0 hp => ?_) (fun a w0 hp hd0 => ?_)
  · obtain ⟨⟨B, c, W⟩, how, a, b⟩ := a
    obtain ⟨-, -, hc60⟩ := hp
    exact List.forall_mem_cons.mpr ⟨k6_h33 hc60, List.forall_mem_cons.mpr ⟨k6_h157, fun _ h => absurd h List.not_mem_nil⟩⟩
  · obtain ⟨⟨B, c, W⟩, how, a, b⟩ := a
    exact k6_en hp.1 hp.2.1 hp.2.2
end
section
/-! make, with the sentences' worlds: the reference's -/
def mk7Q (c how x y c' : Int32) (g g' : Nat → Int64) : Prop := (c'.toInt = c.toInt ∧ ∀ u, g' u = g u) ∨ (c'.toInt = c.toInt + 1 ∧ (∀ u, (u < 4 * c.toInt.toNat ∨ 4 * c.toInt.toNat + 4 ≤ u) → g' u = g u) ∧ ∀ u, u < 4 → g' (4 * c.toInt.toNat + u) = opV how (g (4 * x.toInt.toNat + u)) (g (4 * y.toInt.toNat + u)))
def m7O (p : Nat) (c : Int32) (aT : Nat) (g : Nat → Int64) (how x y : Int32) (rv : Option Value) (h' : fH) : Prop := ∃ (v c' : Int32) (g' : Nat → Int64), rv = some (.int v) ∧ (∃ fs' : List Value, h' p = some (.inr (12, fs')) ∧ 1 < fs'.length ∧ fs'.getD 1 .null = .int c') ∧ (∃ cT : ClassId, h' aT = some (.inl (cT, 240, .inr (.inl g')))) ∧ mkQ how x y c v c' ∧ mk7Q c how x y c' g g'
def m7_Q : mmA → fH → Option Value → fH → Prop := fun ((p, _, c), (aT, _, g), how, x, y) _ rv h' => m7O p c aT g how x y rv h'
def s7 (c how x y : Int32) (t : Nat) (g g' : Nat → Int64) : Prop := ∀ u, g' u = if 4 * c.toInt.toNat ≤ u ∧ u < 4 * c.toInt.toNat + t then opV how (g (4 * x.toInt.toNat + (u - 4 * c.toInt.toNat))) (g (4 * y.toInt.toNat + (u - 4 * c.toInt.toNat))) else g u
def g7 (c how x y : Int32) : Prop := (0 ≤ how.toInt ∧ how.toInt ≤ 4) ∧ ((0 ≤ x.toInt ∧ x.toInt < c.toInt) ∧ (how.toInt = 0 ∨ (0 ≤ y.toInt ∧ y.toInt < c.toInt))) ∧ c.toInt < 60
def in_7q52 (p : Nat) (c : Int32) (aT : Nat) (cT : ClassId) (g0 : Nat → Int64) (how x y : Int32) (h0 : fH) : fL_ → List Value → fH → Prop := fun lg vs w => ∃ (t : Int32) (g : Nat → Int64), f_sub [(4, false, .int t), (0, false, .ref p), (1, false, .int how), (2, false, .int x), (3, false, .int y)] lg ∧ vs = [] ∧ w = hset h0 aT (.inl (cT, 240, .inr (.inl g))) ∧ g7 c how x y ∧ (0 ≤ t.toInt ∧ t.toInt ≤ 4) ∧ s7 c how x y t.toInt.toNat g0 g
def in_7q90 (p : Nat) (c : Int32) (aT : Nat) (cT : ClassId) (g0 : Nat → Int64) (how x y : Int32) (h0 : fH) : fL_ → List Value → fH → Prop := fun lg vs w => ∃ (t : Int32) (g : Nat → Int64) (v : Int64), f_sub [(5, true, .long (g0 (4 * x.toInt.toNat + t.toInt.toNat))), (4, false, .int t), (0, false, .ref p), (1, false, .int how), (2, false, .int x), (3, false, .int y)] lg ∧ vs = [.long v] ∧ w = hset h0 aT (.inl (cT, 240, .inr (.inl g))) ∧ g7 c how x y ∧ (0 ≤ t.toInt ∧ t.toInt < 4) ∧ s7 c how x y t.toInt.toNat g0 g ∧ (how.toInt = 0 ∨ v = g0 (4 * y.toInt.toNat + t.toInt.toNat))
def m7_hd : mmA → fH → fI fH := fun ((p, _, c), (aT, cT, g0), how, x, y) h0 => [(37, in_q37 p c how x y h0), (52, in_7q52 p c aT cT g0 how x y h0), (90, in_7q90 p c aT cT g0 how x y h0)]
theorem four_ix {k t : Int32} (h1 : 0 ≤ k.toInt ∧ k.toInt < 60) (h2 : 0 ≤ t.toInt) (h3 : t.toInt ≤ 4) : (Int32.ofInt 4 * k + t).toInt.toNat = 4 * k.toInt.toNat + t.toInt.toNat := by
  have e4 : (Int32.ofInt 4).toInt = 4 := by decide
  have m1 : (Int32.ofInt 4 * k).toInt = 4 * k.toInt := by
    rw [i_mul (by rw [e4]; omega) (by rw [e4]; omega), e4]
  rw [i_add (by rw [m1]; omega) (by rw [m1]; omega), m1]
  omega
theorem s7_end {c how x y : Int32} {g g' : Nat → Int64} (h : s7 c how x y 4 g g') (hc : 0 ≤ c.toInt) {c' : Int32} (hc' : c'.toInt = c.toInt + 1) : mk7Q c how x y c' g g' := by
  refine Or.inr ⟨hc', fun u hu => ?_, fun u hu => ?_⟩
  · rw [h u, if_neg (by omega)]
  · rw [h (4 * c.toInt.toNat + u), if_pos ⟨by omega, by omega⟩, Nat.add_sub_cancel_left]
theorem s7_step {c how x y : Int32} {g0 g : Nat → Int64} {t : Nat} (h : s7 c how x y t g0 g) {v : Int64} (hv : v = opV how (g0 (4 * x.toInt.toNat + t)) (g0 (4 * y.toInt.toNat + t))) : s7 c how x y (t + 1) g0 (vp_updL g (4 * c.toInt.toNat + t) v) := by
  intro u
  unfold vp_updL
  by_cases e : u = 4 * c.toInt.toNat + t
  · rw [if_pos e, if_pos ⟨by omega, by omega⟩, hv, show u - 4 * c.toInt.toNat = t by omega]
  · rw [if_neg e, h u]
    by_cases hl : 4 * c.toInt.toNat ≤ u ∧ u < 4 * c.toInt.toNat + t
    · rw [if_pos hl, if_pos ⟨hl.1, by omega⟩]
    · rw [if_neg hl, if_neg (by omega)]
section
variable {p : Nat} {fs : List Value} {c : Int32} {aT : Nat} {cT : ClassId} {g0 : Nat → Int64} {how x y : Int32} {h0 : fH}
theorem m7_keep (hT : h0 aT = some (.inl (cT, 240, .inr (.inl g0)))) {v : Int32} (hp : h0 p = some (.inr (12, fs))) (hc : fs.getD 1 .null = .int c) (hl : 1 < fs.length) (hq : mkQ how x y c v c) : m7O p c aT g0 how x y (some (.int v)) h0 := ⟨v, c, g0, rfl, ⟨fs, hp, hl, hc⟩, ⟨cT, hT⟩, hq, Or.inl ⟨rfl, fun _ => rfl⟩⟩
set_option maxHeartbeats 4000000 in
theorem m7_en (hp : h0 p = some (.inr (12, fs))) (hc : fs.getD 1 .null = .int c) (hl : 1 < fs.length) (hT : h0 aT = some (.inl (cT, 240, .inr (.inl g0)))) : wl oH T_X12_make SpMM (m7_Q ((p, fs, c), (aT, cT, g0), how, x, y) h0) K_X12_make (m7_hd ((p, fs, c), (aT, cT, g0), how, x, y) h0) 40 K_X12_make 0 (la 0 (mm_F ((p, fs, c), (aT, cT, g0), how, x, y))) [] h0 := by
  have e4 : (Int64.ofInt 4).toInt = 4 := by decide
  have e0 : (Int64.ofNat 0).toInt = 0 := by decide
  have unk : (0 ≤ how.toInt ∧ how.toInt ≤ 4) → ¬ ((0 ≤ x.toInt ∧ x.toInt < c.toInt) ∧ (how.toInt = 0 ∨ (0 ≤ y.toInt ∧ y.toInt < c.toInt))) → m7O p c aT g0 how x y (some (.int (-1))) h0 := by
    intro hh hx
    refine m7_keep hT hp hc hl ?_
    unfold mkQ
    rw [if_pos hh, if_neg hx]
    exact ⟨rfl, rfl⟩
  intro rv h1 hx
  obtain ⟨e1, er⟩ := hx (how.toInt64, Int64.ofNat 0, Int64.ofInt 4) rfl trivial
  have e1 : h1 = h0 := e1
  subst h1
  have er : rv = some (.int (if (Int64.ofNat 0).toInt ≤ how.toInt64.toInt ∧ how.toInt64.toInt ≤ (Int64.ofInt 4).toInt then 1 else 0)) := er
  rw [e0, e4, Int32.toInt_toInt64] at er
  subst er
  refine ⟨fun h => ?_, fun h => ?_⟩
  rotate_left
  · have h : ¬ ¬ (if 0 ≤ how.toInt ∧ how.toInt ≤ 4 then (1 : Int32) else 0).toInt = 0 := h
    have hy : ¬ (0 ≤ how.toInt ∧ how.toInt ≤ 4) := fun z => h (by rw [if_pos z]; decide)
    refine m7_keep hT hp hc hl ?_
    unfold mkQ
    rw [if_neg hy]
    exact ⟨rfl, rfl⟩
  have h : ¬ (if 0 ≤ how.toInt ∧ how.toInt ≤ 4 then (1 : Int32) else 0).toInt = 0 := h
  have hh : 0 ≤ how.toInt ∧ how.toInt ≤ 4 := by
    by_cases z : 0 ≤ how.toInt ∧ how.toInt ≤ 4
    · exact z
    · rw [if_neg z] at h
      exact absurd rfl h
  intro rv h1 hx
  obtain ⟨e1, rfl⟩ := hx (p, fs, c, x) rfl ⟨hp, hc⟩
  have e1 : h1 = h0 := e1
  subst h1
  refine ⟨fun h => ?_, fun h => ?_⟩
  · have h : ¬ (if 0 ≤ x.toInt ∧ x.toInt < c.toInt then (0 : Int32) else 1).toInt = 0 := h
    exact unk hh (fun z => h (by rw [if_pos z.1]; decide))
  have h : ¬ ¬ (if 0 ≤ x.toInt ∧ x.toInt < c.toInt then (0 : Int32) else 1).toInt = 0 := h
  have hx : 0 ≤ x.toInt ∧ x.toInt < c.toInt := by
    by_cases z : 0 ≤ x.toInt ∧ x.toInt < c.toInt
    · exact z
    · rw [if_neg z] at h
      exact absurd (by decide) h
  refine ⟨fun h => ?_, fun h => ?_⟩
  · have h : how.toInt ≤ 0 := h
    exact ⟨⟨rfl, rfl, rfl, rfl, trivial⟩, rfl, rfl, hh, hx, Or.inl (show how.toInt = 0 by omega)⟩
  have hn : ¬ how.toInt ≤ 0 := h
  intro rv h1 hx2
  obtain ⟨e1, rfl⟩ := hx2 (p, fs, c, y) rfl ⟨hp, hc⟩
  have e1 : h1 = h0 := e1
  subst h1
  refine ⟨fun h => ?_, fun h => ?_⟩
  · have h : (if 0 ≤ y.toInt ∧ y.toInt < c.toInt then (0 : Int32) else 1).toInt = 0 := h
    have hy : 0 ≤ y.toInt ∧ y.toInt < c.toInt := by
      by_cases z : 0 ≤ y.toInt ∧ y.toInt < c.toInt
      · exact z
      · rw [if_neg z] at h
        exact absurd h (by decide)
    exact ⟨⟨rfl, rfl, rfl, rfl, trivial⟩, rfl, rfl, hh, hx, Or.inr hy⟩
  · have h : ¬ (if 0 ≤ y.toInt ∧ y.toInt < c.toInt then (0 : Int32) else 1).toInt = 0 := h
    exact unk hh (fun z => z.2.elim (fun e => by omega) (fun z => h (by rw [if_pos z]; decide)))
set_option maxHeartbeats 4000000 in
theorem m7_h37 (hp : h0 p = some (.inr (12, fs))) (hc : fs.getD 1 .null = .int c) (hl : 1 < fs.length) (hT : h0 aT = some (.inl (cT, 240, .inr (.inl g0)))) (hc60 : 0 ≤ c.toInt ∧ c.toInt ≤ 60) : ∀ (lg : fL_) (vs : List Value) (w : fH), in_q37 p c how x y h0 lg vs w → ∃ (L : fL_) (f : Nat), f_sub L lg ∧ wh oH T_X12_make SpMM (m7_Q ((p, fs, c), (aT, cT, g0), how, x, y) h0) K_X12_make (m7_hd ((p, fs, c), (aT, cT, g0), how, x, y) h0) f 37 L vs w := by
  rintro lg vs w ⟨hs, rfl, ew, hh, hab⟩
  have ew : w = h0 := ew
  subst w
  have e60 : (Int32.ofInt 60).toInt = 60 := by decide
  have g1 : eG fl_X12 149 (h0 p) = .int c := by
    rw [hp, ← hc]
    rfl
  refine ⟨_, 40, hs, fun h => ?_, fun h => ?_⟩
  · have h : ¬ (iv (eG fl_X12 149 (h0 p))).toInt = (Int32.ofInt 60).toInt := h
    rw [g1, e60] at h
    have h : ¬ c.toInt = 60 := h
    refine ⟨0, g0, ⟨rfl, rfl, rfl, rfl, rfl, trivial⟩, rfl, (hset_self hT).symm, ⟨hh, hab, by omega⟩, by decide, fun u => ?_⟩
    rw [if_neg (by show ¬ (4 * c.toInt.toNat ≤ u ∧ u < 4 * c.toInt.toNat + 0); omega)]
  · have h : ¬ ¬ (iv (eG fl_X12 149 (h0 p))).toInt = (Int32.ofInt 60).toInt := h
    rw [g1, e60] at h
    have h : ¬ ¬ c.toInt = 60 := h
    refine m7_keep hT hp hc hl ?_
    unfold mkQ
    rw [if_pos hh, if_pos hab, if_pos (by omega)]
    exact ⟨rfl, rfl⟩
set_option maxHeartbeats 4000000 in
theorem m7_h52 (hp : h0 p = some (.inr (12, fs))) (hc : fs.getD 1 .null = .int c) (hl : 1 < fs.length) (h2 : fs.getD 2 .null = .ref aT) (hT : h0 aT = some (.inl (cT, 240, .inr (.inl g0)))) : ∀ (lg : fL_) (vs : List Value) (w : fH), in_7q52 p c aT cT g0 how x y h0 lg vs w → ∃ (L : fL_) (f : Nat), f_sub L lg ∧ wh oH T_X12_make SpMM (m7_Q ((p, fs, c), (aT, cT, g0), how, x, y) h0) K_X12_make (m7_hd ((p, fs, c), (aT, cT, g0), how, x, y) h0) f 52 L vs w := by
  rintro lg vs w ⟨t, g, hs, rfl, ew, hg, ht, hsv⟩
  have ew : w = hset h0 aT (.inl (cT, 240, .inr (.inl g))) := ew
  have hsv : s7 c how x y t.toInt.toNat g0 g := hsv
  obtain ⟨hh, hab, hf⟩ := id hg
  have t0 : 0 ≤ t.toInt := ht.1
  have t4 : t.toInt ≤ 4 := ht.2
  have hne : p ≠ aT := Ne.symm (ne_of_h hp hT)
  have wp : w p = some (.inr (12, fs)) := by rw [ew, hset_ne hne, hp]
  have wT : w aT = some (.inl (cT, 240, .inr (.inl g))) := by rw [ew, hset_at]
  have g1 : eG fl_X12 149 (w p) = .int c := by
    rw [wp, ← hc]
    rfl
  have g2 : eG fl_X12 7 (w p) = .ref aT := by
    rw [wp, ← h2]
    rfl
  have e4 : (Int32.ofInt 4).toInt = 4 := by decide
  refine ⟨_, 80, hs, fun hx => ?_, fun hx => ?_⟩
  · have hx : (Int32.ofInt 4).toInt ≤ t.toInt := hx
    rw [e4] at hx
    rw [t_end t4 hx] at hsv
    have es : sG pl_X12 149 (.int (iv (eG fl_X12 149 (w p)) + 1)) (w p) = .inr (12, fs.set 1 (.int (c + 1))) := by
      rw [g1, wp]
      rfl
    show m7O p c aT g0 how x y (some (.int (iv (eG fl_X12 149 (hset w p (sG pl_X12 149 (.int (iv (eG fl_X12 149 (w p)) + 1)) (w p)) p)) - 1))) (hset w p (sG pl_X12 149 (.int (iv (eG fl_X12 149 (w p)) + 1)) (w p)))
    rw [es, hset_at]
    have gv : (fs.set 1 (.int (c + 1))).getD 1 .null = .int (c + 1) := by
      rw [List.getD_eq_getElem?_getD, List.getElem?_set_self hl]
      rfl
    have ev : eG fl_X12 149 (some (.inr (12, fs.set 1 (.int (c + 1))))) = .int (c + 1) := gv
    rw [ev]
    have c0 : 0 ≤ c.toInt := by
      have h3 := hab.1
      omega
    refine ⟨c, c + 1, g, ?_, ⟨fs.set 1 (.int (c + 1)), hset_at, by rw [List.length_set]; exact hl, gv⟩, ⟨cT, by rw [hset_ne (Ne.symm hne)]; exact wT⟩, ?_, s7_end hsv c0 (i_inc c0 (by omega))⟩
    · show some (Value.int (c + 1 - 1)) = some (.int c)
      rw [Int32.add_sub_cancel]
    · unfold mkQ
      rw [if_pos hh, if_pos hab, if_neg (by omega)]
      exact ⟨rfl, rfl⟩
  · have hx : ¬ (Int32.ofInt 4).toInt ≤ t.toInt := hx
    rw [e4] at hx
    have t3 : t.toInt < 4 := by omega
    have rd : ∀ k : Int32, 0 ≤ k.toInt → k.toInt < c.toInt → eJ (w (rv_ (eG fl_X12 7 (w p)))) (Int32.ofInt 4 * k + t).toNatClampNeg = g0 (4 * k.toInt.toNat + t.toInt.toNat) := by
      intro k k0 kc
      rw [g2]
      show eJ (w aT) (Int32.ofInt 4 * k + t).toInt.toNat = _
      rw [wT, four_ix ⟨k0, by omega⟩ t0 t4]
      show g (4 * k.toInt.toNat + t.toInt.toNat) = _
      rw [hsv, if_neg (by omega)]
    have rx := rd x hab.1.1 hab.1.2
    refine ⟨fun hz => ?_, fun hz => ?_⟩
    · have hz : ¬ how.toInt = 0 := hz
      have hy := hab.2.resolve_left hz
      have ry := rd y hy.1 hy.2
      refine ⟨t, g, _, ⟨?_, rfl, rfl, rfl, rfl, rfl, trivial⟩, rfl, ew, hg, ⟨t0, t3⟩, hsv, Or.inr ry⟩
      show some (true, Value.long (eJ (w (rv_ (eG fl_X12 7 (w p)))) (Int32.ofInt 4 * x + t).toNatClampNeg)) = _
      rw [rx]
    · have hz : ¬ ¬ how.toInt = 0 := hz
      refine ⟨t, g, _, ⟨?_, rfl, rfl, rfl, rfl, rfl, trivial⟩, rfl, ew, hg, ⟨t0, t3⟩, hsv, Or.inl (Classical.not_not.mp hz)⟩
      show some (true, Value.long (eJ (w (rv_ (eG fl_X12 7 (w p)))) (Int32.ofInt 4 * x + t).toNatClampNeg)) = _
      rw [rx]
set_option maxHeartbeats 4000000 in
theorem m7_h90 (hp : h0 p = some (.inr (12, fs))) (hc : fs.getD 1 .null = .int c) (h2 : fs.getD 2 .null = .ref aT) (hT : h0 aT = some (.inl (cT, 240, .inr (.inl g0)))) : ∀ (lg : fL_) (vs : List Value) (w : fH), in_7q90 p c aT cT g0 how x y h0 lg vs w → ∃ (L : fL_) (f : Nat), f_sub L lg ∧ wh oH T_X12_make SpMM (m7_Q ((p, fs, c), (aT, cT, g0), how, x, y) h0) K_X12_make (m7_hd ((p, fs, c), (aT, cT, g0), how, x, y) h0) f 90 L vs w := by
  rintro lg vs w ⟨t, g, v, hs, rfl, ew, hg, ht, hsv, hv⟩
  have ew : w = hset h0 aT (.inl (cT, 240, .inr (.inl g))) := ew
  have hsv : s7 c how x y t.toInt.toNat g0 g := hsv
  obtain ⟨hh, hab, hf⟩ := id hg
  have t0 : 0 ≤ t.toInt := ht.1
  have t3 : t.toInt < 4 := ht.2
  have c0 : 0 ≤ c.toInt := by
    have h3 := hab.1
    omega
  have hne : p ≠ aT := Ne.symm (ne_of_h hp hT)
  have wp : w p = some (.inr (12, fs)) := by rw [ew, hset_ne hne, hp]
  have wT : w aT = some (.inl (cT, 240, .inr (.inl g))) := by rw [ew, hset_at]
  have g1 : eG fl_X12 149 (w p) = .int c := by
    rw [wp, ← hc]
    rfl
  have g2 : eG fl_X12 7 (w p) = .ref aT := by
    rw [wp, ← h2]
    rfl
  obtain ⟨i1, i2, i3⟩ := t_inc t0 t3
  have e1 : (Int32.ofInt 1).toInt = 1 := by decide
  have e2 : (Int32.ofInt 2).toInt = 2 := by decide
  have e3 : (Int32.ofInt 3).toInt = 3 := by decide
  have fin : ∀ (z : Int64) (L : fL_), f_sub [(4, false, .int (t + 1)), (0, false, .ref p), (1, false, .int how), (2, false, .int x), (3, false, .int y)] L → z = opV how (g0 (4 * x.toInt.toNat + t.toInt.toNat)) (g0 (4 * y.toInt.toNat + t.toInt.toNat)) → in_7q52 p c aT cT g0 how x y h0 L [] (hset w (rv_ (eG fl_X12 7 (w p))) (sJ (Int32.ofInt 4 * iv (eG fl_X12 149 (w p)) + t).toNatClampNeg z (w (rv_ (eG fl_X12 7 (w p)))))) := by
    intro z L hL hz
    have s8 := s7_step hsv hz
    rw [← i3] at s8
    refine ⟨t + 1, vp_updL g (4 * c.toInt.toNat + t.toInt.toNat) z, hL, rfl, ?_, hg, ⟨i1, i2⟩, s8⟩
    rw [tJ_put ew g2, g1]
    show hset h0 aT (.inl (cT, 240, .inr (.inl (vp_updL g (Int32.ofInt 4 * c + t).toInt.toNat z)))) = _
    rw [four_ix ⟨c0, hf⟩ t0 (by omega)]
  have hvy : ¬ how.toInt = 0 → v = g0 (4 * y.toInt.toNat + t.toInt.toNat) := fun h => hv.resolve_left h
  refine ⟨_, 80, hs, fun hz => ⟨fun ha => ⟨fun hb => ⟨fun hd => ?_, fun hd => ?_⟩, fun hb => ?_⟩, fun ha => ?_⟩, fun hz => ?_⟩
  · have hz : ¬ how.toInt = 0 := hz
    have ha : ¬ how.toInt = (Int32.ofInt 1).toInt := ha
    rw [e1] at ha
    have hb : ¬ how.toInt = (Int32.ofInt 2).toInt := hb
    rw [e2] at hb
    have hd : ¬ how.toInt = (Int32.ofInt 3).toInt := hd
    rw [e3] at hd
    refine fin ((g0 (4 * x.toInt.toNat + t.toInt.toNat) ^^^ v) ^^^ m1_) _ ⟨rfl, rfl, rfl, rfl, rfl, trivial⟩ ?_
    unfold opV
    rw [if_neg hz, if_neg ha, if_neg hb, if_neg hd, hvy hz]
    rfl
  · have hz : ¬ how.toInt = 0 := hz
    have ha : ¬ how.toInt = (Int32.ofInt 1).toInt := ha
    rw [e1] at ha
    have hb : ¬ how.toInt = (Int32.ofInt 2).toInt := hb
    rw [e2] at hb
    have hd : ¬ ¬ how.toInt = (Int32.ofInt 3).toInt := hd
    rw [e3] at hd
    refine fin ((g0 (4 * x.toInt.toNat + t.toInt.toNat) ^^^ m1_) ||| v) _ ⟨rfl, rfl, rfl, rfl, rfl, trivial⟩ ?_
    unfold opV
    rw [if_neg hz, if_neg ha, if_neg hb, if_pos (Classical.not_not.mp hd), hvy hz]
    rfl
  · have hz : ¬ how.toInt = 0 := hz
    have ha : ¬ how.toInt = (Int32.ofInt 1).toInt := ha
    rw [e1] at ha
    have hb : ¬ ¬ how.toInt = (Int32.ofInt 2).toInt := hb
    rw [e2] at hb
    refine fin (g0 (4 * x.toInt.toNat + t.toInt.toNat) ||| v) _ ⟨rfl, rfl, rfl, rfl, rfl, trivial⟩ ?_
    unfold opV
    rw [if_neg hz, if_neg ha, if_pos (Classical.not_not.mp hb), hvy hz]
    rfl
  · have hz : ¬ how.toInt = 0 := hz
    have ha : ¬ ¬ how.toInt = (Int32.ofInt 1).toInt := ha
    rw [e1] at ha
    refine fin (g0 (4 * x.toInt.toNat + t.toInt.toNat) &&& v) _ ⟨rfl, rfl, rfl, rfl, rfl, trivial⟩ ?_
    unfold opV
    rw [if_neg hz, if_pos (Classical.not_not.mp ha), hvy hz]
    rfl
  · have hz : ¬ ¬ how.toInt = 0 := hz
    refine fin (g0 (4 * x.toInt.toNat + t.toInt.toNat) ^^^ m1_) _ ⟨rfl, rfl, rfl, rfl, rfl, trivial⟩ ?_
    unfold opV
    rw [if_pos (Classical.not_not.mp hz)]
    rfl
end
theorem s7_X12_make : f_do r_X12_make (fun As h rv h' => ∀ a : mmA, As = mm_F a → mm_P a h → m7_Q a h rv h') := by
  refine do_ofP mm_F mm_P m7_Q SpMM m7_hd 40 fo_X12 SpMM_ok k_X12_make (fun a h0 hp => ?_) (fun a h0 hp => ?_)
  · obtain ⟨⟨p, fs, c⟩, ⟨aT, cT, g0⟩, how, x, y⟩ := a
    obtain ⟨hp, ⟨hc, h2, hl⟩, hT, hc60⟩ := hp
    exact List.forall_mem_cons.mpr ⟨m7_h37 hp hc hl hT hc60, List.forall_mem_cons.mpr ⟨m7_h52 hp hc hl h2 hT, List.forall_mem_cons.mpr ⟨m7_h90 hp hc h2 hT, fun _ h => absurd h List.not_mem_nil⟩⟩⟩
  · obtain ⟨⟨p, fs, c⟩, ⟨aT, cT, g0⟩, how, x, y⟩ := a
    obtain ⟨hp, ⟨hc, h2, hl⟩, hT, hc60⟩ := hp
    exact m7_en hp hc hl hT
end
section
/-! texts: the machine that both parsers are -/
def updW (v : Nat → Nat → Int64) (i : Nat) (f : Nat → Int64) : Nat → Nat → Int64 := fun j => if j = i then f else v j
theorem updW_at {v : Nat → Nat → Int64} {i : Nat} {f : Nat → Int64} : updW v i f i = f := if_pos rfl
theorem updW_ne {v : Nat → Nat → Int64} {i j : Nat} {f : Nat → Int64} (h : j ≠ i) : updW v i f j = v j := if_neg h
/-- minus signs above: done -/
def tdA : Nat → (Nat → Int32) → (Nat → Nat → Int64) → Nat → Nat × (Nat → Nat → Int64)
  | 0, _, v, _ => (0, v)
  | k + 1, m, v, vc => if (m k).toInt = 45 then tdA k m (updW v (vc - 1) (fun x => o_turn (v (vc - 1) x))) vc else (k + 1, v)
def rdV (c : Int32) (u v : Int64) : Int64 := if c.toInt = 38 then o_meet u v else if c.toInt = 124 then o_join u v else o_join (o_turn u) v
/-- the sign above takes the two values on top -/
def rdZ (c : Int32) (v : Nat → Nat → Int64) (vc : Nat) : Nat → Nat → Int64 := updW v (vc - 2) (fun x => rdV c (v (vc - 2) x) (v (vc - 1) x))
/-- signs above that bind at least as strongly -/
def bdA (L : Int) : Nat → (Nat → Int32) → (Nat → Nat → Int64) → Nat → Nat × Nat × (Nat → Nat → Int64)
  | 0, _, v, vc => (0, vc, v)
  | k + 1, m, v, vc => if L ≤ (rkc (m k)).toInt then bdA L k m (rdZ (m k) v vc) (vc - 1) else (k + 1, vc, v)
/-- there are values enough for it -/
def bdK (L : Int) : Nat → (Nat → Int32) → Nat → Prop
  | 0, _, _ => True
  | k + 1, m, vc => L ≤ (rkc (m k)).toInt → 2 ≤ vc ∧ bdK L k m (vc - 1)
abbrev pS : Type := (Nat × (Nat → Int32)) × Nat × (Nat → Nat → Int64)
def psh (c : Int32) (s : pS) : pS := ((s.1.1 + 1, upd s.1.2 s.1.1 c), s.2)
def bdS (L : Int) (s : pS) : pS := let b := bdA L s.1.1 s.1.2 s.2.2 s.2.1; ((b.1, s.1.2), b.2.1, b.2.2)
def tdS (s : pS) : pS := let t := tdA s.1.1 s.1.2 s.2.2 s.2.1; ((t.1, s.1.2), s.2.1, t.2)
def popS (s : pS) : pS := ((s.1.1 - 1, s.1.2), s.2)
/-- a letter's worlds, word by word -/
def ltW (k x : Nat) : Int64 := if k < 6 then fw_v k else if k = 6 then (if x % 2 = 1 then m1_ else 0) else (if 2 ≤ x then m1_ else 0)
def opdW (c : Int32) (x : Nat) : Int64 := if c.toInt = 49 then m1_ else if c.toInt = 48 then 0 else ltW (c.toInt - 97).toNat x
def valS (c : Int32) (s : pS) : pS := (s.1, s.2.1 + 1, updW s.2.2 s.2.1 (opdW c))
/-- a mark of the text -/
def chA (c : Int32) (s : pS) : pS :=
  if 0 < (rkc c).toInt then psh c (bdS (if (rkc c).toInt ≤ 2 then 2 else 3) s)
  else if c.toInt = 40 ∨ c.toInt = 45 then psh c s
  else if c.toInt = 41 then tdS (popS (bdS 1 s))
  else tdS (valS c s)
def runA (g : Nat → Int32) : Nat → pS
  | 0 => ((0, fun _ => 0), 0, fun _ _ => 0)
  | n + 1 => chA (g n) (runA g n)
/-- the words of the text's worlds -/
def txtW (g : Nat → Int32) (n : Nat) : Nat → Int64 := (bdS 1 (runA g n)).2.2 0
/-- what a text must hold that is right so far: binary signs and values in balance, minus signs where they may stand -/
def cnA (p : Int32 → Bool) : Nat → (Nat → Int32) → Nat
  | 0, _ => 0
  | k + 1, m => cnA p k m + (if p (m k) = true then 1 else 0)
def isB (c : Int32) : Bool := decide (0 < (rkc c).toInt)
def isP (c : Int32) : Bool := decide (c.toInt = 40)
theorem isB_t {c : Int32} : isB c = true ↔ 0 < (rkc c).toInt := decide_eq_true_iff
theorem isB_f {c : Int32} : isB c = false ↔ ¬ 0 < (rkc c).toInt := decide_eq_false_iff_not
theorem isP_t {c : Int32} : isP c = true ↔ c.toInt = 40 := decide_eq_true_iff
theorem isP_f {c : Int32} : isP c = false ↔ ¬ c.toInt = 40 := decide_eq_false_iff_not
theorem rk_b {c : Int32} : 0 < (rkc c).toInt ↔ (c.toInt = 38 ∨ c.toInt = 124 ∨ c.toInt = 62) := by
  have h := rkc_pos (c := c)
  omega
theorem cnA_upd {p : Int32 → Bool} {m : Nat → Int32} {c : Int32} : ∀ {k j : Nat}, k ≤ j → cnA p k (upd m j c) = cnA p k m
  | 0, _, _ => rfl
  | k + 1, j, h => by
    show cnA p k (upd m j c) + (if p (upd m j c k) = true then 1 else 0) = cnA p k m + (if p (m k) = true then 1 else 0)
    rw [cnA_upd (by omega), upd_ne (by omega)]
theorem cnA_cut {p : Int32 → Bool} {m : Nat → Int32} {a : Nat} : ∀ {k : Nat}, a ≤ k → (∀ j, a ≤ j → j < k → p (m j) = false) → cnA p k m = cnA p a m
  | 0, h, _ => by
    have h : a = 0 := by omega
    rw [h]
  | k + 1, h, hp => by
    by_cases e : a = k + 1
    · rw [e]
    · show cnA p k m + (if p (m k) = true then 1 else 0) = cnA p a m
      rw [if_neg (by rw [hp k (by omega) (by omega)]; decide), cnA_cut (by omega) (fun j h1 h2 => hp j h1 (by omega))]
      rfl
/-- what holds of a text that is right so far -/
def okS (b : Bool) (o i : Nat) (s : pS) : Prop := s.2.1 = cnA isB s.1.1 s.1.2 + (if b = true then 0 else 1) ∧ cnA isP s.1.1 s.1.2 = o ∧ s.1.1 ≤ i ∧ 2 * s.2.1 ≤ i + (if b = true then 0 else 1) ∧ ∀ j, j < s.1.1 → ((s.1.2 j).toInt = 40 ∨ (s.1.2 j).toInt = 45 ∨ 0 < (rkc (s.1.2 j)).toInt) ∧ ((s.1.2 j).toInt = 45 → (j + 1 = s.1.1 → b = true) ∧ (j + 1 < s.1.1 → ¬ 0 < (rkc (s.1.2 (j + 1))).toInt))
theorem bdK_of {L : Int} (hL : 1 ≤ L) : ∀ {k : Nat} {m : Nat → Int32} {vc : Nat}, vc = cnA isB k m + 1 → bdK L k m vc
  | 0, _, _, _ => trivial
  | k + 1, m, vc, h => by
    intro hr
    have h : vc = cnA isB k m + (if isB (m k) = true then 1 else 0) + 1 := h
    rw [if_pos (isB_t.mpr (by omega))] at h
    exact ⟨by omega, bdK_of hL (by omega)⟩
/-- what binding leaves -/
theorem bdA_ok {L : Int} (hL : 1 ≤ L) : ∀ {k : Nat} {m : Nat → Int32} {v : Nat → Nat → Int64} {vc : Nat}, vc = cnA isB k m + 1 → (bdA L k m v vc).1 ≤ k ∧ (bdA L k m v vc).2.1 = cnA isB (bdA L k m v vc).1 m + 1 ∧ (bdA L k m v vc).2.1 ≤ vc ∧ (∀ j, (bdA L k m v vc).1 ≤ j → j < k → L ≤ (rkc (m j)).toInt) ∧ ((bdA L k m v vc).1 = 0 ∨ ¬ L ≤ (rkc (m ((bdA L k m v vc).1 - 1))).toInt)
  | 0, m, v, vc, h => ⟨Nat.le_refl _, h, Nat.le_refl _, fun j _ h2 => absurd h2 (Nat.not_lt_zero j), Or.inl rfl⟩
  | k + 1, m, v, vc, h => by
    have h : vc = cnA isB k m + (if isB (m k) = true then 1 else 0) + 1 := h
    unfold bdA
    by_cases hr : L ≤ (rkc (m k)).toInt
    · rw [if_pos hr]
      rw [if_pos (isB_t.mpr (by omega))] at h
      obtain ⟨a1, a2, a3, a4, a5⟩ := bdA_ok hL (k := k) (m := m) (v := rdZ (m k) v vc) (vc := vc - 1) (by omega)
      refine ⟨by omega, a2, by omega, fun j h1 h2 => ?_, a5⟩
      by_cases e : j = k
      · rw [e]
        exact hr
      · exact a4 j h1 (by omega)
    · rw [if_neg hr]
      exact ⟨Nat.le_refl _, h, Nat.le_refl _, fun j h1 h2 => by have h1 : k + 1 ≤ j := h1; omega, Or.inr hr⟩
theorem tdA_ok : ∀ {k : Nat} {m : Nat → Int32} {v : Nat → Nat → Int64} {vc : Nat}, (tdA k m v vc).1 ≤ k ∧ (∀ j, (tdA k m v vc).1 ≤ j → j < k → (m j).toInt = 45) ∧ ((tdA k m v vc).1 = 0 ∨ ¬ (m ((tdA k m v vc).1 - 1)).toInt = 45)
  | 0, m, v, vc => ⟨Nat.le_refl _, fun j _ h2 => absurd h2 (Nat.not_lt_zero j), Or.inl rfl⟩
  | k + 1, m, v, vc => by
    unfold tdA
    by_cases hr : (m k).toInt = 45
    · rw [if_pos hr]
      obtain ⟨a1, a4, a5⟩ := tdA_ok (k := k) (m := m) (v := updW v (vc - 1) (fun x => o_turn (v (vc - 1) x))) (vc := vc)
      refine ⟨by omega, fun j h1 h2 => ?_, a5⟩
      by_cases e : j = k
      · rw [e]
        exact hr
      · exact a4 j h1 (by omega)
    · rw [if_neg hr]
      exact ⟨Nat.le_refl _, fun j h1 h2 => by have h1 : k + 1 ≤ j := h1; omega, Or.inr hr⟩
theorem okS_0 : okS true 0 0 (runA (fun _ => 0) 0) := ⟨rfl, rfl, Nat.le_refl _, Nat.le_refl _, fun j h => absurd h (Nat.not_lt_zero j)⟩
/-- a sign pushed -/
theorem okS_psh {o i : Nat} {s : pS} {c : Int32} (h : okS true o i s) (hc : c.toInt = 40 ∨ c.toInt = 45) : okS true (if c.toInt = 40 then o + 1 else o) (i + 1) (psh c s) := by
  obtain ⟨h1, h2, h3, h4, h5⟩ := h
  have nb : ¬ 0 < (rkc c).toInt := fun z => by
    have z := rk_b.mp z
    omega
  refine ⟨?_, ?_, by show s.1.1 + 1 ≤ i + 1; omega, by show 2 * s.2.1 ≤ i + 1 + 0; have h4 : 2 * s.2.1 ≤ i + 0 := h4; omega, fun j hj => ?_⟩
  · show s.2.1 = cnA isB s.1.1 (upd s.1.2 s.1.1 c) + (if isB (upd s.1.2 s.1.1 c s.1.1) = true then 1 else 0) + 0
    rw [cnA_upd (Nat.le_refl _), upd_at, if_neg (fun z => nb (isB_t.mp z))]
    exact h1
  · show cnA isP s.1.1 (upd s.1.2 s.1.1 c) + (if isP (upd s.1.2 s.1.1 c s.1.1) = true then 1 else 0) = _
    rw [cnA_upd (Nat.le_refl _), upd_at, h2]
    by_cases e : c.toInt = 40
    · rw [if_pos (isP_t.mpr e), if_pos e]
    · rw [if_neg (fun z => e (isP_t.mp z)), if_neg e]
      rfl
  · have hj : j < s.1.1 + 1 := hj
    show ((upd s.1.2 s.1.1 c j).toInt = 40 ∨ (upd s.1.2 s.1.1 c j).toInt = 45 ∨ 0 < (rkc (upd s.1.2 s.1.1 c j)).toInt) ∧ ((upd s.1.2 s.1.1 c j).toInt = 45 → (j + 1 = s.1.1 + 1 → true = true) ∧ (j + 1 < s.1.1 + 1 → ¬ 0 < (rkc (upd s.1.2 s.1.1 c (j + 1))).toInt))
    by_cases e : j = s.1.1
    · rw [e, upd_at]
      exact ⟨hc.imp id Or.inl, fun _ => ⟨fun _ => rfl, fun z => absurd z (Nat.lt_irrefl _)⟩⟩
    · obtain ⟨g1, g2⟩ := h5 j (by omega)
      rw [upd_ne e]
      refine ⟨g1, fun z => ⟨fun _ => rfl, fun z2 => ?_⟩⟩
      by_cases e2 : j + 1 = s.1.1
      · rw [e2, upd_at]
        exact nb
      · rw [upd_ne e2]
        exact (g2 z).2 (by omega)
theorem tdS_ok {b : Bool} {o i : Nat} {s : pS} (h1 : s.2.1 = cnA isB s.1.1 s.1.2 + 1) (h2 : cnA isP s.1.1 s.1.2 = o) (h3 : s.1.1 ≤ i) (h4 : 2 * s.2.1 ≤ i + 1) (h5 : ∀ j, j < s.1.1 → ((s.1.2 j).toInt = 40 ∨ (s.1.2 j).toInt = 45 ∨ 0 < (rkc (s.1.2 j)).toInt) ∧ ((s.1.2 j).toInt = 45 → (j + 1 = s.1.1 → b = true) ∧ (j + 1 < s.1.1 → ¬ 0 < (rkc (s.1.2 (j + 1))).toInt))) : okS false o i (tdS s) := by
  obtain ⟨a1, a2, a3⟩ := tdA_ok (k := s.1.1) (m := s.1.2) (v := s.2.2) (vc := s.2.1)
  refine ⟨?_, ?_, by show (tdA s.1.1 s.1.2 s.2.2 s.2.1).1 ≤ i; omega, h4, fun j hj => ?_⟩
  · show s.2.1 = cnA isB (tdA s.1.1 s.1.2 s.2.2 s.2.1).1 s.1.2 + 1
    exact h1.trans (congrArg (fun z => z + 1) (cnA_cut a1 (fun j g1 g2 => isB_f.mpr (fun z => by have z := rk_b.mp z; have y := a2 j g1 g2; omega))))
  · show cnA isP (tdA s.1.1 s.1.2 s.2.2 s.2.1).1 s.1.2 = o
    exact (cnA_cut a1 (fun j g1 g2 => isP_f.mpr (fun z => by have y := a2 j g1 g2; omega))).symm.trans h2
  · have hj : j < (tdA s.1.1 s.1.2 s.2.2 s.2.1).1 := hj
    obtain ⟨g1, g2⟩ := h5 j (by omega)
    refine ⟨g1, fun z => ⟨fun e => ?_, fun e => ?_⟩⟩
    · have e : j + 1 = (tdA s.1.1 s.1.2 s.2.2 s.2.1).1 := e
      have a3 := a3.resolve_left (by omega)
      rw [← e] at a3
      exact absurd z a3
    · have e : j + 1 < (tdA s.1.1 s.1.2 s.2.2 s.2.1).1 := e
      exact (g2 z).2 (by omega)
/-- binding leaves no minus sign above -/
theorem bd_top {L : Int} (hL : 1 ≤ L) {o i : Nat} {s : pS} (h : okS false o i s) {j : Nat} (hj : j + 1 = (bdS L s).1.1) : ¬ (s.1.2 j).toInt = 45 := by
  obtain ⟨h1, -, -, -, h5⟩ := h
  obtain ⟨a1, -, -, a4, -⟩ := bdA_ok hL (k := s.1.1) (m := s.1.2) (v := s.2.2) (vc := s.2.1) h1
  have hj : j + 1 = (bdA L s.1.1 s.1.2 s.2.2 s.2.1).1 := hj
  intro z
  obtain ⟨g1, g2⟩ := (h5 j (by omega)).2 z
  by_cases e : j + 1 = s.1.1
  · cases g1 e
  · have y := a4 (j + 1) (by omega) (by omega)
    exact g2 (by omega) (by omega)
theorem okS_op {L : Int} (hL : 1 ≤ L) {o i : Nat} {s : pS} {c : Int32} (h : okS false o i s) (hc : 0 < (rkc c).toInt) : okS true o (i + 1) (psh c (bdS L s)) := by
  have ht := fun (j : Nat) (hj : j + 1 = (bdS L s).1.1) => bd_top hL h hj
  obtain ⟨h1, h2, h3, h4, h5⟩ := h
  obtain ⟨a1, a2, a3, a4, -⟩ := bdA_ok hL (k := s.1.1) (m := s.1.2) (v := s.2.2) (vc := s.2.1) h1
  have ht : ∀ j, j + 1 = (bdA L s.1.1 s.1.2 s.2.2 s.2.1).1 → ¬ (s.1.2 j).toInt = 45 := ht
  have np := cnA_cut (p := isP) (m := s.1.2) a1 (fun j g1 g2 => isP_f.mpr (fun z => by have y := a4 j g1 g2; have y2 := rk_b.mp (show 0 < (rkc (s.1.2 j)).toInt by omega); omega))
  have e40 : ¬ c.toInt = 40 := fun z => by
    have y := rk_b.mp hc
    omega
  show okS true o (i + 1) (((bdA L s.1.1 s.1.2 s.2.2 s.2.1).1 + 1, upd s.1.2 (bdA L s.1.1 s.1.2 s.2.2 s.2.1).1 c), (bdA L s.1.1 s.1.2 s.2.2 s.2.1).2.1, (bdA L s.1.1 s.1.2 s.2.2 s.2.1).2.2)
  generalize bdA L s.1.1 s.1.2 s.2.2 s.2.1 = B at a1 a2 a3 a4 np ht
  refine ⟨?_, ?_, by show B.1 + 1 ≤ i + 1; omega, by show 2 * B.2.1 ≤ i + 1 + 0; have h4 : 2 * s.2.1 ≤ i + 1 := h4; omega, fun j hj => ?_⟩
  · show B.2.1 = cnA isB B.1 (upd s.1.2 B.1 c) + (if isB (upd s.1.2 B.1 c B.1) = true then 1 else 0) + 0
    rw [cnA_upd (Nat.le_refl _), upd_at, if_pos (isB_t.mpr hc)]
    exact a2
  · show cnA isP B.1 (upd s.1.2 B.1 c) + (if isP (upd s.1.2 B.1 c B.1) = true then 1 else 0) = o
    rw [cnA_upd (Nat.le_refl _), upd_at, if_neg (fun z => e40 (isP_t.mp z)), ← np]
    exact h2
  · have hj : j < B.1 + 1 := hj
    show ((upd s.1.2 B.1 c j).toInt = 40 ∨ (upd s.1.2 B.1 c j).toInt = 45 ∨ 0 < (rkc (upd s.1.2 B.1 c j)).toInt) ∧ ((upd s.1.2 B.1 c j).toInt = 45 → (j + 1 = B.1 + 1 → true = true) ∧ (j + 1 < B.1 + 1 → ¬ 0 < (rkc (upd s.1.2 B.1 c (j + 1))).toInt))
    by_cases e : j = B.1
    · rw [e, upd_at]
      exact ⟨Or.inr (Or.inr hc), fun _ => ⟨fun _ => rfl, fun z => absurd z (Nat.lt_irrefl _)⟩⟩
    · obtain ⟨g1, g2⟩ := h5 j (by omega)
      rw [upd_ne e]
      refine ⟨g1, fun z => ⟨fun _ => rfl, fun z2 => ?_⟩⟩
      by_cases e2 : j + 1 = B.1
      · exact absurd z (ht j e2)
      · rw [upd_ne e2]
        exact (g2 z).2 (by omega)
theorem okS_val {o i : Nat} {s : pS} {c : Int32} (h : okS true o i s) : okS false o (i + 1) (tdS (valS c s)) := by
  obtain ⟨h1, h2, h3, h4, h5⟩ := h
  have h1 : s.2.1 = cnA isB s.1.1 s.1.2 + 0 := h1
  have h4 : 2 * s.2.1 ≤ i + 0 := h4
  exact tdS_ok (b := true) (by show s.2.1 + 1 = cnA isB s.1.1 s.1.2 + 1; omega) h2 (by show s.1.1 ≤ i + 1; omega) (by show 2 * (s.2.1 + 1) ≤ i + 1 + 1; omega) h5
/-- before a bracket that closes: the sign above is the one that opens -/
theorem bd_close {o i : Nat} {s : pS} (h : okS false o i s) (ho : 0 < o) : 0 < (bdS 1 s).1.1 ∧ (s.1.2 ((bdS 1 s).1.1 - 1)).toInt = 40 := by
  have ht := fun (j : Nat) (hj : j + 1 = (bdS 1 s).1.1) => bd_top (Int.le_refl 1) h hj
  obtain ⟨h1, h2, h3, h4, h5⟩ := h
  obtain ⟨a1, a2, a3, a4, a5⟩ := bdA_ok (Int.le_refl 1) (k := s.1.1) (m := s.1.2) (v := s.2.2) (vc := s.2.1) h1
  have ht : ∀ j, j + 1 = (bdA 1 s.1.1 s.1.2 s.2.2 s.2.1).1 → ¬ (s.1.2 j).toInt = 45 := ht
  have np := cnA_cut (p := isP) (m := s.1.2) a1 (fun j g1 g2 => isP_f.mpr (fun z => by have y := a4 j g1 g2; have y2 := rk_b.mp (show 0 < (rkc (s.1.2 j)).toInt by omega); omega))
  show 0 < (bdA 1 s.1.1 s.1.2 s.2.2 s.2.1).1 ∧ (s.1.2 ((bdA 1 s.1.1 s.1.2 s.2.2 s.2.1).1 - 1)).toInt = 40
  generalize bdA 1 s.1.1 s.1.2 s.2.2 s.2.1 = B at a1 a2 a3 a4 a5 np ht
  have h0 : 0 < B.1 := by
    refine Nat.pos_of_ne_zero (fun e => ?_)
    rw [e] at np
    have np : cnA isP s.1.1 s.1.2 = 0 := np
    omega
  refine ⟨h0, ?_⟩
  have g1 := (h5 (B.1 - 1) (by omega)).1
  have g2 := ht (B.1 - 1) (by omega)
  have g3 := a5.resolve_left (by omega)
  omega
theorem okS_close {o i : Nat} {s : pS} (h : okS false o i s) (ho : 0 < o) : okS false (o - 1) (i + 1) (tdS (popS (bdS 1 s))) := by
  obtain ⟨hp, ht⟩ := bd_close h ho
  obtain ⟨h1, h2, h3, h4, h5⟩ := h
  obtain ⟨a1, a2, a3, a4, a5⟩ := bdA_ok (Int.le_refl 1) (k := s.1.1) (m := s.1.2) (v := s.2.2) (vc := s.2.1) h1
  have np := cnA_cut (p := isP) (m := s.1.2) a1 (fun j g1 g2 => isP_f.mpr (fun z => by have y := a4 j g1 g2; have y2 := rk_b.mp (show 0 < (rkc (s.1.2 j)).toInt by omega); omega))
  have hp : 0 < (bdA 1 s.1.1 s.1.2 s.2.2 s.2.1).1 := hp
  have ht : (s.1.2 ((bdA 1 s.1.1 s.1.2 s.2.2 s.2.1).1 - 1)).toInt = 40 := ht
  show okS false (o - 1) (i + 1) (tdS (((bdA 1 s.1.1 s.1.2 s.2.2 s.2.1).1 - 1, s.1.2), (bdA 1 s.1.1 s.1.2 s.2.2 s.2.1).2.1, (bdA 1 s.1.1 s.1.2 s.2.2 s.2.1).2.2))
  generalize bdA 1 s.1.1 s.1.2 s.2.2 s.2.1 = B at a1 a2 a3 a4 a5 np hp ht
  obtain ⟨k, ek⟩ : ∃ k, B.1 = k + 1 := ⟨B.1 - 1, by omega⟩
  rw [ek] at a2 np ht
  have ht : (s.1.2 k).toInt = 40 := ht
  have a2 : B.2.1 = cnA isB k s.1.2 + (if isB (s.1.2 k) = true then 1 else 0) + 1 := a2
  have np : cnA isP s.1.1 s.1.2 = cnA isP k s.1.2 + (if isP (s.1.2 k) = true then 1 else 0) := np
  rw [if_neg (fun z => by have z := rk_b.mp (isB_t.mp z); omega)] at a2
  rw [if_pos (isP_t.mpr ht)] at np
  have h4 : 2 * s.2.1 ≤ i + 1 := h4
  refine tdS_ok (b := true) (s := ((B.1 - 1, s.1.2), B.2.1, B.2.2)) ?_ ?_ ?_ ?_ (fun j hj => ?_)
  · show B.2.1 = cnA isB (B.1 - 1) s.1.2 + 1
    rw [ek, Nat.add_sub_cancel]
    omega
  · show cnA isP (B.1 - 1) s.1.2 = o - 1
    rw [ek, Nat.add_sub_cancel]
    omega
  · show B.1 - 1 ≤ i + 1
    omega
  · show 2 * B.2.1 ≤ i + 1 + 1
    omega
  · have hj : j < B.1 - 1 := hj
    obtain ⟨g1, g2⟩ := h5 j (by omega)
    exact ⟨g1, fun z => ⟨fun _ => rfl, fun e => (g2 z).2 (by have e : j + 1 < B.1 - 1 := e; omega)⟩⟩
end
section
/-! texts: the class's parser is the machine -/
theorem bl_126 : lp_L2[126]? = some (0, 7, 4, [(2, 0, 127), (2, 0, 128), (1, 0, 0), (1, 0, 0)]) := lp_at_ok (by decide +kernel)
theorem bt_126 : lp_sh[126]? = some 12 := by decide +kernel
theorem bl_127 : lp_L2[127]? = some (1, 0, 60, []) := lp_at_ok (by decide +kernel)
theorem bt_127 : lp_sh[127]? = some 25 := by decide +kernel
def L128_ : List mk_V := (List.range 32).map (fun i => (2, 0, 129 + 2 * i))
theorem bl_128 : lp_L2[128]? = some (3, 3, 32, L128_) := lp_at_ok (by decide +kernel)
theorem bt_128 : lp_sh[128]? = some 26 := by decide +kernel
theorem L128_ix (i : Nat) (hi : i < 32) : L128_[i]? = some (2, 0, 129 + 2 * i) := by
  unfold L128_
  rw [List.getElem?_map, List.getElem?_range hi]
  rfl
theorem bl_VO (i : Nat) (hi : i < 32) : lp_L2[129 + 2 * i]? = some (0, 1, 1, [(2, 0, 130 + 2 * i)]) := lp_at_ok (List.all_eq_true.mp (show (List.range 32).all (fun i => lp_at lp_L2 (129 + 2 * i) (0, 1, 1, [(2, 0, 130 + 2 * i)])) = true by decide +kernel) i (List.mem_range.mpr hi))
theorem bt_VO : ∀ i, i < 32 → lp_sh[129 + 2 * i]? = some 92 := by decide +kernel
theorem bl_VW (i : Nat) (hi : i < 32) : lp_L2[130 + 2 * i]? = some (2, 1, 4, []) := lp_at_ok (List.all_eq_true.mp (show (List.range 32).all (fun i => lp_at lp_L2 (130 + 2 * i) (2, 1, 4, [])) = true by decide +kernel) i (List.mem_range.mpr hi))
theorem bt_VW : ∀ i, i < 32 → lp_sh[130 + 2 * i]? = some 93 := by decide +kernel
def vS (B : Nat → Nat) (V : Nat → Nat → Int64) (w : lW) : Prop := ∀ i, i < 32 → aJ B (130 + 2 * i) 4 (V i) w
theorem vS.keep {B : Nat → Nat} {V : Nat → Nat → Int64} {rt : Nat} {Wr : List (Nat × Nat)} {T : fT} {cc : ByteArray} {As : List Value} {w w' : lW} {rv : Option Value} (hW : vS B V w) (hI : bI B w) (h : fLr (fq cw_TT cw_SG rt Wr T cc) As w rv w') (hw : (93, 0) ∉ Wr) : vS B V w' :=
  fun i hi => (hW i hi).keep hI h (bl_VW i hi) (bt_VW i hi) (show (2 : Nat) ≠ 0 by decide) hw
theorem vS.bx {B : Nat → Nat} {V : Nat → Nat → Int64} {w : lW} (hW : vS B V w) (hI : bI B w) {tys : List (ClassId × FieldType)} (hw : ck_wo tys cw_TT cw_SG w.1 w.2) {i : Nat} (hi : i < 32) : ∃ (fs : List Value) (cA : ClassId), bx (B (129 + 2 * i), fs, B (130 + 2 * i), cA, V i) (hof w.1) := by
  obtain ⟨vs, h1, -, h3⟩ := hI.2.ov hI.1 hw (bl_VO i hi) (bt_VO i hi) (show cw_TT[92]? = some (0, 1, _, _) from rfl)
  obtain ⟨cA, h4⟩ := hW i hi
  exact ⟨vs, cA, h1, h3 0 (130 + 2 * i) rfl, h4⟩
theorem vS.upd {B : Nat → Nat} {V : Nat → Nat → Int64} {w w' : lW} (hW : vS B V w) (hI : bI B w) {C : Nat} (hC : C < 32) {cA : ClassId} {g : Nat → Int64} (hh : hof w'.1 = hset (hof w.1) (B (130 + 2 * C)) (.inl (cA, 4, .inr (.inl g)))) : vS B (updW V C g) w' := by
  intro i hi
  by_cases e : i = C
  · subst e
    refine ⟨cA, ?_⟩
    rw [updW_at, hh, hset_at]
  · obtain ⟨c2, h2⟩ := hW i hi
    refine ⟨c2, ?_⟩
    rw [updW_ne e, hh, hset_ne (hI.2.ne hI.1 (bl_VW i hi) (bl_VW C hC) (by omega))]
    exact h2
theorem vS.st {B : Nat → Nat} {V : Nat → Nat → Int64} {w : lW} (hW : vS B V w) (hI : bI B w) {p : Nat} {d : mk_C} {ws' : va_W} {sh' : List Nat} {e : va_E} (hd : lp_L2[p]? = some d) (hn : p < 129) (hh : hof ws' = hset (hof w.1) (B p) e) : vS B V (ws', sh') :=
  fun i hi => (hW i hi).upd hI (bl_VW i hi) hd (by omega) hh
/-- the values' row -/
def vR (B : Nat → Nat) (w : lW) : Prop := ∃ (cA : ClassId) (g : Nat → Option Nat), hof w.1 (B 128) = some (.inl (cA, 32, .inr (.inr (.inr (.inr g))))) ∧ ∀ i, i < 32 → g i = some (B (129 + 2 * i))
theorem vR.of {B : Nat → Nat} {w : lW} (hI : bI B w) {tys : List (ClassId × FieldType)} (hw : ck_wo tys cw_TT cw_SG w.1 w.2) : vR B w := by
  obtain ⟨e, h1, h2, h3⟩ := hI.2.h hI.1 bl_128
  obtain ⟨td, d1, d2⟩ := hw.2.1 128 _ e 26 h1 (hI.2.1 128 26 bt_128)
  have e1 : td = (3, 32, 3, [(2, 0, 0, [92])]) := Option.some.inj (d1.symm.trans (show cw_TT[26]? = some (3, 32, 3, [(2, 0, 0, [92])]) from rfl))
  subst e1
  obtain ⟨cA, C, f, -, rfl, -⟩ := d2
  exact ⟨cA, f, h2, fun i hi => h3.2 i _ (L128_ix i hi)⟩
theorem vR.upd {B : Nat → Nat} {w : lW} (hs : vR B w) (hI : bI B w) {p : Nat} {d : mk_C} {ws' : va_W} {sh' : List Nat} {e : va_E} (hd : lp_L2[p]? = some d) (hn : 128 ≠ p) (hh : hof ws' = hset (hof w.1) (B p) e) : vR B (ws', sh') := by
  obtain ⟨cA, g, h1, h2⟩ := hs
  refine ⟨cA, g, ?_, h2⟩
  show hof ws' (B 128) = _
  rw [hh, hset_ne (hI.2.ne hI.1 bl_128 hd hn)]
  exact h1
/-- the reader's state: the counts' fields, and what of the machine's state is there -/
def rX (B : Nat → Nat) (s : pS) (km kv : Nat) (w : lW) : Prop := bI B w ∧ (∃ x : Int32, oF B 126 7 2 (.int x) w ∧ x.toInt = (km : Int)) ∧ (∃ x : Int32, oF B 126 7 3 (.int x) w ∧ x.toInt = (kv : Int)) ∧ (∃ f, aI B 127 60 f w ∧ ∀ j, j < s.1.1 → f j = s.1.2 j) ∧ (∃ V, vS B V w ∧ ∀ i, i < s.2.1 → ∀ x, x < 4 → V i x = s.2.2 i x) ∧ vR B w
def rS (B : Nat → Nat) (s : pS) (w : lW) : Prop := rX B s s.1.1 s.2.1 w
theorem rX.cut {B : Nat → Nat} {s s' : pS} {km kv : Nat} {w : lW} (h : rX B s km kv w) (h1 : s'.1.1 ≤ s.1.1) (h2 : s'.1.2 = s.1.2) (h3 : s'.2.1 ≤ s.2.1) (h4 : s'.2.2 = s.2.2) : rX B s' km kv w := by
  obtain ⟨a1, a2, a3, ⟨f, a4, a5⟩, ⟨V, a6, a7⟩, a8⟩ := h
  exact ⟨a1, a2, a3, ⟨f, a4, fun j hj => by rw [h2]; exact a5 j (by omega)⟩, ⟨V, a6, fun i hi x hx => by rw [h4]; exact a7 i (by omega) x hx⟩, a8⟩
theorem nat_i {x : Int32} {n : Nat} (h : x.toInt = (n : Int)) : x.toInt.toNat = n := by
  rw [h]
  rfl
theorem i_m1 {x : Int32} {n : Nat} (h : x.toInt = ((n + 1 : Nat) : Int)) : (x - 1).toInt = (n : Int) := by
  have z1 : (1 : Int32).toInt = 1 := by decide
  have h2 := Int32.toInt_lt x
  rw [i_sub (by rw [z1]; omega) (by rw [z1]; omega), z1]
  omega
theorem i_p1 {x : Int32} {n : Nat} (h : x.toInt = (n : Int)) (hn : n < 1000) : (x + 1).toInt = ((n + 1 : Nat) : Int) := by
  rw [i_inc (by omega) (by omega)]
  omega
section
variable {B : Nat → Nat} {s : pS} {km kv : Nat} {w w' : lW}
theorem rX.g31 (h : rX B s km kv w) : ∃ x : Int32, eG fl_X7 31 (hof w.1 (B 126)) = .int x ∧ x.toInt = (km : Int) := by
  obtain ⟨x, h1, h2⟩ := h.2.1
  exact ⟨x, h1.get rfl, h2⟩
theorem rX.g35 (h : rX B s km kv w) : ∃ x : Int32, eG fl_X7 35 (hof w.1 (B 126)) = .int x ∧ x.toInt = (kv : Int) := by
  obtain ⟨x, h1, h2⟩ := h.2.2.1
  exact ⟨x, h1.get rfl, h2⟩
theorem rX.g9 (h : rX B s km kv w) : eG fl_X7 9 (hof w.1 (B 126)) = .ref (B 127) := by
  obtain ⟨x, h1, h2⟩ := h.2.1
  exact bR h1 h.1 bl_126 rfl rfl
theorem rX.g19 (h : rX B s km kv w) : eG fl_X7 19 (hof w.1 (B 126)) = .ref (B 128) := by
  obtain ⟨x, h1, h2⟩ := h.2.1
  exact bR h1 h.1 bl_126 rfl rfl
theorem rX.mk (h : rX B s km kv w) {j : Nat} (hj : j < s.1.1) : eI (hof w.1 (B 127)) j = s.1.2 j := by
  obtain ⟨f, ⟨cA, h1⟩, h2⟩ := h.2.2.2.1
  rw [h1]
  exact h2 j hj
theorem rX.vl (h : rX B s km kv w) {j : Nat} (hj : j < 32) : eR (hof w.1 (B 128)) j = .ref (B (129 + 2 * j)) := by
  obtain ⟨cA, g, h1, h2⟩ := h.2.2.2.2.2
  rw [h1]
  show va_rf (g j) = _
  rw [h2 j hj]
  rfl
/-- a count written -/
theorem rX.p31 (h : rX B s km kv w) {q : Nat} {e0 : va_E} (hq : w.1[q]? = some (B 126, e0)) {E : Value} {x : Int32} {k : Nat} (hE : E = .int x) (hx : x.toInt = (k : Int)) : rX B s k kv (w.1.set q (B 126, sG pl_X7 31 E (hof w.1 (B 126))), w.2) := by
  subst hE
  obtain ⟨a1, ⟨y, a2, -⟩, ⟨z, a3, ez⟩, ⟨f, a4, a5⟩, ⟨V, a6, a7⟩, a8⟩ := h
  obtain ⟨b1, b2, b3, b4⟩ := oF.put (v' := .int x) (i := 31) (pl := pl_X7) a1 a2 bl_126 hq rfl (fun r h => by have h : some ((1, 0, 0) : mk_V) = some (2, 0, r) := h; cases h)
  exact ⟨b1, ⟨x, b3, hx⟩, ⟨z, b4 3 _ (by decide) a3, ez⟩, ⟨f, a4.upd a1 bl_127 bl_126 (by decide) b2, a5⟩, ⟨V, a6.st a1 bl_126 (by decide) b2, a7⟩, a8.upd a1 bl_126 (by decide) b2⟩
theorem rX.p35 (h : rX B s km kv w) {q : Nat} {e0 : va_E} (hq : w.1[q]? = some (B 126, e0)) {E : Value} {x : Int32} {k : Nat} (hE : E = .int x) (hx : x.toInt = (k : Int)) : rX B s km k (w.1.set q (B 126, sG pl_X7 35 E (hof w.1 (B 126))), w.2) := by
  subst hE
  obtain ⟨a1, ⟨y, a2, ey⟩, ⟨z, a3, -⟩, ⟨f, a4, a5⟩, ⟨V, a6, a7⟩, a8⟩ := h
  obtain ⟨b1, b2, b3, b4⟩ := oF.put (v' := .int x) (i := 35) (pl := pl_X7) a1 a3 bl_126 hq rfl (fun r h => by have h : some ((1, 0, 0) : mk_V) = some (2, 0, r) := h; cases h)
  exact ⟨b1, ⟨y, b4 2 _ (by decide) a2, ey⟩, ⟨x, b3, hx⟩, ⟨f, a4.upd a1 bl_127 bl_126 (by decide) b2, a5⟩, ⟨V, a6.st a1 bl_126 (by decide) b2, a7⟩, a8.upd a1 bl_126 (by decide) b2⟩
/-- a sign written above -/
theorem rX.w127 (h : rX B s km kv w) {q : Nat} {e0 : va_E} {E : Value} (hE : E = .ref (B 127)) (hq : w.1[q]? = some (rv_ E, e0)) {c : Int32} {i : Nat} (hi : i = s.1.1) : rX B ((s.1.1 + 1, upd s.1.2 s.1.1 c), s.2) km kv (w.1.set q (rv_ E, sI i c (hof w.1 (rv_ E))), w.2) := by
  obtain ⟨a1, ⟨y, a2, ey⟩, ⟨z, a3, ez⟩, ⟨f, ⟨cA, a4⟩, a5⟩, ⟨V, a6, a7⟩, a8⟩ := h
  obtain ⟨b1, b2⟩ := a1.wI bl_127 (by decide) (fun k r h => by cases h) hE hq (i := i) (v := c)
  refine ⟨b1, ⟨y, a2.upd a1 bl_126 bl_127 (by decide) b2, ey⟩, ⟨z, a3.upd a1 bl_126 bl_127 (by decide) b2, ez⟩, ⟨upd f i c, ⟨cA, ?_⟩, fun j hj => ?_⟩, ⟨V, a6.st a1 bl_127 (by decide) b2, a7⟩, a8.upd a1 bl_127 (by decide) b2⟩
  · rw [b2, hset_at]
    subst hE
    show some (sI i c (hof w.1 (B 127))) = _
    rw [a4]
    rfl
  · have hj : j < s.1.1 + 1 := hj
    show upd f i c j = upd s.1.2 s.1.1 c j
    rw [hi]
    by_cases e : j = s.1.1
    · rw [e, upd_at, upd_at]
    · rw [upd_ne e, upd_ne e]
      exact a5 j (by omega)
/-- a call that leaves the marks and counts -/
theorem rX.kV {rt : Nat} {Wr : List (Nat × Nat)} {T : fT} {cc : ByteArray} {As : List Value} {rv : Option Value} (h : rX B s km kv w) (hx : fLr (fq cw_TT cw_SG rt Wr T cc) As w rv w') (hk : bs_K.all (fun x => !(Wr.contains x)) = true) (hw : (12, 2) ∉ Wr ∧ (12, 3) ∉ Wr ∧ (25, 0) ∉ Wr) {v' : Nat → Nat → Int64} {n : Nat} (hV : ∀ V, vS B V w → (∀ i, i < s.2.1 → ∀ x, x < 4 → V i x = s.2.2 i x) → ∃ V', vS B V' w' ∧ ∀ i, i < n → ∀ x, x < 4 → V' i x = v' i x) : rX B (s.1, n, v') km kv w' := by
  obtain ⟨tys, -, hw2⟩ := hx.2.2.2.2.1
  obtain ⟨a1, ⟨y, a2, ey⟩, ⟨z, a3, ez⟩, ⟨f, a4, a5⟩, ⟨V, a6, a7⟩, -⟩ := h
  have b1 := a1.keep hx hk
  exact ⟨b1, ⟨y, a2.keep a1 hx bl_126 bt_126 hw.1, ey⟩, ⟨z, a3.keep a1 hx bl_126 bt_126 hw.2.1, ez⟩, ⟨f, a4.keep a1 hx bl_127 bt_127 (by decide) hw.2.2, a5⟩, hV V a6 a7, vR.of b1 hw2⟩
theorem rX.keep {rt : Nat} {Wr : List (Nat × Nat)} {T : fT} {cc : ByteArray} {As : List Value} {rv : Option Value} (h : rX B s km kv w) (hx : fLr (fq cw_TT cw_SG rt Wr T cc) As w rv w') (hk : bs_K.all (fun x => !(Wr.contains x)) = true) (hw : (12, 2) ∉ Wr ∧ (12, 3) ∉ Wr ∧ (25, 0) ∉ Wr) (hv : (93, 0) ∉ Wr) : rX B s km kv w' :=
  h.kV hx hk hw (fun V h1 h2 => ⟨V, h1.keep h.1 hx hv, h2⟩)
end
/-! what the filling of a set does -/
theorem fo_J7b : f_ok5 fl_J7 pl_J7 nw_J7 kl_J7 il_J7 = true := by decide +kernel
abbrev fiA : Type := Nat × ClassId × (Nat → Int64) × Int64
def P_fil : fPh := fun As h rv h' => ∀ a : fiA, As = [.ref a.1, .long a.2.2.2] → h a.1 = some (.inl (a.2.1, 4, .inr (.inl a.2.2.1))) → rv = none ∧ ∃ g : Nat → Int64, h' = hset h a.1 (.inl (a.2.1, 4, .inr (.inl g))) ∧ ∀ x, x < 4 → g x = a.2.2.2
def in_fil (a : Nat) (cA : ClassId) (f : Nat → Int64) (v : Int64) (h0 : fH) : fL_ → List Value → fH → Prop := fun lg vs w => ∃ (t : Int32) (g : Nat → Int64), f_sub [(3, false, .int t), (4, false, .int (Int32.ofNat 4)), (0, false, .ref a), (1, true, .long v)] lg ∧ vs = [] ∧ w = hset h0 a (.inl (cA, 4, .inr (.inl g))) ∧ 0 ≤ t.toInt ∧ t.toInt ≤ 4 ∧ ∀ x, x < 4 → g x = if x < t.toInt.toNat then v else f x
set_option maxHeartbeats 4000000 in
theorem s_J7_fil : f_do r_J7_fill_d0a16 P_fil := by
  refine do_ofP (fun a : fiA => [.ref a.1, .long a.2.2.2]) (fun a h => h a.1 = some (.inl (a.2.1, 4, .inr (.inl a.2.2.1)))) (fun a h rv h' => rv = none ∧ ∃ g : Nat → Int64, h' = hset h a.1 (.inl (a.2.1, 4, .inr (.inl g))) ∧ ∀ x, x < 4 → g x = a.2.2.2) [] (fun a h => [(6, in_fil a.1 a.2.1 a.2.2.1 a.2.2.2 h)]) 60 fo_J7b no_sp k_J7_fill_d0a16 (fun a h0 hp => ?_) (fun a h0 hp => ?_)
  · refine List.forall_mem_cons.mpr ⟨?_, fun _ h => absurd h List.not_mem_nil⟩
    obtain ⟨a, cA, f, v⟩ := a
    have ha : h0 a = some (.inl (cA, 4, .inr (.inl f))) := hp
    rintro lg vs w ⟨t, g, hs, rfl, ew, t0, t4, hg⟩
    have ew : w = hset h0 a (.inl (cA, 4, .inr (.inl g))) := ew
    have hg : ∀ x, x < 4 → g x = if x < t.toInt.toNat then v else f x := hg
    have wa : w a = some (.inl (cA, 4, .inr (.inl g))) := by rw [ew, hset_at]
    refine ⟨_, 60, hs, fun hc => ?_, fun hc => ?_⟩
    · have hc : (Int32.ofNat 4).toInt ≤ t.toInt := hc
      rw [e4_] at hc
      refine ⟨rfl, g, ew, fun x hx => ?_⟩
      rw [hg x hx, t_end t4 hc, if_pos hx]
    · have hc : ¬ (Int32.ofNat 4).toInt ≤ t.toInt := hc
      rw [e4_] at hc
      obtain ⟨i1, i2, i3⟩ := t_inc t0 (show t.toInt < 4 by omega)
      refine ⟨t + 1, vp_updL g t.toInt.toNat v, ⟨rfl, rfl, rfl, rfl, trivial⟩, rfl, ?_, i1, i2, ?_⟩
      · show hset w a (sJ t.toNatClampNeg v (w a)) = _
        rw [wa, ew]
        exact hset_hset
      · show ∀ x, x < 4 → vp_updL g t.toInt.toNat v x = if x < (t + 1).toInt.toNat then v else f x
        rw [i3]
        exact o_step (o := fun _ => v) hg (by omega)
  · obtain ⟨a, cA, f, v⟩ := a
    have ha : h0 a = some (.inl (cA, 4, .inr (.inl f))) := hp
    refine ⟨0, f, ⟨rfl, ?_, rfl, rfl, trivial⟩, rfl, (hset_self ha).symm, by decide, by decide, fun x _ => (if_neg (Nat.not_lt_zero x)).symm⟩
    show some (false, Value.int (Int32.ofNat (eL (h0 a)))) = some (false, .int (Int32.ofNat 4))
    rw [ha]
    rfl
def P_fc (v : Int64) : fPh := fun As h rv h' => ∀ a : bxA, As = [.ref a.1] → bx a h → rv = none ∧ ∃ g : Nat → Int64, h' = hset h a.2.2.1 (.inl (a.2.2.2.1, 4, .inr (.inl g))) ∧ ∀ x, x < 4 → g x = v
theorem s_X1_fillUp : f_do r_X1_fillUp (P_fc m1_) := by
  refine do_ofP (fun a : bxA => [.ref a.1]) (fun a h => bx a h) (fun a h rv h' => rv = none ∧ ∃ g : Nat → Int64, h' = hset h a.2.2.1 (.inl (a.2.2.2.1, 4, .inr (.inl g))) ∧ ∀ x, x < 4 → g x = m1_) [(58, 2, P_fil)] (fun _ _ => []) 40 fo_X1 (List.forall_mem_cons.mpr ⟨sp_one rfl s_J7_fil, no_sp⟩) k_X1_fillUp (fun _ _ _ => no_hd) (fun a h0 hp => ?_)
  obtain ⟨p, fs, a, cA, f⟩ := a
  obtain ⟨hp, h0a, ha⟩ := hp
  have hp : h0 p = some (.inr (1, fs)) := hp
  have h0a : fs.getD 0 .null = .ref a := h0a
  have g1 : eG fl_X1 13 (h0 p) = .ref a := by
    rw [hp, ← h0a]
    rfl
  intro rv h1 hx
  obtain ⟨rfl, h⟩ := hx (a, cA, f, m1_) (by show [eG fl_X1 13 (h0 p), Value.long m1_] = _; rw [g1]) ha
  exact ⟨rfl, h⟩
theorem s_X1_clear : f_do r_X1_clear (P_fc 0) := by
  refine do_ofP (fun a : bxA => [.ref a.1]) (fun a h => bx a h) (fun a h rv h' => rv = none ∧ ∃ g : Nat → Int64, h' = hset h a.2.2.1 (.inl (a.2.2.2.1, 4, .inr (.inl g))) ∧ ∀ x, x < 4 → g x = 0) [(58, 2, P_fil)] (fun _ _ => []) 40 fo_X1 (List.forall_mem_cons.mpr ⟨sp_one rfl s_J7_fil, no_sp⟩) k_X1_clear (fun _ _ _ => no_hd) (fun a h0 hp => ?_)
  obtain ⟨p, fs, a, cA, f⟩ := a
  obtain ⟨hp, h0a, ha⟩ := hp
  have hp : h0 p = some (.inr (1, fs)) := hp
  have h0a : fs.getD 0 .null = .ref a := h0a
  have g1 : eG fl_X1 13 (h0 p) = .ref a := by
    rw [hp, ← h0a]
    rfl
  intro rv h1 hx
  obtain ⟨rfl, h⟩ := hx (a, cA, f, 0) (by show [eG fl_X1 13 (h0 p), Value.long (Int64.ofNat 0)] = _; rw [g1]; rfl) ha
  exact ⟨rfl, h⟩
end
section
/-! texts: the class's methods one by one -/
/-- a letter's set -/
abbrev fwA : Type := bxA × Int32
def P_fw : fPh := fun As h rv h' => ∀ a : fwA, As = [.ref a.1.1, .int a.2] → (bx a.1 h ∧ 0 ≤ a.2.toInt ∧ a.2.toInt < 8) → rv = none ∧ ∃ g : Nat → Int64, h' = hset h a.1.2.2.1 (.inl (a.1.2.2.2.1, 4, .inr (.inl g))) ∧ ∀ x, x < 4 → g x = ltW a.2.toInt.toNat x
def in_fw (p a : Nat) (cA : ClassId) (f : Nat → Int64) (k : Int32) (h0 : fH) : fL_ → List Value → fH → Prop := fun lg vs w => ∃ (t : Int32) (g : Nat → Int64), f_sub [(2, false, .int t), (0, false, .ref p), (1, false, .int k)] lg ∧ vs = [] ∧ w = hset h0 a (.inl (cA, 4, .inr (.inl g))) ∧ 0 ≤ t.toInt ∧ t.toInt ≤ 4 ∧ ∀ x, x < 4 → g x = if x < t.toInt.toNat then ltW k.toInt.toNat x else f x
theorem o_stepF {F f g : Nat → Int64} {t : Nat} {u : Int64} (h : ∀ x, x < 4 → g x = if x < t then F x else f x) (ht : t < 4) (hu : u = F t) : ∀ x, x < 4 → vp_updL g t u x = if x < t + 1 then F x else f x := by
  intro x hx
  unfold vp_updL
  by_cases e : x = t
  · subst e
    rw [if_pos rfl, if_pos (by omega), hu]
  · rw [if_neg e, h x hx]
    by_cases hl : x < t
    · rw [if_pos hl, if_pos (by omega)]
    · rw [if_neg hl, if_neg (by omega)]
theorem i32_of {t : Int32} {n : Int} (h : t.toInt = n) : t = Int32.ofInt n := by
  rw [← h]
  exact (Int32.ofInt_toInt t).symm
/-- the shift's bit, for the letters g and h -/
theorem fw_bit {t k : Int32} (t0 : 0 ≤ t.toInt) (t4 : t.toInt < 4) (k6 : 6 ≤ k.toInt) (k8 : k.toInt < 8) : ((t >>> ((k - 6) &&& 31)) &&& 1).toInt = (if k.toInt = 6 then (t.toInt % 2) else (if 2 ≤ t.toInt then 1 else 0)) := by
  have hk : k = Int32.ofInt 6 ∨ k = Int32.ofInt 7 := by
    rcases (show k.toInt = 6 ∨ k.toInt = 7 by omega) with h | h
    · exact Or.inl (i32_of h)
    · exact Or.inr (i32_of h)
  have ht : t = Int32.ofInt 0 ∨ t = Int32.ofInt 1 ∨ t = Int32.ofInt 2 ∨ t = Int32.ofInt 3 := by
    rcases (show t.toInt = 0 ∨ t.toInt = 1 ∨ t.toInt = 2 ∨ t.toInt = 3 by omega) with h | h | h | h
    · exact Or.inl (i32_of h)
    · exact Or.inr (Or.inl (i32_of h))
    · exact Or.inr (Or.inr (Or.inl (i32_of h)))
    · exact Or.inr (Or.inr (Or.inr (i32_of h)))
  rcases hk with rfl | rfl <;> rcases ht with rfl | rfl | rfl | rfl <;> decide
set_option maxHeartbeats 4000000 in
theorem s_X1_fillWith : f_do r_X1_fillWith P_fw := by
  refine do_ofP (fun a : fwA => [.ref a.1.1, .int a.2]) (fun a h => bx a.1 h ∧ 0 ≤ a.2.toInt ∧ a.2.toInt < 8) (fun a h rv h' => rv = none ∧ ∃ g : Nat → Int64, h' = hset h a.1.2.2.1 (.inl (a.1.2.2.2.1, 4, .inr (.inl g))) ∧ ∀ x, x < 4 → g x = ltW a.2.toInt.toNat x) [] (fun a h => [(2, in_fw a.1.1 a.1.2.2.1 a.1.2.2.2.1 a.1.2.2.2.2 a.2 h)]) 60 fo_X1 no_sp k_X1_fillWith (fun a h0 hp => ?_) (fun a h0 hp => ?_)
  · refine List.forall_mem_cons.mpr ⟨?_, fun _ h => absurd h List.not_mem_nil⟩
    obtain ⟨⟨p, fs, a, cA, f⟩, k⟩ := a
    obtain ⟨⟨hp, h0a, ha⟩, k0, k8⟩ := hp
    have hp : h0 p = some (.inr (1, fs)) := hp
    have h0a : fs.getD 0 .null = .ref a := h0a
    have ha : h0 a = some (.inl (cA, 4, .inr (.inl f))) := ha
    have k0 : 0 ≤ k.toInt := k0
    have k8 : k.toInt < 8 := k8
    rintro lg vs w ⟨t, g, hs, rfl, ew, t0, t4, hg⟩
    have ew : w = hset h0 a (.inl (cA, 4, .inr (.inl g))) := ew
    have hg : ∀ x, x < 4 → g x = if x < t.toInt.toNat then ltW k.toInt.toNat x else f x := hg
    have g1 : eG fl_X1 13 (w p) = .ref a := by
      rw [ew, hset_ne (Ne.symm (ne_of_h hp ha)), hp, ← h0a]
      rfl
    have wa : w a = some (.inl (cA, 4, .inr (.inl g))) := by rw [ew, hset_at]
    have l1 : (Int32.ofNat (eL (w (rv_ (eG fl_X1 13 (w p)))))).toInt = 4 := by
      rw [g1]
      show (Int32.ofNat (eL (w a))).toInt = 4
      rw [wa]
      exact e4_
    have nx : ∀ {L : fL_} {u : Int64}, ¬ 4 ≤ t.toInt → f_sub [(2, false, .int (t + 1)), (0, false, .ref p), (1, false, .int k)] L → u = ltW k.toInt.toNat t.toInt.toNat → in_fw p a cA f k h0 L [] (hset w (rv_ (eG fl_X1 13 (w p))) (sJ t.toNatClampNeg u (w (rv_ (eG fl_X1 13 (w p)))))) := by
      intro L u h4 hL hu
      obtain ⟨i1, i2, i3⟩ := t_inc t0 (show t.toInt < 4 by omega)
      refine ⟨t + 1, vp_updL g t.toInt.toNat u, hL, rfl, ?_, i1, i2, ?_⟩
      · rw [g1]
        show hset w a (sJ t.toNatClampNeg u (w a)) = _
        rw [wa, ew]
        exact hset_hset
      · rw [i3]
        exact o_stepF hg (by omega) hu
    have e1 : (Int32.ofInt 1).toInt = 1 := by decide
    have big : ¬ 4 ≤ t.toInt → 6 ≤ k.toInt → (((t >>> ((k - Int32.ofInt 6) &&& 31)) &&& Int32.ofInt 1).toInt ≠ (Int32.ofInt 1).toInt → ltW k.toInt.toNat t.toInt.toNat = 0) ∧ (((t >>> ((k - Int32.ofInt 6) &&& 31)) &&& Int32.ofInt 1).toInt = (Int32.ofInt 1).toInt → ltW k.toInt.toNat t.toInt.toNat = m1_) := by
      intro h4 h6
      have l6 : k.toInt = 6 → ltW k.toInt.toNat t.toInt.toNat = if t.toInt.toNat % 2 = 1 then m1_ else 0 := fun h => by
        unfold ltW
        rw [if_neg (show ¬ k.toInt.toNat < 6 by omega), if_pos (show k.toInt.toNat = 6 by omega)]
      have l7 : ¬ k.toInt = 6 → ltW k.toInt.toNat t.toInt.toNat = if 2 ≤ t.toInt.toNat then m1_ else 0 := fun h => by
        unfold ltW
        rw [if_neg (show ¬ k.toInt.toNat < 6 by omega), if_neg (show ¬ k.toInt.toNat = 6 by omega)]
      have hb : ((t >>> ((k - Int32.ofInt 6) &&& 31)) &&& Int32.ofInt 1).toInt = (if k.toInt = 6 then (t.toInt % 2) else (if 2 ≤ t.toInt then 1 else 0)) := fw_bit t0 (by omega) h6 k8
      by_cases hk : k.toInt = 6
      · rw [if_pos hk] at hb
        rw [hb, e1, l6 hk]
        exact ⟨fun z => if_neg (by omega), fun z => if_pos (by omega)⟩
      · rw [if_neg hk] at hb
        rw [hb, e1, l7 hk]
        by_cases h2 : 2 ≤ t.toInt
        · rw [if_pos h2]
          exact ⟨fun z => absurd rfl z, fun _ => if_pos (by omega)⟩
        · rw [if_neg h2]
          exact ⟨fun _ => if_neg (by omega), fun z => absurd z (by decide)⟩
    refine ⟨_, 60, hs, fun hc => ?_, fun hc => ⟨fun hk => ⟨fun hb => ?_, fun hb => ?_⟩, fun hk => ?_⟩⟩
    · have hc : (Int32.ofNat (eL (w (rv_ (eG fl_X1 13 (w p)))))).toInt ≤ t.toInt := hc
      rw [l1] at hc
      refine ⟨rfl, g, ew, fun x hx => ?_⟩
      rw [hg x hx, t_end t4 hc, if_pos hx]
    · have hk : k.toInt < 0 := hk
      omega
    · have hk : k.toInt < 0 := hk
      omega
    · have hc : ¬ (Int32.ofNat (eL (w (rv_ (eG fl_X1 13 (w p)))))).toInt ≤ t.toInt := hc
      rw [l1] at hc
      intro q hq
      have hq : w q = none := hq
      refine ⟨fun h6 => ⟨fun hb => ?_, fun hb => ?_⟩, fun h6 => ?_⟩
      · have h6 : (Int32.ofNat (eL (w q))).toInt ≤ k.toInt := h6
        rw [hq] at h6
        have h6 : (Int32.ofNat 6).toInt ≤ k.toInt := h6
        have h6 : 6 ≤ k.toInt := h6
        have hb : ¬ ((t >>> ((k - Int32.ofInt 6) &&& 31)) &&& Int32.ofInt 1).toInt = (Int32.ofInt 1).toInt := hb
        exact nx hc ⟨rfl, rfl, rfl, trivial⟩ ((big hc h6).1 hb).symm
      · have h6 : (Int32.ofNat (eL (w q))).toInt ≤ k.toInt := h6
        rw [hq] at h6
        have h6 : 6 ≤ k.toInt := h6
        have hb : ¬ ¬ ((t >>> ((k - Int32.ofInt 6) &&& 31)) &&& Int32.ofInt 1).toInt = (Int32.ofInt 1).toInt := hb
        exact nx hc ⟨rfl, rfl, rfl, trivial⟩ ((big hc h6).2 (Classical.not_not.mp hb)).symm
      · have h6 : ¬ (Int32.ofNat (eL (w q))).toInt ≤ k.toInt := h6
        rw [hq] at h6
        have h6 : ¬ 6 ≤ k.toInt := h6
        intro q2 hq2
        have hq2 : w q2 = none := hq2
        refine nx hc ⟨rfl, rfl, rfl, trivial⟩ ?_
        show eJ (w q2) k.toNatClampNeg = ltW k.toInt.toNat t.toInt.toNat
        rw [hq2]
        unfold ltW
        rw [if_pos (by omega)]
        rfl
  · obtain ⟨⟨p, fs, a, cA, f⟩, k⟩ := a
    obtain ⟨⟨hp, h0a, ha⟩, -, -⟩ := hp
    exact ⟨0, f, ⟨rfl, rfl, rfl, trivial⟩, rfl, (hset_self ha).symm, by decide, by decide, fun x _ => (if_neg (Nat.not_lt_zero x)).symm⟩
/-! the reader's methods over whole worlds -/
section
variable {B : Nat → Nat} {s : pS} {km kv : Nat} {w w' : lW} {rv : Option Value}
/-- one value done to -/
theorem v_one {o : Nat → Int64 → Int64} {rt : Nat} {Wr : List (Nat × Nat)} {T : fT} {cc : ByteArray} {X : List Value} {i : Nat} (hx : fLr (fq cw_TT cw_SG rt Wr T cc) (.ref (B (129 + 2 * i)) :: X) w rv w') (h : rX B s km kv w) (hi : i < 32) (hk : bs_K.all (fun x => !(Wr.contains x)) = true) (hw : (12, 2) ∉ Wr ∧ (12, 3) ∉ Wr ∧ (25, 0) ∉ Wr) (hs : ∀ a : bxA, a.1 = B (129 + 2 * i) → bx a (hof w.1) → rv = none ∧ ∃ g : Nat → Int64, hof w'.1 = hset (hof w.1) a.2.2.1 (.inl (a.2.2.2.1, 4, .inr (.inl g))) ∧ ∀ x, x < 4 → g x = o x (a.2.2.2.2 x)) (n : Nat) (hn : n ≤ s.2.1 ∨ (n = i + 1 ∧ i = s.2.1 ∧ ∀ x u u', o x u = o x u')) : rv = none ∧ rX B (s.1, n, updW s.2.2 i (fun x => o x (s.2.2 i x))) km kv w' := by
  obtain ⟨tys, hw1, -⟩ := hx.2.2.2.2.1
  obtain ⟨V, a6, a7⟩ := h.2.2.2.2.1
  obtain ⟨fs, cA, b⟩ := a6.bx h.1 hw1 hi
  obtain ⟨e, -⟩ := hs _ rfl b
  refine ⟨e, h.kV hx hk hw (fun V h1 h2 => ?_)⟩
  obtain ⟨fs, cA, b⟩ := h1.bx h.1 hw1 hi
  obtain ⟨-, g, e1, e2⟩ := hs _ rfl b
  refine ⟨_, h1.upd h.1 hi e1, fun j hj x hx4 => ?_⟩
  by_cases ej : j = i
  · subst ej
    rw [updW_at, updW_at, e2 x hx4]
    show o x (V j x) = o x (s.2.2 j x)
    rcases hn with hn | ⟨-, -, hn⟩
    · rw [h2 j (by omega) x hx4]
    · exact hn x _ _
  · rw [updW_ne ej, updW_ne ej]
    exact h2 j (by rcases hn with hn | ⟨hn, hn2, -⟩ <;> omega) x hx4
/-- one value done to by another -/
theorem v_two {o : Int64 → Int64 → Int64} {rt : Nat} {Wr : List (Nat × Nat)} {T : fT} {cc : ByteArray} {i j : Nat} (hx : fLr (fq cw_TT cw_SG rt Wr T cc) [.ref (B (129 + 2 * i)), .ref (B (129 + 2 * j))] w rv w') (hs : f_do (fq cw_TT cw_SG rt Wr T cc) (P_op2 o)) (h : rX B s km kv w) (hi : i < 32) (hj : j < 32) (hij : i ≠ j) (his : i < s.2.1) (hjs : j < s.2.1) (hk : bs_K.all (fun x => !(Wr.contains x)) = true) (hw : (12, 2) ∉ Wr ∧ (12, 3) ∉ Wr ∧ (25, 0) ∉ Wr) : rv = none ∧ rX B (s.1, s.2.1, updW s.2.2 i (fun x => o (s.2.2 i x) (s.2.2 j x))) km kv w' := by
  obtain ⟨tys, hw1, -⟩ := hx.2.2.2.2.1
  have hs := (hs _ _ _ _ _ _ hx).2
  obtain ⟨V, a6, a7⟩ := h.2.2.2.2.1
  obtain ⟨fs, cA, b⟩ := a6.bx h.1 hw1 hi
  obtain ⟨fs2, cA2, b2⟩ := a6.bx h.1 hw1 hj
  have hne := h.1.2.ne h.1.1 (bl_VW i hi) (bl_VW j hj) (by omega)
  obtain ⟨e, -⟩ := hs (_, _) rfl ⟨b, b2, hne⟩
  refine ⟨e, h.kV hx hk hw (fun V h1 h2 => ?_)⟩
  obtain ⟨fs, cA, b⟩ := h1.bx h.1 hw1 hi
  obtain ⟨fs2, cA2, b2⟩ := h1.bx h.1 hw1 hj
  obtain ⟨-, g, e1, e2⟩ := hs (_, _) rfl ⟨b, b2, hne⟩
  refine ⟨_, h1.upd h.1 hi e1, fun y hy x hx4 => ?_⟩
  by_cases ey : y = i
  · subst ey
    rw [updW_at, updW_at, e2 x hx4]
    show o (V y x) (V j x) = _
    rw [h2 y hy x hx4, h2 j hjs x hx4]
  · rw [updW_ne ey, updW_ne ey]
    exact h2 y hy x hx4
end
/-- a sign marked -/
abbrev maA : Type := (Nat → Nat) × pS × Int32
def ma_F : maA → List Value := fun (B, _, c) => [.ref (B 126), .int c]
def in_ma (B : Nat → Nat) (s : pS) (c : Int32) : fL_ → List Value → lW → Prop := fun lg vs w => f_sub [(0, false, .ref (B 126)), (1, false, .int c)] lg ∧ vs = [] ∧ rX B (psh c s) s.1.1 s.2.1 w
set_option maxHeartbeats 4000000 in
theorem s_X7_mark : ∀ (a : maA) (w w' : lW) (rv : Option Value), fLr r_X7_mark (ma_F a) w rv w' → (rS a.1 a.2.1 w ∧ a.2.1.1.1 < 60) → rv = none ∧ rS a.1 (psh a.2.2 a.2.1) w' := by
  refine do_ofW ma_F (fun a w => rS a.1 a.2.1 w ∧ a.2.1.1.1 < 60) (fun a _ rv w' => rv = none ∧ rS a.1 (psh a.2.2 a.2.1) w') [] (fun a _ => [(23, in_ma a.1 a.2.1 a.2.2)]) 40 fo_X7 (fun _ h => absurd h List.not_mem_nil) k_X7_mark (fun a w0 hp => ?_) (fun a w0 hp hd0 => ?_)
  · refine List.forall_mem_cons.mpr ⟨?_, fun _ h => absurd h List.not_mem_nil⟩
    obtain ⟨B, s, c⟩ := a
    obtain ⟨-, h60⟩ := hp
    have h60 : s.1.1 < 60 := h60
    rintro lg vs w ⟨hs, rfl, h⟩
    have h : rX B (psh c s) s.1.1 s.2.1 w := h
    obtain ⟨x, g1, ex⟩ := h.g31
    refine ⟨_, 40, hs, ?_⟩
    intro q e0 hq
    have hq : w.1[q]? = some (B 126, e0) := hq
    refine ⟨rfl, ?_⟩
    exact h.p31 hq (x := x + 1) (show Value.int (iv (eG fl_X7 31 (hof w.1 (B 126))) + 1) = .int (x + 1) by rw [g1]; rfl) (i_p1 ex (by omega))
  · obtain ⟨B, s, c⟩ := a
    obtain ⟨h, h60⟩ := hp
    have h : rX B s s.1.1 s.2.1 w0 := h
    have h60 : s.1.1 < 60 := h60
    obtain ⟨x, g1, ex⟩ := h.g31
    have e60 : (Int32.ofNat 60).toInt = 60 := by decide
    refine ⟨fun hc => ?_, fun hc => ?_⟩
    · intro q e0 hq
      refine ⟨⟨rfl, rfl, trivial⟩, rfl, h.w127 h.g9 hq ?_⟩
      show (iv (eG fl_X7 31 (hof w0.1 (B 126)))).toInt.toNat = s.1.1
      rw [g1]
      exact nat_i ex
    · have hc : ¬ (iv (eG fl_X7 31 (hof w0.1 (B 126)))).toInt < (Int32.ofNat (eL (hof w0.1 (rv_ (eG fl_X7 9 (hof w0.1 (B 126))))))).toInt := hc
      rw [g1, h.g9] at hc
      obtain ⟨f, ⟨cA, af⟩, -⟩ := h.2.2.2.1
      have hc : ¬ x.toInt < (Int32.ofNat (eL (hof w0.1 (B 127)))).toInt := hc
      rw [af] at hc
      have hc : ¬ x.toInt < (Int32.ofNat 60).toInt := hc
      rw [e60] at hc
      omega
/-- an operand -/
def in_op33 (B : Nat → Nat) (s : pS) (c : Int32) : fL_ → List Value → lW → Prop := fun lg vs w => f_sub [(1, false, .int c), (2, false, .ref (B (129 + 2 * s.2.1)))] lg ∧ vs = [] ∧ rX B s s.1.1 (s.2.1 + 1) w
def Sp_opd : fP lW := [(180, 1, fLr r_X1_fillUp), (195, 1, fLr r_X1_clear), (204, 2, fLr r_X1_fillWith)]
theorem Sp_opd_ok : f_sp T_X7_operand Sp_opd wW := List.forall_mem_cons.mpr ⟨sp_w rfl (fun _ _ _ _ _ _ h => h.2.2.1), List.forall_mem_cons.mpr ⟨sp_w rfl (fun _ _ _ _ _ _ h => h.2.2.1), List.forall_mem_cons.mpr ⟨sp_w rfl (fun _ _ _ _ _ _ h => h.2.2.1), fun _ h => absurd h List.not_mem_nil⟩⟩⟩
set_option maxHeartbeats 4000000 in
theorem s_X7_operand : ∀ (a : maA) (w w' : lW) (rv : Option Value), fLr r_X7_operand (ma_F a) w rv w' → (rS a.1 a.2.1 w ∧ a.2.1.2.1 < 32 ∧ okc a.2.2) → rv = none ∧ rS a.1 (valS a.2.2 a.2.1) w' := by
  refine do_ofW ma_F (fun a w => rS a.1 a.2.1 w ∧ a.2.1.2.1 < 32 ∧ okc a.2.2) (fun a _ rv w' => rv = none ∧ rS a.1 (valS a.2.2 a.2.1) w') Sp_opd (fun a _ => [(33, in_op33 a.1 a.2.1 a.2.2)]) 40 fo_X7 Sp_opd_ok k_X7_operand (fun a w0 hp => ?_) (fun a w0 hp hd0 => ?_)
  · refine List.forall_mem_cons.mpr ⟨?_, fun _ h => absurd h List.not_mem_nil⟩
    obtain ⟨B, s, c⟩ := a
    obtain ⟨-, h32, hok⟩ := hp
    have h32 : s.2.1 < 32 := h32
    have hok : okc c := hok
    rintro lg vs w ⟨hs, rfl, h⟩
    have h : rX B s s.1.1 (s.2.1 + 1) w := h
    have e49 : (Int32.ofInt 49).toInt = 49 := by decide
    have e48 : (Int32.ofInt 48).toInt = 48 := by decide
    refine ⟨_, 40, hs, fun h1 => ⟨fun h2 => ?_, fun h2 => ?_⟩, fun h1 => ?_⟩
    · have h1 : ¬ c.toInt = (Int32.ofInt 49).toInt := h1
      rw [e49] at h1
      have h2 : ¬ c.toInt = (Int32.ofInt 48).toInt := h2
      rw [e48] at h2
      have hr : 97 ≤ c.toInt ∧ c.toInt ≤ 104 := by
        unfold okc at hok
        omega
      have e97 : (Int32.ofInt 97).toInt = 97 := by decide
      have ek : (c - Int32.ofInt 97).toInt = c.toInt - 97 := by
        rw [i_sub (by rw [e97]; omega) (by rw [e97]; omega), e97]
      intro rv w1 hx
      have hx : fLr r_X1_fillWith [.ref (B (129 + 2 * s.2.1)), .int (c - Int32.ofInt 97)] w rv w1 := hx
      obtain ⟨rfl, a1⟩ := v_one (o := fun x _ => ltW (c - Int32.ofInt 97).toInt.toNat x) hx h h32 (by decide) (by decide) (fun a ha hb => by
        exact (s_X1_fillWith _ _ _ _ _ _ hx).2 (a, c - Int32.ofInt 97) (by rw [ha]) ⟨hb, (show 0 ≤ (c - Int32.ofInt 97).toInt by omega), (show (c - Int32.ofInt 97).toInt < 8 by omega)⟩) (s.2.1 + 1) (Or.inr ⟨rfl, rfl, fun _ _ _ => rfl⟩)
      refine ⟨rfl, ?_⟩
      have ew : (fun x => ltW (c - Int32.ofInt 97).toInt.toNat x) = opdW c := by
        funext x
        unfold opdW
        rw [if_neg h1, if_neg h2, ek]
      show rX B (s.1, s.2.1 + 1, updW s.2.2 s.2.1 (opdW c)) s.1.1 (s.2.1 + 1) w1
      rw [← ew]
      exact a1
    · have h1 : ¬ c.toInt = (Int32.ofInt 49).toInt := h1
      rw [e49] at h1
      have h2 : ¬ ¬ c.toInt = (Int32.ofInt 48).toInt := h2
      rw [e48] at h2
      intro rv w1 hx
      have hx : fLr r_X1_clear [.ref (B (129 + 2 * s.2.1))] w rv w1 := hx
      obtain ⟨rfl, a1⟩ := v_one (o := fun _ _ => 0) hx h h32 (by decide) (by decide) (fun a ha hb => (s_X1_clear _ _ _ _ _ _ hx).2 a (by rw [ha]) hb) (s.2.1 + 1) (Or.inr ⟨rfl, rfl, fun _ _ _ => rfl⟩)
      refine ⟨rfl, ?_⟩
      have ew : (fun _ => (0 : Int64)) = opdW c := by
        funext x
        unfold opdW
        rw [if_neg h1, if_pos (Classical.not_not.mp h2)]
      show rX B (s.1, s.2.1 + 1, updW s.2.2 s.2.1 (opdW c)) s.1.1 (s.2.1 + 1) w1
      rw [← ew]
      exact a1
    · have h1 : ¬ ¬ c.toInt = (Int32.ofInt 49).toInt := h1
      rw [e49] at h1
      intro rv w1 hx
      have hx : fLr r_X1_fillUp [.ref (B (129 + 2 * s.2.1))] w rv w1 := hx
      obtain ⟨rfl, a1⟩ := v_one (o := fun _ _ => m1_) hx h h32 (by decide) (by decide) (fun a ha hb => (s_X1_fillUp _ _ _ _ _ _ hx).2 a (by rw [ha]) hb) (s.2.1 + 1) (Or.inr ⟨rfl, rfl, fun _ _ _ => rfl⟩)
      refine ⟨rfl, ?_⟩
      have ew : (fun _ => m1_) = opdW c := by
        funext x
        unfold opdW
        rw [if_pos (Classical.not_not.mp h1)]
      show rX B (s.1, s.2.1 + 1, updW s.2.2 s.2.1 (opdW c)) s.1.1 (s.2.1 + 1) w1
      rw [← ew]
      exact a1
  · obtain ⟨B, s, c⟩ := a
    obtain ⟨h, h32, hok⟩ := hp
    have h : rX B s s.1.1 s.2.1 w0 := h
    have h32 : s.2.1 < 32 := h32
    obtain ⟨x, g1, ex⟩ := h.g35
    have e32 : (Int32.ofNat 32).toInt = 32 := by decide
    refine ⟨fun hc => ?_, fun hc => ?_⟩
    · intro q e0 hq
      have hq : w0.1[q]? = some (B 126, e0) := hq
      refine ⟨⟨rfl, ?_, trivial⟩, rfl, h.p35 hq (x := x + 1) (show Value.int (iv (eG fl_X7 35 (hof w0.1 (B 126))) + 1) = .int (x + 1) by rw [g1]; rfl) (i_p1 ex (by omega))⟩
      show some (false, eR (hof w0.1 (rv_ (eG fl_X7 19 (hof w0.1 (B 126))))) (iv (eG fl_X7 35 (hof w0.1 (B 126)))).toNatClampNeg) = some (false, .ref (B (129 + 2 * s.2.1)))
      rw [g1, h.g19]
      show some (false, eR (hof w0.1 (B 128)) x.toInt.toNat) = _
      rw [nat_i ex, h.vl h32]
    · have hc : ¬ (iv (eG fl_X7 35 (hof w0.1 (B 126)))).toInt < (Int32.ofNat (eL (hof w0.1 (rv_ (eG fl_X7 19 (hof w0.1 (B 126))))))).toInt := hc
      rw [g1, h.g19] at hc
      obtain ⟨cA, g, hg, -⟩ := h.2.2.2.2.2
      have hc : ¬ x.toInt < (Int32.ofNat (eL (hof w0.1 (B 128)))).toInt := hc
      rw [hg] at hc
      have hc : ¬ x.toInt < (Int32.ofNat 32).toInt := hc
      rw [e32] at hc
      omega
end
section
/-! texts: signs worked off -/
theorem tdS_no {s : pS} (h : s.1.1 = 0 ∨ ¬ (s.1.2 (s.1.1 - 1)).toInt = 45) : tdS s = s := by
  obtain ⟨⟨k, m⟩, vc, v⟩ := s
  cases k with
  | zero => rfl
  | succ k =>
    have h : ¬ (m k).toInt = 45 := h.resolve_left (Nat.succ_ne_zero k)
    show (((tdA (k + 1) m v vc).1, m), vc, (tdA (k + 1) m v vc).2) = _
    unfold tdA
    rw [if_neg h]
theorem tdS_yes {s : pS} (h0 : 0 < s.1.1) (h : (s.1.2 (s.1.1 - 1)).toInt = 45) : tdS s = tdS ((s.1.1 - 1, s.1.2), s.2.1, updW s.2.2 (s.2.1 - 1) (fun x => o_turn (s.2.2 (s.2.1 - 1) x))) := by
  obtain ⟨⟨k, m⟩, vc, v⟩ := s
  cases k with
  | zero => exact absurd h0 (Nat.lt_irrefl _)
  | succ k =>
    have h : (m k).toInt = 45 := h
    show (((tdA (k + 1) m v vc).1, m), vc, (tdA (k + 1) m v vc).2) = (((tdA k m (updW v (vc - 1) (fun x => o_turn (v (vc - 1) x))) vc).1, m), vc, (tdA k m (updW v (vc - 1) (fun x => o_turn (v (vc - 1) x))) vc).2)
    rw [show tdA (k + 1) m v vc = tdA k m (updW v (vc - 1) (fun x => o_turn (v (vc - 1) x))) vc by
      show (if (m k).toInt = 45 then _ else _) = _
      rw [if_pos h]]
theorem bdS_no {L : Int} {s : pS} (h : s.1.1 = 0 ∨ ¬ L ≤ (rkc (s.1.2 (s.1.1 - 1))).toInt) : bdS L s = s := by
  obtain ⟨⟨k, m⟩, vc, v⟩ := s
  cases k with
  | zero => rfl
  | succ k =>
    have h : ¬ L ≤ (rkc (m k)).toInt := h.resolve_left (Nat.succ_ne_zero k)
    show (((bdA L (k + 1) m v vc).1, m), (bdA L (k + 1) m v vc).2.1, (bdA L (k + 1) m v vc).2.2) = _
    unfold bdA
    rw [if_neg h]
theorem bdS_yes {L : Int} {s : pS} (h0 : 0 < s.1.1) (h : L ≤ (rkc (s.1.2 (s.1.1 - 1))).toInt) : bdS L s = bdS L ((s.1.1 - 1, s.1.2), s.2.1 - 1, rdZ (s.1.2 (s.1.1 - 1)) s.2.2 s.2.1) := by
  obtain ⟨⟨k, m⟩, vc, v⟩ := s
  cases k with
  | zero => exact absurd h0 (Nat.lt_irrefl _)
  | succ k =>
    have h : L ≤ (rkc (m k)).toInt := h
    have e : bdA L (k + 1) m v vc = bdA L k m (rdZ (m k) v vc) (vc - 1) := by
      show (if L ≤ (rkc (m k)).toInt then _ else _) = _
      rw [if_pos h]
    show (((bdA L (k + 1) m v vc).1, m), (bdA L (k + 1) m v vc).2.1, (bdA L (k + 1) m v vc).2.2) = (((bdA L k m (rdZ (m k) v vc) (vc - 1)).1, m), (bdA L k m (rdZ (m k) v vc) (vc - 1)).2.1, (bdA L k m (rdZ (m k) v vc) (vc - 1)).2.2)
    rw [e]
theorem bdK_yes {L : Int} {s : pS} (hk : bdK L s.1.1 s.1.2 s.2.1) (h0 : 0 < s.1.1) (h : L ≤ (rkc (s.1.2 (s.1.1 - 1))).toInt) : 2 ≤ s.2.1 ∧ bdK L (s.1.1 - 1) s.1.2 (s.2.1 - 1) := by
  obtain ⟨⟨k, m⟩, vc, v⟩ := s
  cases k with
  | zero => exact absurd h0 (Nat.lt_irrefl _)
  | succ k => exact hk h
/-- minus signs -/
abbrev taA : Type := (Nat → Nat) × pS
def ta_F : taA → List Value := fun (B, _) => [.ref (B 126)]
def in_t0 (B : Nat → Nat) (T : pS) : fL_ → List Value → lW → Prop := fun lg vs w => ∃ s : pS, f_sub [(0, false, .ref (B 126))] lg ∧ vs = [] ∧ rS B s w ∧ tdS s = T ∧ 0 < s.2.1 ∧ s.2.1 ≤ 32
def in_t33 (B : Nat → Nat) (T : pS) : fL_ → List Value → lW → Prop := fun lg vs w => ∃ s : pS, f_sub [(0, false, .ref (B 126))] lg ∧ vs = [] ∧ rX B s (s.1.1 - 1) s.2.1 w ∧ tdS s = T ∧ (0 < s.2.1 ∧ s.2.1 ≤ 32) ∧ 0 < s.1.1 ∧ (s.1.2 (s.1.1 - 1)).toInt = 45
def Sp_ta : fP lW := [(213, 1, fLr r_X1_turn)]
theorem Sp_ta_ok : f_sp T_X7_turnAsMarked Sp_ta wW := List.forall_mem_cons.mpr ⟨sp_w rfl (fun _ _ _ _ _ _ h => h.2.2.1), fun _ h => absurd h List.not_mem_nil⟩
set_option maxHeartbeats 4000000 in
theorem s_X7_turnAsMarked : ∀ (a : taA) (w w' : lW) (rv : Option Value), fLr r_X7_turnAsMarked (ta_F a) w rv w' → (rS a.1 a.2 w ∧ 0 < a.2.2.1 ∧ a.2.2.1 ≤ 32) → rv = none ∧ rS a.1 (tdS a.2) w' := by
  refine do_ofW ta_F (fun a w => rS a.1 a.2 w ∧ 0 < a.2.2.1 ∧ a.2.2.1 ≤ 32) (fun a _ rv w' => rv = none ∧ rS a.1 (tdS a.2) w') Sp_ta (fun a _ => [(0, in_t0 a.1 (tdS a.2)), (33, in_t33 a.1 (tdS a.2))]) 40 fo_X7 Sp_ta_ok k_X7_turnAsMarked (fun a w0 hp => ?_) (fun a w0 hp hd0 => ?_)
  · obtain ⟨B, s0⟩ := a
    have e45 : (Int32.ofInt 45).toInt = 45 := by decide
    refine List.forall_mem_cons.mpr ⟨?_, List.forall_mem_cons.mpr ⟨?_, fun _ h => absurd h List.not_mem_nil⟩⟩
    · rintro lg vs w ⟨s, hs, rfl, h, eT, hv⟩
      have h : rX B s s.1.1 s.2.1 w := h
      have eT : tdS s = tdS s0 := eT
      obtain ⟨x, g1, ex⟩ := h.g31
      refine ⟨_, 40, hs, fun hc => ?_, fun hc => ⟨fun hd => ?_, fun hd => ?_⟩⟩
      · have hc : (iv (eG fl_X7 31 (hof w.1 (B 126)))).toInt ≤ 0 := hc
        rw [g1] at hc
        have hc : x.toInt ≤ 0 := hc
        refine ⟨rfl, ?_⟩
        show rS B (tdS s0) w
        rw [← eT, tdS_no (Or.inl (by omega))]
        exact h
      all_goals
        have hc : ¬ (iv (eG fl_X7 31 (hof w.1 (B 126)))).toInt ≤ 0 := hc
        rw [g1] at hc
        have hc : ¬ x.toInt ≤ 0 := hc
        obtain ⟨k, ek⟩ : ∃ k, s.1.1 = k + 1 := ⟨s.1.1 - 1, by omega⟩
        have em : (x - 1).toInt = (k : Int) := i_m1 (by rw [ex, ek])
        have er : eI (hof w.1 (rv_ (eG fl_X7 9 (hof w.1 (B 126))))) (iv (eG fl_X7 31 (hof w.1 (B 126))) - 1).toNatClampNeg = s.1.2 (s.1.1 - 1) := by
          rw [g1, h.g9]
          show eI (hof w.1 (B 127)) (x - 1).toInt.toNat = _
          rw [nat_i em, h.mk (by omega), ek]
          rfl
      · have hd : ¬ (eI (hof w.1 (rv_ (eG fl_X7 9 (hof w.1 (B 126))))) (iv (eG fl_X7 31 (hof w.1 (B 126))) - 1).toNatClampNeg).toInt = (Int32.ofInt 45).toInt := hd
        rw [er, e45] at hd
        refine ⟨rfl, ?_⟩
        show rS B (tdS s0) w
        rw [← eT, tdS_no (Or.inr hd)]
        exact h
      · have hd : ¬ ¬ (eI (hof w.1 (rv_ (eG fl_X7 9 (hof w.1 (B 126))))) (iv (eG fl_X7 31 (hof w.1 (B 126))) - 1).toNatClampNeg).toInt = (Int32.ofInt 45).toInt := hd
        rw [er, e45] at hd
        intro q e0 hq
        have hq : w.1[q]? = some (B 126, e0) := hq
        refine ⟨s, ⟨rfl, trivial⟩, rfl, ?_, eT, hv, (show 0 < s.1.1 by omega), Classical.not_not.mp hd⟩
        exact h.p31 hq (x := x - 1) (show Value.int (iv (eG fl_X7 31 (hof w.1 (B 126))) - 1) = .int (x - 1) by rw [g1]; rfl) (by rw [em, ek]; rfl)
    · rintro lg vs w ⟨s, hs, rfl, h, eT, hv, h0, ht⟩
      have h : rX B s (s.1.1 - 1) s.2.1 w := h
      have eT : tdS s = tdS s0 := eT
      obtain ⟨x, g1, ex⟩ := h.g35
      obtain ⟨k, ek⟩ : ∃ k, s.2.1 = k + 1 := ⟨s.2.1 - 1, by omega⟩
      have em : (x - 1).toInt = (k : Int) := i_m1 (by rw [ex, ek])
      refine ⟨_, 40, hs, fun hc => ?_, fun hc => ?_⟩
      · have hc : (iv (eG fl_X7 35 (hof w.1 (B 126)))).toInt ≤ 0 := hc
        rw [g1] at hc
        have hc : x.toInt ≤ 0 := hc
        omega
      · intro rv w1 hx
        have hx : fLr r_X1_turn [eR (hof w.1 (rv_ (eG fl_X7 19 (hof w.1 (B 126))))) (iv (eG fl_X7 35 (hof w.1 (B 126))) - 1).toNatClampNeg] w rv w1 := hx
        have er : eR (hof w.1 (rv_ (eG fl_X7 19 (hof w.1 (B 126))))) (iv (eG fl_X7 35 (hof w.1 (B 126))) - 1).toNatClampNeg = .ref (B (129 + 2 * k)) := by
          rw [g1, h.g19]
          show eR (hof w.1 (B 128)) (x - 1).toInt.toNat = _
          rw [nat_i em, h.vl (by omega)]
        rw [er] at hx
        obtain ⟨rfl, a1⟩ := v_one (o := fun _ u => o_turn u) hx h (show k < 32 by omega) (by decide) (by decide) (fun a ha hb => (s_X1_turn _ _ _ _ _ _ hx).2 a (by rw [ha]) hb) s.2.1 (Or.inl (Nat.le_refl _))
        refine ⟨((s.1.1 - 1, s.1.2), s.2.1, updW s.2.2 (s.2.1 - 1) (fun x => o_turn (s.2.2 (s.2.1 - 1) x))), ⟨rfl, trivial⟩, rfl, ?_, ?_, hv⟩
        · rw [ek, Nat.add_sub_cancel]
          rw [ek] at a1
          exact a1.cut (by show s.1.1 - 1 ≤ s.1.1; omega) rfl (Nat.le_refl _) rfl
        · rw [← eT]
          exact (tdS_yes h0 ht).symm
  · obtain ⟨B, s0⟩ := a
    exact ⟨s0, ⟨rfl, trivial⟩, rfl, hp.1, rfl, hp.2⟩
/-- two values by a sign -/
def in_ap (B : Nat → Nat) (s : pS) (c : Int32) : fL_ → List Value → lW → Prop := fun lg vs w => f_sub [(0, false, .ref (B 126)), (1, false, .int c)] lg ∧ vs = [] ∧ rX B s s.1.1 (s.2.1 - 1) w
def Sp_ap : fP lW := [(231, 2, fLr r_X1_meet), (243, 2, fLr r_X1_join), (252, 2, fLr r_X1_imply)]
theorem Sp_ap_ok : f_sp T_X7_apply Sp_ap wW := List.forall_mem_cons.mpr ⟨sp_w rfl (fun _ _ _ _ _ _ h => h.2.2.1), List.forall_mem_cons.mpr ⟨sp_w rfl (fun _ _ _ _ _ _ h => h.2.2.1), List.forall_mem_cons.mpr ⟨sp_w rfl (fun _ _ _ _ _ _ h => h.2.2.1), fun _ h => absurd h List.not_mem_nil⟩⟩⟩
def rdS (c : Int32) (s : pS) : pS := (s.1, s.2.1 - 1, rdZ c s.2.2 s.2.1)
set_option maxHeartbeats 4000000 in
theorem s_X7_apply : ∀ (a : maA) (w w' : lW) (rv : Option Value), fLr r_X7_apply (ma_F a) w rv w' → (rS a.1 a.2.1 w ∧ 2 ≤ a.2.1.2.1 ∧ a.2.1.2.1 ≤ 32) → rv = none ∧ rS a.1 (rdS a.2.2 a.2.1) w' := by
  refine do_ofW ma_F (fun a w => rS a.1 a.2.1 w ∧ 2 ≤ a.2.1.2.1 ∧ a.2.1.2.1 ≤ 32) (fun a _ rv w' => rv = none ∧ rS a.1 (rdS a.2.2 a.2.1) w') Sp_ap (fun a _ => [(19, in_ap a.1 a.2.1 a.2.2)]) 40 fo_X7 Sp_ap_ok k_X7_apply (fun a w0 hp => ?_) (fun a w0 hp hd0 => ?_)
  · refine List.forall_mem_cons.mpr ⟨?_, fun _ h => absurd h List.not_mem_nil⟩
    obtain ⟨B, s, c⟩ := a
    obtain ⟨-, h2, h32⟩ := hp
    have h2 : 2 ≤ s.2.1 := h2
    have h32 : s.2.1 ≤ 32 := h32
    rintro lg vs w ⟨hs, rfl, h⟩
    have h : rX B s s.1.1 (s.2.1 - 1) w := h
    have e38 : (Int32.ofInt 38).toInt = 38 := by decide
    have e124 : (Int32.ofInt 124).toInt = 124 := by decide
    obtain ⟨k, ek⟩ : ∃ k, s.2.1 = k + 2 := ⟨s.2.1 - 2, by omega⟩
    obtain ⟨x, g1, ex⟩ := h.g35
    have ex : x.toInt = ((k + 1 : Nat) : Int) := by rw [ex, ek]; rfl
    have em : (x - 1).toInt = (k : Int) := i_m1 ex
    have eL : eR (hof w.1 (rv_ (eG fl_X7 19 (hof w.1 (B 126))))) (iv (eG fl_X7 35 (hof w.1 (B 126))) - 1).toNatClampNeg = .ref (B (129 + 2 * k)) := by
      rw [g1, h.g19]
      show eR (hof w.1 (B 128)) (x - 1).toInt.toNat = _
      rw [nat_i em, h.vl (by omega)]
    have eRr : eR (hof w.1 (rv_ (eG fl_X7 19 (hof w.1 (B 126))))) (iv (eG fl_X7 35 (hof w.1 (B 126)))).toNatClampNeg = .ref (B (129 + 2 * (k + 1))) := by
      rw [g1, h.g19]
      show eR (hof w.1 (B 128)) x.toInt.toNat = _
      rw [nat_i ex, h.vl (by omega)]
    have fin : ∀ {o : Int64 → Int64 → Int64} {w1 : lW}, (∀ u v, o u v = rdV c u v) → rX B (s.1, s.2.1, updW s.2.2 k (fun x => o (s.2.2 k x) (s.2.2 (k + 1) x))) s.1.1 (s.2.1 - 1) w1 → rS B (rdS c s) w1 := by
      intro o w1 ho a1
      have ef : rdZ c s.2.2 s.2.1 = updW s.2.2 k (fun x => o (s.2.2 k x) (s.2.2 (k + 1) x)) := by
        unfold rdZ
        rw [ek]
        show updW s.2.2 k (fun x => rdV c (s.2.2 k x) (s.2.2 (k + 1) x)) = _
        congr 1
        funext x
        rw [ho]
      show rX B (s.1, s.2.1 - 1, rdZ c s.2.2 s.2.1) s.1.1 (s.2.1 - 1) w1
      rw [ef]
      exact a1.cut (Nat.le_refl _) rfl (by show s.2.1 - 1 ≤ s.2.1; omega) rfl
    refine ⟨_, 60, hs, fun h1 => ⟨fun h3 => ?_, fun h3 => ?_⟩, fun h1 => ?_⟩
    · have h1 : ¬ c.toInt = (Int32.ofInt 38).toInt := h1
      rw [e38] at h1
      have h3 : ¬ c.toInt = (Int32.ofInt 124).toInt := h3
      rw [e124] at h3
      intro rv w1 hx
      have hx : fLr r_X1_imply [eR (hof w.1 (rv_ (eG fl_X7 19 (hof w.1 (B 126))))) (iv (eG fl_X7 35 (hof w.1 (B 126))) - 1).toNatClampNeg, eR (hof w.1 (rv_ (eG fl_X7 19 (hof w.1 (B 126))))) (iv (eG fl_X7 35 (hof w.1 (B 126)))).toNatClampNeg] w rv w1 := hx
      rw [eL, eRr] at hx
      obtain ⟨rfl, a1⟩ := v_two hx s_X1_imply h (show k < 32 by omega) (show k + 1 < 32 by omega) (by omega) (by omega) (by omega) (by decide) (by decide)
      exact ⟨rfl, fin (fun u v => by unfold rdV; rw [if_neg h1, if_neg h3]) a1⟩
    · have h1 : ¬ c.toInt = (Int32.ofInt 38).toInt := h1
      rw [e38] at h1
      have h3 : ¬ ¬ c.toInt = (Int32.ofInt 124).toInt := h3
      rw [e124] at h3
      intro rv w1 hx
      have hx : fLr r_X1_join [eR (hof w.1 (rv_ (eG fl_X7 19 (hof w.1 (B 126))))) (iv (eG fl_X7 35 (hof w.1 (B 126))) - 1).toNatClampNeg, eR (hof w.1 (rv_ (eG fl_X7 19 (hof w.1 (B 126))))) (iv (eG fl_X7 35 (hof w.1 (B 126)))).toNatClampNeg] w rv w1 := hx
      rw [eL, eRr] at hx
      obtain ⟨rfl, a1⟩ := v_two hx s_X1_join h (show k < 32 by omega) (show k + 1 < 32 by omega) (by omega) (by omega) (by omega) (by decide) (by decide)
      exact ⟨rfl, fin (fun u v => by unfold rdV; rw [if_neg h1, if_pos (Classical.not_not.mp h3)]) a1⟩
    · have h1 : ¬ ¬ c.toInt = (Int32.ofInt 38).toInt := h1
      rw [e38] at h1
      intro rv w1 hx
      have hx : fLr r_X1_meet [eR (hof w.1 (rv_ (eG fl_X7 19 (hof w.1 (B 126))))) (iv (eG fl_X7 35 (hof w.1 (B 126))) - 1).toNatClampNeg, eR (hof w.1 (rv_ (eG fl_X7 19 (hof w.1 (B 126))))) (iv (eG fl_X7 35 (hof w.1 (B 126)))).toNatClampNeg] w rv w1 := hx
      rw [eL, eRr] at hx
      obtain ⟨rfl, a1⟩ := v_two hx s_X1_meet h (show k < 32 by omega) (show k + 1 < 32 by omega) (by omega) (by omega) (by omega) (by decide) (by decide)
      exact ⟨rfl, fin (fun u v => by unfold rdV; rw [if_pos (Classical.not_not.mp h1)]) a1⟩
  · obtain ⟨B, s, c⟩ := a
    obtain ⟨h, h2, h32⟩ := hp
    have h : rX B s s.1.1 s.2.1 w0 := h
    have h2 : 2 ≤ s.2.1 := h2
    obtain ⟨x, g1, ex⟩ := h.g35
    have e2 : (Int32.ofInt 2).toInt = 2 := by decide
    refine ⟨fun hc => ?_, fun hc => ?_⟩
    · intro q e0 hq
      have hq : w0.1[q]? = some (B 126, e0) := hq
      obtain ⟨k, ek⟩ : ∃ k, s.2.1 = k + 1 := ⟨s.2.1 - 1, by omega⟩
      have em : (x - 1).toInt = ((s.2.1 - 1 : Nat) : Int) := by
        rw [ek, Nat.add_sub_cancel]
        exact i_m1 (by rw [ex, ek])
      exact ⟨⟨rfl, rfl, trivial⟩, rfl, h.p35 hq (x := x - 1) (show Value.int (iv (eG fl_X7 35 (hof w0.1 (B 126))) - 1) = .int (x - 1) by rw [g1]; rfl) em⟩
    · have hc : ¬ (Int32.ofInt 2).toInt ≤ (iv (eG fl_X7 35 (hof w0.1 (B 126)))).toInt := hc
      rw [g1, e2] at hc
      have hc : ¬ 2 ≤ x.toInt := hc
      omega
/-- signs bound -/
abbrev biA : Type := (Nat → Nat) × pS × Int32
def bi_F : biA → List Value := fun (B, _, l) => [.ref (B 126), .int l]
def in_b0 (B : Nat → Nat) (T : pS) (l : Int32) : fL_ → List Value → lW → Prop := fun lg vs w => ∃ s : pS, f_sub [(0, false, .ref (B 126)), (1, false, .int l)] lg ∧ vs = [] ∧ rS B s w ∧ bdS l.toInt s = T ∧ s.2.1 ≤ 32 ∧ bdK l.toInt s.1.1 s.1.2 s.2.1
def in_b35 (B : Nat → Nat) (T : pS) (l : Int32) : fL_ → List Value → lW → Prop := fun lg vs w => ∃ s : pS, f_sub [(0, false, .ref (B 126)), (1, false, .int l)] lg ∧ vs = [] ∧ rX B s (s.1.1 - 1) s.2.1 w ∧ bdS l.toInt s = T ∧ s.2.1 ≤ 32 ∧ bdK l.toInt s.1.1 s.1.2 s.2.1 ∧ 0 < s.1.1 ∧ l.toInt ≤ (rkc (s.1.2 (s.1.1 - 1))).toInt
def Sp_bi : fP lW := [(82, 1, fLr r_X7_rank), (222, 2, fLr r_X7_apply)]
theorem Sp_bi_ok : f_sp T_X7_bind Sp_bi wW := List.forall_mem_cons.mpr ⟨sp_w rfl (fun _ _ _ _ _ _ h => h.2.2.1), List.forall_mem_cons.mpr ⟨sp_w rfl (fun _ _ _ _ _ _ h => h.2.2.1), fun _ h => absurd h List.not_mem_nil⟩⟩
set_option maxHeartbeats 4000000 in
theorem s_X7_bind : ∀ (a : biA) (w w' : lW) (rv : Option Value), fLr r_X7_bind (bi_F a) w rv w' → (rS a.1 a.2.1 w ∧ a.2.1.2.1 ≤ 32 ∧ bdK a.2.2.toInt a.2.1.1.1 a.2.1.1.2 a.2.1.2.1) → rv = none ∧ rS a.1 (bdS a.2.2.toInt a.2.1) w' := by
  refine do_ofW bi_F (fun a w => rS a.1 a.2.1 w ∧ a.2.1.2.1 ≤ 32 ∧ bdK a.2.2.toInt a.2.1.1.1 a.2.1.1.2 a.2.1.2.1) (fun a _ rv w' => rv = none ∧ rS a.1 (bdS a.2.2.toInt a.2.1) w') Sp_bi (fun a _ => [(0, in_b0 a.1 (bdS a.2.2.toInt a.2.1) a.2.2), (35, in_b35 a.1 (bdS a.2.2.toInt a.2.1) a.2.2)]) 40 fo_X7 Sp_bi_ok k_X7_bind (fun a w0 hp => ?_) (fun a w0 hp hd0 => ?_)
  · obtain ⟨B, s0, l⟩ := a
    refine List.forall_mem_cons.mpr ⟨?_, List.forall_mem_cons.mpr ⟨?_, fun _ h => absurd h List.not_mem_nil⟩⟩
    · rintro lg vs w ⟨s, hs, rfl, h, eT, h32, hK⟩
      have h : rX B s s.1.1 s.2.1 w := h
      have eT : bdS l.toInt s = bdS l.toInt s0 := eT
      obtain ⟨x, g1, ex⟩ := h.g31
      refine ⟨_, 40, hs, fun hc => ?_, fun hc => ?_⟩
      · have hc : (iv (eG fl_X7 31 (hof w.1 (B 126)))).toInt ≤ 0 := hc
        rw [g1] at hc
        have hc : x.toInt ≤ 0 := hc
        refine ⟨rfl, ?_⟩
        show rS B (bdS l.toInt s0) w
        rw [← eT, bdS_no (Or.inl (by omega))]
        exact h
      have hc : ¬ (iv (eG fl_X7 31 (hof w.1 (B 126)))).toInt ≤ 0 := hc
      rw [g1] at hc
      have hc : ¬ x.toInt ≤ 0 := hc
      obtain ⟨k, ek⟩ : ∃ k, s.1.1 = k + 1 := ⟨s.1.1 - 1, by omega⟩
      have em : (x - 1).toInt = (k : Int) := i_m1 (by rw [ex, ek])
      have er : eI (hof w.1 (rv_ (eG fl_X7 9 (hof w.1 (B 126))))) (iv (eG fl_X7 31 (hof w.1 (B 126))) - 1).toNatClampNeg = s.1.2 (s.1.1 - 1) := by
        rw [g1, h.g9]
        show eI (hof w.1 (B 127)) (x - 1).toInt.toNat = _
        rw [nat_i em, h.mk (by omega), ek]
        rfl
      intro rv w1 hx
      have hx : fLr r_X7_rank [.int (eI (hof w.1 (rv_ (eG fl_X7 9 (hof w.1 (B 126))))) (iv (eG fl_X7 31 (hof w.1 (B 126))) - 1).toNatClampNeg)] w rv w1 := hx
      rw [er] at hx
      have h1 := h.keep hx (by decide) (by decide) (by decide)
      obtain ⟨-, rfl⟩ := (s_X7_rank _ _ _ _ _ _ hx).2 _ rfl trivial
      obtain ⟨x1, g2, ex1⟩ := h1.g31
      refine ⟨fun hd => ?_, fun hd => ?_⟩
      · have hd : (rkc (s.1.2 (s.1.1 - 1))).toInt < l.toInt := hd
        refine ⟨rfl, ?_⟩
        show rS B (bdS l.toInt s0) w1
        rw [← eT, bdS_no (Or.inr (by omega))]
        exact h1
      · have hd : ¬ (rkc (s.1.2 (s.1.1 - 1))).toInt < l.toInt := hd
        intro q e0 hq
        have hq : w1.1[q]? = some (B 126, e0) := hq
        refine ⟨s, ⟨rfl, rfl, trivial⟩, rfl, ?_, eT, h32, hK, (show 0 < s.1.1 by omega), (show l.toInt ≤ (rkc (s.1.2 (s.1.1 - 1))).toInt by omega)⟩
        have em1 : (x1 - 1).toInt = ((s.1.1 - 1 : Nat) : Int) := by
          rw [ek, Nat.add_sub_cancel]
          exact i_m1 (by rw [ex1, ek])
        exact h1.p31 hq (x := x1 - 1) (show Value.int (iv (eG fl_X7 31 (hof w1.1 (B 126))) - 1) = .int (x1 - 1) by rw [g2]; rfl) em1
    · rintro lg vs w ⟨s, hs, rfl, h, eT, h32, hK, h0, hr⟩
      have h : rX B s (s.1.1 - 1) s.2.1 w := h
      have eT : bdS l.toInt s = bdS l.toInt s0 := eT
      obtain ⟨k2, hK2⟩ := bdK_yes hK h0 hr
      obtain ⟨x, g1, ex⟩ := h.g35
      obtain ⟨y, g2, ey⟩ := h.g31
      have e1 : (Int32.ofInt 1).toInt = 1 := by decide
      refine ⟨_, 40, hs, fun hc => ?_, fun hc => ?_⟩
      · have hc : (iv (eG fl_X7 35 (hof w.1 (B 126)))).toInt ≤ (Int32.ofInt 1).toInt := hc
        rw [g1, e1] at hc
        have hc : x.toInt ≤ 1 := hc
        omega
      · intro rv w1 hx
        have hx : fLr r_X7_apply [.ref (B 126), .int (eI (hof w.1 (rv_ (eG fl_X7 9 (hof w.1 (B 126))))) (iv (eG fl_X7 31 (hof w.1 (B 126)))).toNatClampNeg)] w rv w1 := hx
        have er : eI (hof w.1 (rv_ (eG fl_X7 9 (hof w.1 (B 126))))) (iv (eG fl_X7 31 (hof w.1 (B 126)))).toNatClampNeg = s.1.2 (s.1.1 - 1) := by
          rw [g2, h.g9]
          show eI (hof w.1 (B 127)) y.toInt.toNat = _
          rw [nat_i ey, h.mk (by omega)]
        rw [er] at hx
        have h2 : rS B ((s.1.1 - 1, s.1.2), s.2) w := h.cut (by show s.1.1 - 1 ≤ s.1.1; omega) rfl (Nat.le_refl _) rfl
        obtain ⟨rfl, a1⟩ := s_X7_apply (B, ((s.1.1 - 1, s.1.2), s.2), s.1.2 (s.1.1 - 1)) w w1 rv hx ⟨h2, k2, h32⟩
        refine ⟨((s.1.1 - 1, s.1.2), s.2.1 - 1, rdZ (s.1.2 (s.1.1 - 1)) s.2.2 s.2.1), ⟨rfl, rfl, trivial⟩, rfl, a1, ?_, (show s.2.1 - 1 ≤ 32 by omega), hK2⟩
        rw [← eT]
        exact (bdS_yes h0 hr).symm
  · obtain ⟨B, s0, l⟩ := a
    exact ⟨s0, ⟨rfl, rfl, trivial⟩, rfl, hp.1, rfl, hp.2⟩
/-- a bracket closed -/
def Sp_cb : fP lW := [(132, 2, fLr r_X7_bind)]
theorem Sp_cb_ok : f_sp T_X7_closeBracket Sp_cb wW := List.forall_mem_cons.mpr ⟨sp_w rfl (fun _ _ _ _ _ _ h => h.2.2.1), fun _ h => absurd h List.not_mem_nil⟩
set_option maxHeartbeats 4000000 in
theorem s_X7_closeBracket : ∀ (a : taA) (w w' : lW) (rv : Option Value), fLr r_X7_closeBracket (ta_F a) w rv w' → (rS a.1 a.2 w ∧ a.2.2.1 ≤ 32 ∧ bdK 1 a.2.1.1 a.2.1.2 a.2.2.1 ∧ 0 < (bdS 1 a.2).1.1) → rv = none ∧ rS a.1 (popS (bdS 1 a.2)) w' := by
  refine do_ofW ta_F (fun a w => rS a.1 a.2 w ∧ a.2.2.1 ≤ 32 ∧ bdK 1 a.2.1.1 a.2.1.2 a.2.2.1 ∧ 0 < (bdS 1 a.2).1.1) (fun a _ rv w' => rv = none ∧ rS a.1 (popS (bdS 1 a.2)) w') Sp_cb (fun _ _ => []) 40 fo_X7 Sp_cb_ok k_X7_closeBracket (fun _ _ _ => no_hd) (fun a w0 hp hd0 => ?_)
  obtain ⟨B, s⟩ := a
  obtain ⟨h, h32, hK, hpos⟩ := hp
  have e1 : (Int32.ofInt 1).toInt = 1 := by decide
  intro rv w1 hx
  have hx : fLr r_X7_bind [.ref (B 126), .int (Int32.ofInt 1)] w0 rv w1 := hx
  obtain ⟨rfl, a1⟩ := s_X7_bind (B, s, Int32.ofInt 1) w0 w1 rv hx ⟨h, h32, by rw [e1]; exact hK⟩
  have a1 : rS B (bdS (Int32.ofInt 1).toInt s) w1 := a1
  rw [e1] at a1
  have a1 : rX B (bdS 1 s) (bdS 1 s).1.1 (bdS 1 s).2.1 w1 := a1
  have hpos : 0 < (bdS 1 s).1.1 := hpos
  show _ ∧ _
  generalize bdS 1 s = T at a1 hpos
  obtain ⟨x, g1, ex⟩ := a1.g31
  refine ⟨fun hc => ?_, fun hc => ?_⟩
  · have hc : (iv (eG fl_X7 31 (hof w1.1 (B 126)))).toInt ≤ 0 := hc
    rw [g1] at hc
    have hc : x.toInt ≤ 0 := hc
    omega
  · intro q e0 hq
    have hq : w1.1[q]? = some (B 126, e0) := hq
    obtain ⟨k, ek⟩ : ∃ k, T.1.1 = k + 1 := ⟨T.1.1 - 1, by omega⟩
    have em : (x - 1).toInt = ((T.1.1 - 1 : Nat) : Int) := by
      rw [ek, Nat.add_sub_cancel]
      exact i_m1 (by rw [ex, ek])
    refine ⟨rfl, ?_⟩
    have y := a1.p31 hq (x := x - 1) (show Value.int (iv (eG fl_X7 31 (hof w1.1 (B 126))) - 1) = .int (x - 1) by rw [g1]; rfl) em
    exact y.cut (by show T.1.1 - 1 ≤ T.1.1; omega) rfl (Nat.le_refl _) rfl
end
section
/-! texts: valueOf -/
theorem st_case {b b' : Bool} {o o' : Nat} {c : Int32} (h : stA (b, o) c = some (b', o')) : (b = true ∧ ((c.toInt = 40 ∧ b' = true ∧ o' = o + 1) ∨ (c.toInt = 45 ∧ b' = true ∧ o' = o) ∨ (okc c ∧ b' = false ∧ o' = o))) ∨ (b = false ∧ ((0 < (rkc c).toInt ∧ b' = true ∧ o' = o) ∨ (c.toInt = 41 ∧ 0 < o ∧ b' = false ∧ o' = o - 1))) := by
  cases b with
  | true =>
    refine Or.inl ⟨rfl, ?_⟩
    unfold stA at h
    dsimp only at h
    by_cases h1 : c.toInt = 40
    · rw [if_pos h1] at h
      have h := Option.some.inj h
      exact Or.inl ⟨h1, (congrArg Prod.fst h).symm, (congrArg Prod.snd h).symm⟩
    · rw [if_neg h1] at h
      by_cases h2 : okc c
      · rw [if_pos h2] at h
        have h := Option.some.inj h
        exact Or.inr (Or.inr ⟨h2, (congrArg Prod.fst h).symm, (congrArg Prod.snd h).symm⟩)
      · rw [if_neg h2] at h
        by_cases h3 : c.toInt = 45
        · rw [if_pos h3] at h
          have h := Option.some.inj h
          exact Or.inr (Or.inl ⟨h3, (congrArg Prod.fst h).symm, (congrArg Prod.snd h).symm⟩)
        · rw [if_neg h3] at h
          cases h
  | false =>
    refine Or.inr ⟨rfl, ?_⟩
    unfold stA at h
    dsimp only at h
    by_cases h1 : c.toInt = 38 ∨ c.toInt = 124 ∨ c.toInt = 62
    · rw [if_pos h1] at h
      have h := Option.some.inj h
      exact Or.inl ⟨rk_b.mpr h1, (congrArg Prod.fst h).symm, (congrArg Prod.snd h).symm⟩
    · rw [if_neg h1] at h
      by_cases h2 : c.toInt = 41 ∧ 0 < o
      · rw [if_pos h2] at h
        have h := Option.some.inj h
        exact Or.inr ⟨h2.1, h2.2, (congrArg Prod.fst h).symm, (congrArg Prod.snd h).symm⟩
      · rw [if_neg h2] at h
        cases h
theorem acA_m1 {g : Nat → Int32} {m i : Nat} {s : Bool × Nat} (h : acA g (m + 1) i s = -1) : ∃ s', stA s (g i) = some s' ∧ acA g m (i + 1) s' = -1 := by
  unfold acA at h
  split at h
  · rename_i s' hs
    exact ⟨s', hs, h⟩
  · omega
theorem acA_e1 {g : Nat → Int32} {i : Nat} {b : Bool} {o : Nat} (h : acA g 0 i (b, o) = -1) : b = false ∧ o = 0 := by
  unfold acA at h
  split at h
  · omega
  · rename_i hn
    cases b with
    | true => exact absurd (Or.inl rfl) hn
    | false => exact ⟨rfl, Nat.eq_zero_of_not_pos (fun z => hn (Or.inr z))⟩
theorem rk_le {c : Int32} : (rkc c).toInt ≤ 3 := by
  unfold rkc
  split
  · decide
  · split
    · decide
    · split <;> decide
/-- the step of the machine, by cases -/
theorem chA_op {c : Int32} {s : pS} (h : 0 < (rkc c).toInt) : chA c s = psh c (bdS (if (rkc c).toInt ≤ 2 then 2 else 3) s) := if_pos h
theorem chA_ps {c : Int32} {s : pS} (h : c.toInt = 40 ∨ c.toInt = 45) : chA c s = psh c s := by
  unfold chA
  rw [if_neg (fun z => by have z := rk_b.mp z; omega), if_pos h]
theorem chA_cl {c : Int32} {s : pS} (h : c.toInt = 41) : chA c s = tdS (popS (bdS 1 s)) := by
  unfold chA
  rw [if_neg (fun z => by have z := rk_b.mp z; omega), if_neg (by omega), if_pos h]
theorem chA_vl {c : Int32} {s : pS} (h : okc c) : chA c s = tdS (valS c s) := by
  unfold chA
  unfold okc at h
  rw [if_neg (fun z => by have z := rk_b.mp z; omega), if_neg (by omega), if_neg (by omega)]
theorem lv_1 {c : Int32} : 1 ≤ (if (rkc c).toInt ≤ 2 then (2 : Int) else 3) := by split <;> decide
theorem ch_ok {b b' : Bool} {o o' i : Nat} {s : pS} {c : Int32} (h : okS b o i s) (hs : stA (b, o) c = some (b', o')) : okS b' o' (i + 1) (chA c s) := by
  rcases st_case hs with ⟨rfl, ⟨h1, rfl, rfl⟩ | ⟨h1, rfl, rfl⟩ | ⟨h1, rfl, rfl⟩⟩ | ⟨rfl, ⟨h1, rfl, rfl⟩ | ⟨h1, h2, rfl, rfl⟩⟩
  · rw [chA_ps (Or.inl h1)]
    have y := okS_psh h (Or.inl h1)
    rw [if_pos h1] at y
    exact y
  · rw [chA_ps (Or.inr h1)]
    have y := okS_psh h (Or.inr h1)
    rw [if_neg (by omega)] at y
    exact y
  · rw [chA_vl h1]
    exact okS_val h
  · rw [chA_op h1]
    exact okS_op lv_1 h h1
  · rw [chA_cl h1]
    exact okS_close h h2
def P_max : fPh := fun As h rv h' => ∀ a : Int32 × Int32, As = [.int a.1, .int a.2] → True → h' = h ∧ rv = some (.int (if a.2.toInt ≤ a.1.toInt then a.1 else a.2))
theorem s_J9_max : f_do r_J9_max_7cf53 P_max := by
  refine do_ofP (fun a : Int32 × Int32 => [.int a.1, .int a.2]) (fun _ _ => True) (fun a h rv h' => h' = h ∧ rv = some (.int (if a.2.toInt ≤ a.1.toInt then a.1 else a.2))) [] (fun _ _ => []) 40 fo_J9 no_sp k_J9_max_7cf53 (fun _ _ _ => no_hd) (fun a h0 _ => ?_)
  obtain ⟨x, y⟩ := a
  refine ⟨fun h => ?_, fun h => ?_⟩
  · have h : x.toInt < y.toInt := h
    refine ⟨rfl, ?_⟩
    show some (Value.int y) = some (.int (if y.toInt ≤ x.toInt then x else y))
    rw [if_neg (by omega)]
  · have h : ¬ x.toInt < y.toInt := h
    refine ⟨rfl, ?_⟩
    show some (Value.int x) = some (.int (if y.toInt ≤ x.toInt then x else y))
    rw [if_pos (by omega)]
abbrev voA : Type := (Nat → Nat) × Nat × Int32 × Int32 × (Nat → Int32)
def vo_F : voA → List Value := fun (B, k, fr, n, _) => [.ref (B 126), .ref (B (336 + k)), .int fr, .int n]
def vo_g (fr : Int32) (f : Nat → Int32) : Nat → Int32 := fun x => f (fr.toInt.toNat + x)
def vo_P : voA → lW → Prop := fun (B, k, fr, n, f) w => k < 4 ∧ (∃ km kv, rX B (runA (vo_g fr f) 0) km kv w) ∧ aI B (336 + k) 60 f w ∧ (0 ≤ fr.toInt ∧ 0 ≤ n.toInt ∧ fr.toInt + n.toInt ≤ 60) ∧ acA (vo_g fr f) n.toInt.toNat 0 (true, 0) = -1
def vo_Q : voA → lW → Option Value → lW → Prop := fun (B, _, fr, n, f) _ rv w' => rv = some (.ref (B 129)) ∧ ∃ V, vS B V w' ∧ ∀ x, x < 4 → V 0 x = txtW (vo_g fr f) n.toInt.toNat x
def in_v17 (B : Nat → Nat) (k : Nat) (fr n : Int32) (f : Nat → Int32) : fL_ → List Value → lW → Prop := fun lg vs w => ∃ (i : Nat) (b : Bool) (o : Nat) (pl : Int32), f_sub [(4, false, .int pl), (0, false, .ref (B 126)), (1, false, .ref (B (336 + k))), (2, false, .int fr), (3, false, .int n)] lg ∧ vs = [] ∧ rS B (runA (vo_g fr f) i) w ∧ aI B (336 + k) 60 f w ∧ pl.toInt = fr.toInt + (i : Int) ∧ i ≤ n.toInt.toNat ∧ okS b o i (runA (vo_g fr f) i) ∧ acA (vo_g fr f) (n.toInt.toNat - i) i (b, o) = -1
def in_v45 (B : Nat → Nat) (k : Nat) (fr n : Int32) (f : Nat → Int32) : fL_ → List Value → lW → Prop := fun lg vs w => ∃ (i : Nat) (b : Bool) (o : Nat) (b' : Bool) (o' : Nat) (pl : Int32), f_sub [(6, false, .int (rkc (vo_g fr f i))), (5, false, .int (vo_g fr f i)), (4, false, .int pl), (0, false, .ref (B 126)), (1, false, .ref (B (336 + k))), (2, false, .int fr), (3, false, .int n)] lg ∧ vs = [] ∧ rS B (runA (vo_g fr f) i) w ∧ aI B (336 + k) 60 f w ∧ pl.toInt = fr.toInt + (i : Int) ∧ i < n.toInt.toNat ∧ okS b o i (runA (vo_g fr f) i) ∧ stA (b, o) (vo_g fr f i) = some (b', o') ∧ acA (vo_g fr f) (n.toInt.toNat - (i + 1)) (i + 1) (b', o') = -1
def in_v116 (B : Nat → Nat) (k : Nat) (fr n : Int32) (f : Nat → Int32) : fL_ → List Value → lW → Prop := fun lg vs w => ∃ (i : Nat) (b : Bool) (o : Nat) (pl : Int32), f_sub [(4, false, .int pl), (0, false, .ref (B 126)), (1, false, .ref (B (336 + k))), (2, false, .int fr), (3, false, .int n)] lg ∧ vs = [] ∧ rS B (runA (vo_g fr f) (i + 1)) w ∧ aI B (336 + k) 60 f w ∧ pl.toInt = fr.toInt + (i : Int) ∧ i < n.toInt.toNat ∧ okS b o (i + 1) (runA (vo_g fr f) (i + 1)) ∧ acA (vo_g fr f) (n.toInt.toNat - (i + 1)) (i + 1) (b, o) = -1
def vo_hd : voA → lW → fI lW := fun (B, k, fr, n, f) _ => [(17, in_v17 B k fr n f), (45, in_v45 B k fr n f), (116, in_v116 B k fr n f)]
def Sp_vo : fP lW := [(82, 1, fLr r_X7_rank), (115, 2, fLr r_J9_max_7cf53), (132, 2, fLr r_X7_bind), (144, 2, fLr r_X7_mark), (153, 1, fLr r_X7_closeBracket), (162, 2, fLr r_X7_operand), (171, 1, fLr r_X7_turnAsMarked)]
theorem Sp_vo_ok : f_sp T_X7_valueOf Sp_vo wW := List.forall_mem_cons.mpr ⟨sp_w rfl (fun _ _ _ _ _ _ h => h.2.2.1), List.forall_mem_cons.mpr ⟨sp_w rfl (fun _ _ _ _ _ _ h => h.2.2.1), List.forall_mem_cons.mpr ⟨sp_w rfl (fun _ _ _ _ _ _ h => h.2.2.1), List.forall_mem_cons.mpr ⟨sp_w rfl (fun _ _ _ _ _ _ h => h.2.2.1), List.forall_mem_cons.mpr ⟨sp_w rfl (fun _ _ _ _ _ _ h => h.2.2.1), List.forall_mem_cons.mpr ⟨sp_w rfl (fun _ _ _ _ _ _ h => h.2.2.1), List.forall_mem_cons.mpr ⟨sp_w rfl (fun _ _ _ _ _ _ h => h.2.2.1), fun _ h => absurd h List.not_mem_nil⟩⟩⟩⟩⟩⟩⟩
theorem okS_vc {b : Bool} {o i : Nat} {s : pS} (h : okS b o i s) (hi : i ≤ 60) : s.2.1 ≤ 30 ∧ s.1.1 ≤ i := by
  obtain ⟨-, -, h3, h4, -⟩ := h
  refine ⟨?_, h3⟩
  cases b with
  | true =>
    have h4 : 2 * s.2.1 ≤ i + 0 := h4
    omega
  | false =>
    have h4 : 2 * s.2.1 ≤ i + 1 := h4
    omega
section
variable {B : Nat → Nat} {k : Nat} {fr n : Int32} {f : Nat → Int32} {w0 : lW}
set_option maxHeartbeats 4000000 in
theorem vo_h17 (hk : k < 4) (fr0 : 0 ≤ fr.toInt) (n0 : 0 ≤ n.toInt) (h60 : fr.toInt + n.toInt ≤ 60) : ∀ (lg : fL_) (vs : List Value) (w : lW), in_v17 B k fr n f lg vs w → ∃ (L : fL_) (fu : Nat), f_sub L lg ∧ wh oW T_X7_valueOf Sp_vo (vo_Q (B, k, fr, n, f) w0) K_X7_valueOf (vo_hd (B, k, fr, n, f) w0) fu 17 L vs w := by
  rintro lg vs w ⟨i, b, o, pl, hs, rfl, h, ha, ep, hi, hok, hac⟩
  have ep : pl.toInt = fr.toInt + (i : Int) := ep
  have hi : i ≤ n.toInt.toNat := hi
  have es : (fr + n).toInt = fr.toInt + n.toInt := i_add (by omega) (by omega)
  have e1 : (Int32.ofInt 1).toInt = 1 := by decide
  have e60 : (Int32.ofNat 60).toInt = 60 := by decide
  obtain ⟨cA, hr⟩ := id ha
  obtain ⟨v30, -⟩ := okS_vc hok (by omega)
  refine ⟨_, 60, hs, fun hc => ?_, fun hc => ⟨fun hd => ?_, fun _ => ?_⟩⟩
  · have hc : (fr + n).toInt ≤ pl.toInt := hc
    rw [es] at hc
    have ei : i = n.toInt.toNat := by omega
    rw [← ei, Nat.sub_self] at hac
    obtain ⟨rfl, rfl⟩ := acA_e1 hac
    have hvc := hok.1
    have hvc : (runA (vo_g fr f) i).2.1 = cnA isB (runA (vo_g fr f) i).1.1 (runA (vo_g fr f) i).1.2 + 1 := hvc
    intro rv w1 hx
    have hx : fLr r_X7_bind [.ref (B 126), .int (Int32.ofInt 1)] w rv w1 := hx
    obtain ⟨rfl, a1⟩ := s_X7_bind (B, runA (vo_g fr f) i, Int32.ofInt 1) w w1 rv hx ⟨h, (show (runA (vo_g fr f) i).2.1 ≤ 32 by omega), by rw [e1]; exact bdK_of (Int.le_refl 1) hvc⟩
    have a1 : rS B (bdS (Int32.ofInt 1).toInt (runA (vo_g fr f) i)) w1 := a1
    rw [e1] at a1
    obtain ⟨-, b2, -, -, -⟩ := bdA_ok (Int.le_refl 1) (k := (runA (vo_g fr f) i).1.1) (m := (runA (vo_g fr f) i).1.2) (v := (runA (vo_g fr f) i).2.2) (vc := (runA (vo_g fr f) i).2.1) hvc
    have hpos : 0 < (bdS 1 (runA (vo_g fr f) i)).2.1 := by
      show 0 < (bdA 1 (runA (vo_g fr f) i).1.1 (runA (vo_g fr f) i).1.2 (runA (vo_g fr f) i).2.2 (runA (vo_g fr f) i).2.1).2.1
      omega
    obtain ⟨V, hV, hV2⟩ := a1.2.2.2.2.1
    show some (eR (hof w1.1 (rv_ (eG fl_X7 19 (hof w1.1 (B 126))))) (Int32.ofInt 0).toNatClampNeg) = some (.ref (B 129)) ∧ ∃ V, vS B V w1 ∧ ∀ x, x < 4 → V 0 x = txtW (vo_g fr f) n.toInt.toNat x
    rw [rX.g19 a1]
    refine ⟨congrArg some (rX.vl a1 (j := 0) (by decide)), V, hV, fun x hx4 => ?_⟩
    rw [hV2 0 hpos x hx4, ← ei]
    rfl
  · have hc : ¬ (fr + n).toInt ≤ pl.toInt := hc
    rw [es] at hc
    have hd : (Int32.ofNat (eL (hof w.1 (B (336 + k))))).toInt ≤ pl.toInt := hd
    rw [hr] at hd
    have hd : (Int32.ofNat 60).toInt ≤ pl.toInt := hd
    rw [e60] at hd
    omega
  · have hc : ¬ (fr + n).toInt ≤ pl.toInt := hc
    rw [es] at hc
    have hin : i < n.toInt.toNat := by omega
    rw [show n.toInt.toNat - i = (n.toInt.toNat - (i + 1)) + 1 by omega] at hac
    obtain ⟨⟨b', o'⟩, hst, hac2⟩ := acA_m1 hac
    have ec : eI (hof w.1 (B (336 + k))) pl.toNatClampNeg = vo_g fr f i := by
      rw [hr]
      show f pl.toInt.toNat = f (fr.toInt.toNat + i)
      congr 1
      omega
    intro rv w1 hx
    have hx : fLr r_X7_rank [.int (eI (hof w.1 (B (336 + k))) pl.toNatClampNeg)] w rv w1 := hx
    rw [ec] at hx
    have h1 : rS B (runA (vo_g fr f) i) w1 := rX.keep h hx (by decide) (by decide) (by decide)
    have ha1 := ha.keep h.1 hx (bl_R hk) (bt_R hk) (by decide) (by decide)
    obtain ⟨-, rfl⟩ := (s_X7_rank _ _ _ _ _ _ hx).2 _ rfl trivial
    refine ⟨i, b, o, b', o', pl, ⟨rfl, ?_, rfl, rfl, rfl, rfl, rfl, trivial⟩, rfl, h1, ha1, ep, hin, hok, hst, hac2⟩
    show some (false, Value.int (eI (hof w.1 (B (336 + k))) pl.toNatClampNeg)) = some (false, .int (vo_g fr f i))
    rw [ec]
set_option maxHeartbeats 4000000 in
theorem vo_h45 (hk : k < 4) (n60 : n.toInt ≤ 60) : ∀ (lg : fL_) (vs : List Value) (w : lW), in_v45 B k fr n f lg vs w → ∃ (L : fL_) (fu : Nat), f_sub L lg ∧ wh oW T_X7_valueOf Sp_vo (vo_Q (B, k, fr, n, f) w0) K_X7_valueOf (vo_hd (B, k, fr, n, f) w0) fu 45 L vs w := by
  rintro lg vs w ⟨i, b, o, b', o', pl, hs, rfl, h, ha, ep, hi, hok, hst, hac⟩
  have hi : i < n.toInt.toNat := hi
  obtain ⟨v30, m60⟩ := okS_vc hok (by omega)
  have hok' : okS b' o' (i + 1) (runA (vo_g fr f) (i + 1)) := ch_ok hok hst
  have run : runA (vo_g fr f) (i + 1) = chA (vo_g fr f i) (runA (vo_g fr f) i) := rfl
  have fin : ∀ {L : fL_} {w1 : lW}, f_sub [(4, false, .int pl), (0, false, .ref (B 126)), (1, false, .ref (B (336 + k))), (2, false, .int fr), (3, false, .int n)] L → rS B (chA (vo_g fr f i) (runA (vo_g fr f) i)) w1 → aI B (336 + k) 60 f w1 → in_v116 B k fr n f L [] w1 := fun hL h1 h2 => ⟨i, b', o', pl, hL, rfl, h1, h2, ep, hi, hok', hac⟩
  have cs := st_case hst
  generalize vo_g fr f i = c at *
  generalize runA (vo_g fr f) i = s at *
  have e2 : (Int32.ofInt 2).toInt = 2 := by decide
  have e40 : (Int32.ofInt 40).toInt = 40 := by decide
  have e41 : (Int32.ofInt 41).toInt = 41 := by decide
  have e45 : (Int32.ofInt 45).toInt = 45 := by decide
  have rk := rk_b (c := c)
  refine ⟨_, 60, hs, fun hc => ⟨fun h1 => ?_, fun h1 => ⟨fun h2 => ⟨fun h3 => ?_, fun h3 => ?_⟩, fun h2 => ?_⟩⟩, fun hc => ?_⟩
  · have h1 : c.toInt = (Int32.ofInt 40).toInt := h1
    rw [e40] at h1
    intro rv w1 hx
    have hx : fLr r_X7_mark [.ref (B 126), .int c] w rv w1 := hx
    have ha1 := ha.keep h.1 hx (bl_R hk) (bt_R hk) (by decide) (by decide)
    obtain ⟨rfl, a1⟩ := s_X7_mark (B, s, c) w w1 rv hx ⟨h, (show s.1.1 < 60 by omega)⟩
    exact fin ⟨rfl, rfl, rfl, rfl, rfl, trivial⟩ (by rw [chA_ps (Or.inl h1)]; exact a1) ha1
  · have hc : (rkc c).toInt ≤ 0 := hc
    have h1 : ¬ c.toInt = (Int32.ofInt 40).toInt := h1
    rw [e40] at h1
    have h2 : ¬ c.toInt = (Int32.ofInt 45).toInt := h2
    rw [e45] at h2
    have h3 : ¬ c.toInt = (Int32.ofInt 41).toInt := h3
    rw [e41] at h3
    have hok2 : okc c := by
      rcases cs with ⟨-, ⟨y, -⟩ | ⟨y, -⟩ | ⟨y, -⟩⟩ | ⟨-, ⟨y, -⟩ | ⟨y, -⟩⟩
      · exact absurd y h1
      · exact absurd y h2
      · exact y
      · omega
      · exact absurd y h3
    intro rv w1 hx
    have hx : fLr r_X7_operand [.ref (B 126), .int c] w rv w1 := hx
    have ha1 := ha.keep h.1 hx (bl_R hk) (bt_R hk) (by decide) (by decide)
    obtain ⟨rfl, a1⟩ := s_X7_operand (B, s, c) w w1 rv hx ⟨h, (show s.2.1 < 32 by omega), hok2⟩
    have a1 : rS B (valS c s) w1 := a1
    intro rv w2 hx2
    have hx2 : fLr r_X7_turnAsMarked [.ref (B 126)] w1 rv w2 := hx2
    have ha2 := ha1.keep a1.1 hx2 (bl_R hk) (bt_R hk) (by decide) (by decide)
    obtain ⟨rfl, a2⟩ := s_X7_turnAsMarked (B, valS c s) w1 w2 rv hx2 ⟨a1, (show 0 < s.2.1 + 1 by omega), (show s.2.1 + 1 ≤ 32 by omega)⟩
    exact fin ⟨rfl, rfl, rfl, rfl, rfl, trivial⟩ (by rw [chA_vl hok2]; exact a2) ha2
  · have h3 : ¬ ¬ c.toInt = (Int32.ofInt 41).toInt := h3
    rw [e41] at h3
    have h3 : c.toInt = 41 := Classical.not_not.mp h3
    obtain ⟨rfl, ho⟩ : b = false ∧ 0 < o := by
      rcases cs with ⟨-, ⟨y, -⟩ | ⟨y, -⟩ | ⟨y, -⟩⟩ | ⟨yb, ⟨y, -⟩ | ⟨-, y, -⟩⟩
      · omega
      · omega
      · unfold okc at y
        omega
      · omega
      · exact ⟨yb, y⟩
    obtain ⟨hp, -⟩ := bd_close hok ho
    have hvc : s.2.1 = cnA isB s.1.1 s.1.2 + 1 := hok.1
    obtain ⟨-, b2, b3, -, -⟩ := bdA_ok (Int.le_refl 1) (k := s.1.1) (m := s.1.2) (v := s.2.2) (vc := s.2.1) hvc
    intro rv w1 hx
    have hx : fLr r_X7_closeBracket [.ref (B 126)] w rv w1 := hx
    have ha1 := ha.keep h.1 hx (bl_R hk) (bt_R hk) (by decide) (by decide)
    obtain ⟨rfl, a1⟩ := s_X7_closeBracket (B, s) w w1 rv hx ⟨h, (show s.2.1 ≤ 32 by omega), bdK_of (Int.le_refl 1) hvc, hp⟩
    have a1 : rS B (popS (bdS 1 s)) w1 := a1
    intro rv w2 hx2
    have hx2 : fLr r_X7_turnAsMarked [.ref (B 126)] w1 rv w2 := hx2
    have ha2 := ha1.keep a1.1 hx2 (bl_R hk) (bt_R hk) (by decide) (by decide)
    obtain ⟨rfl, a2⟩ := s_X7_turnAsMarked (B, popS (bdS 1 s)) w1 w2 rv hx2 ⟨a1, (show 0 < (bdA 1 s.1.1 s.1.2 s.2.2 s.2.1).2.1 by omega), (show (bdA 1 s.1.1 s.1.2 s.2.2 s.2.1).2.1 ≤ 32 by omega)⟩
    exact fin ⟨rfl, rfl, rfl, rfl, rfl, trivial⟩ (by rw [chA_cl h3]; exact a2) ha2
  · have h2 : ¬ ¬ c.toInt = (Int32.ofInt 45).toInt := h2
    rw [e45] at h2
    intro rv w1 hx
    have hx : fLr r_X7_mark [.ref (B 126), .int c] w rv w1 := hx
    have ha1 := ha.keep h.1 hx (bl_R hk) (bt_R hk) (by decide) (by decide)
    obtain ⟨rfl, a1⟩ := s_X7_mark (B, s, c) w w1 rv hx ⟨h, (show s.1.1 < 60 by omega)⟩
    exact fin ⟨rfl, rfl, rfl, rfl, rfl, trivial⟩ (by rw [chA_ps (Or.inr (Classical.not_not.mp h2))]; exact a1) ha1
  · have hc : ¬ (rkc c).toInt ≤ 0 := hc
    have hr : 0 < (rkc c).toInt := by omega
    have r3 := rk_le (c := c)
    obtain rfl : b = false := by
      rcases cs with ⟨-, ⟨y, -⟩ | ⟨y, -⟩ | ⟨y, -⟩⟩ | ⟨yb, -⟩
      · omega
      · omega
      · unfold okc at y
        omega
      · exact yb
    have hvc : s.2.1 = cnA isB s.1.1 s.1.2 + 1 := hok.1
    intro rv w1 hx
    have hx : fLr r_J9_max_7cf53 [.int (rkc c), .int (Int32.ofInt 2)] w rv w1 := hx
    have a0 : rS B s w1 := rX.keep h hx (by decide) (by decide) (by decide)
    have ha1 := ha.keep h.1 hx (bl_R hk) (bt_R hk) (by decide) (by decide)
    obtain ⟨-, er⟩ := (s_J9_max _ _ _ _ _ _ hx).2 (rkc c, Int32.ofInt 2) rfl trivial
    have er : rv = some (.int (if (Int32.ofInt 2).toInt ≤ (rkc c).toInt then rkc c else Int32.ofInt 2)) := er
    subst er
    obtain ⟨l, el⟩ : ∃ l : Int32, (if (Int32.ofInt 2).toInt ≤ (rkc c).toInt then rkc c else Int32.ofInt 2) = l := ⟨_, rfl⟩
    have elI : l.toInt = if (rkc c).toInt ≤ 2 then (2 : Int) else 3 := by
      rw [← el]
      split
      · rename_i y
        rw [e2] at y
        split <;> omega
      · rename_i y
        rw [e2] at y ⊢
        rw [if_pos (by omega)]
    rw [el]
    intro rv w2 hx2
    have hx2 : fLr r_X7_bind [.ref (B 126), .int l] w1 rv w2 := hx2
    have ha2 := ha1.keep a0.1 hx2 (bl_R hk) (bt_R hk) (by decide) (by decide)
    obtain ⟨rfl, a1⟩ := s_X7_bind (B, s, l) w1 w2 rv hx2 ⟨a0, (show s.2.1 ≤ 32 by omega), by rw [elI]; exact bdK_of lv_1 hvc⟩
    have a1 : rS B (bdS l.toInt s) w2 := a1
    rw [elI] at a1
    obtain ⟨b1, -⟩ := bdA_ok (lv_1 (c := c)) (k := s.1.1) (m := s.1.2) (v := s.2.2) (vc := s.2.1) hvc
    intro rv w3 hx3
    have hx3 : fLr r_X7_mark [.ref (B 126), .int c] w2 rv w3 := hx3
    have ha3 := ha2.keep a1.1 hx3 (bl_R hk) (bt_R hk) (by decide) (by decide)
    obtain ⟨rfl, a2⟩ := s_X7_mark (B, bdS (if (rkc c).toInt ≤ 2 then 2 else 3) s, c) w2 w3 rv hx3 ⟨a1, (show (bdA (if (rkc c).toInt ≤ 2 then 2 else 3) s.1.1 s.1.2 s.2.2 s.2.1).1 < 60 by omega)⟩
    exact fin ⟨rfl, rfl, rfl, rfl, rfl, trivial⟩ (by rw [chA_op hr]; exact a2) ha3
set_option maxHeartbeats 4000000 in
theorem vo_h116 (n60 : fr.toInt + n.toInt ≤ 60) (fr0 : 0 ≤ fr.toInt) : ∀ (lg : fL_) (vs : List Value) (w : lW), in_v116 B k fr n f lg vs w → ∃ (L : fL_) (fu : Nat), f_sub L lg ∧ wh oW T_X7_valueOf Sp_vo (vo_Q (B, k, fr, n, f) w0) K_X7_valueOf (vo_hd (B, k, fr, n, f) w0) fu 116 L vs w := by
  rintro lg vs w ⟨i, b, o, pl, hs, rfl, h, ha, ep, hi, hok, hac⟩
  have ep : pl.toInt = fr.toInt + (i : Int) := ep
  have hi : i < n.toInt.toNat := hi
  refine ⟨_, 40, hs, i + 1, b, o, pl + 1, ⟨rfl, rfl, rfl, rfl, rfl, trivial⟩, rfl, h, ha, ?_, hi, hok, hac⟩
  rw [i_inc (by omega) (by omega)]
  omega
end
set_option maxHeartbeats 4000000 in
theorem s_X7_valueOf : ∀ (a : voA) (w w' : lW) (rv : Option Value), fLr r_X7_valueOf (vo_F a) w rv w' → vo_P a w → vo_Q a w rv w' := by
  refine do_ofW vo_F vo_P vo_Q Sp_vo vo_hd 40 fo_X7 Sp_vo_ok k_X7_valueOf (fun a w0 hp => ?_) (fun a w0 hp hd0 => ?_)
  · obtain ⟨B, k, fr, n, f⟩ := a
    obtain ⟨hk, -, -, ⟨fr0, n0, h60⟩, -⟩ := hp
    exact List.forall_mem_cons.mpr ⟨vo_h17 hk fr0 n0 h60, List.forall_mem_cons.mpr ⟨vo_h45 hk (by omega), List.forall_mem_cons.mpr ⟨vo_h116 h60 fr0, fun _ h => absurd h List.not_mem_nil⟩⟩⟩
  · obtain ⟨B, k, fr, n, f⟩ := a
    obtain ⟨hk, ⟨km, kv, h⟩, ha, ⟨fr0, n0, h60⟩, hac⟩ := hp
    have z0 : (Int32.ofInt 0).toInt = ((0 : Nat) : Int) := by decide
    intro q e0 hq
    have hq : w0.1[q]? = some (B 126, e0) := hq
    have h1 := h.p31 hq (E := .int (Int32.ofInt 0)) rfl z0
    have u1 : aI B (336 + k) 60 f (w0.1.set q (B 126, sG pl_X7 31 (.int (Int32.ofInt 0)) (hof w0.1 (B 126))), w0.2) := by
      obtain ⟨x, ox, -⟩ := h.2.1
      obtain ⟨-, b2, -, -⟩ := oF.put (v' := .int (Int32.ofInt 0)) (i := 31) (pl := pl_X7) h.1 ox bl_126 hq rfl (fun r h => by have h : some ((1, 0, 0) : mk_V) = some (2, 0, r) := h; cases h)
      exact ha.upd h.1 (bl_R hk) bl_126 (by omega) b2
    intro q2 e2 hq2
    have hq2 : (w0.1.set q (B 126, sG pl_X7 31 (.int (Int32.ofInt 0)) (hof w0.1 (B 126))))[q2]? = some (B 126, e2) := hq2
    have h2 := h1.p35 hq2 (E := .int (Int32.ofInt 0)) rfl z0
    have u2 : aI B (336 + k) 60 f ((w0.1.set q (B 126, sG pl_X7 31 (.int (Int32.ofInt 0)) (hof w0.1 (B 126)))).set q2 (B 126, sG pl_X7 35 (.int (Int32.ofInt 0)) (hof (w0.1.set q (B 126, sG pl_X7 31 (.int (Int32.ofInt 0)) (hof w0.1 (B 126)))) (B 126))), w0.2) := by
      obtain ⟨x, ox, -⟩ := h1.2.2.1
      obtain ⟨-, b2, -, -⟩ := oF.put (v' := .int (Int32.ofInt 0)) (i := 35) (pl := pl_X7) h1.1 ox bl_126 hq2 rfl (fun r h => by have h : some ((1, 0, 0) : mk_V) = some (2, 0, r) := h; cases h)
      exact u1.upd h1.1 (bl_R hk) bl_126 (by omega) b2
    intro rv w3 hx
    have hx : fLr r_J9_max_7cf53 [.int fr, .int (Int32.ofInt 0)] _ rv w3 := hx
    have h3 : rS B (runA (vo_g fr f) 0) w3 := rX.keep h2 hx (by decide) (by decide) (by decide)
    have u3 := u2.keep h2.1 hx (bl_R hk) (bt_R hk) (by decide) (by decide)
    obtain ⟨-, er⟩ := (s_J9_max _ _ _ _ _ _ hx).2 (fr, Int32.ofInt 0) rfl trivial
    have er : rv = some (.int (if (Int32.ofInt 0).toInt ≤ fr.toInt then fr else Int32.ofInt 0)) := er
    rw [if_pos (by rw [z0]; exact fr0)] at er
    subst er
    exact ⟨0, true, 0, fr, ⟨rfl, rfl, rfl, rfl, rfl, trivial⟩, rfl, h3, u3, (show fr.toInt = fr.toInt + ((0 : Nat) : Int) by omega), Nat.zero_le _, okS_0, hac⟩
end
section
/-! texts: the reference's parser is the machine -/
theorem bl_346 : lp_L2[346]? = some (2, 1, 256, []) := lp_at_ok (by decide +kernel)
theorem bt_346 : lp_sh[346]? = some 47 := by decide +kernel
theorem bl_347 : lp_L2[347]? = some (1, 0, 64, []) := lp_at_ok (by decide +kernel)
theorem bt_347 : lp_sh[347]? = some 48 := by decide +kernel
theorem bI.wJ {B : Nat → Nat} {w : lW} (hI : bI B w) {p : Nat} {c : mk_C} (hc : lp_L2[p]? = some c) (h0 : c.1 ≠ 0) (hr : ∀ k r : Nat, c.2.2.2[k]? ≠ some (2, 0, r)) {E : Value} (hE : E = .ref (B p)) {q : Nat} {e0 : va_E} (hq : w.1[q]? = some (rv_ E, e0)) {i : Nat} {v : Int64} : bI B (w.1.set q (rv_ E, sJ i v (hof w.1 (rv_ E))), w.2) ∧ hof (w.1.set q (rv_ E, sJ i v (hof w.1 (rv_ E)))) = hset (hof w.1) (B p) (sJ i v (hof w.1 (rv_ E))) := by
  subst hE
  have hq : w.1[q]? = some (B p, e0) := hq
  obtain ⟨e, h1, h2, h3⟩ := hI.2.h hI.1 hc
  have he : cR B c (sJ i v (hof w.1 (B p))) := by
    rw [h2]
    exact cR_sJ h3 h0 hr
  exact hI.set hc hq he
/-- the model's state: the counts' fields, and what of the machine's state is there -/
def mX (B : Nat → Nat) (s : pS) (km kv : Nat) (w : lW) : Prop := bI B w ∧ (∃ x : Int32, oF B 343 12 7 (.int x) w ∧ x.toInt = (km : Int)) ∧ (∃ x : Int32, oF B 343 12 5 (.int x) w ∧ x.toInt = (kv : Int)) ∧ (∃ f, aI B 347 64 f w ∧ ∀ j, j < s.1.1 → f j = s.1.2 j) ∧ ∃ g, aJ B 346 256 g w ∧ ∀ i, i < s.2.1 → ∀ x, x < 4 → g (4 * i + x) = s.2.2 i x
def mS (B : Nat → Nat) (s : pS) (w : lW) : Prop := mX B s s.1.1 s.2.1 w
section
variable {B : Nat → Nat} {s : pS} {km kv : Nat} {w w' : lW}
theorem mX.cut {s' : pS} (h : mX B s km kv w) (h1 : s'.1.1 ≤ s.1.1) (h2 : s'.1.2 = s.1.2) (h3 : s'.2.1 ≤ s.2.1) (h4 : s'.2.2 = s.2.2) : mX B s' km kv w := by
  obtain ⟨a1, a2, a3, ⟨f, a4, a5⟩, ⟨V, a6, a7⟩⟩ := h
  exact ⟨a1, a2, a3, ⟨f, a4, fun j hj => by rw [h2]; exact a5 j (by omega)⟩, ⟨V, a6, fun i hi x hx => by rw [h4]; exact a7 i (by omega) x hx⟩⟩
theorem mX.gm (h : mX B s km kv w) : ∃ x : Int32, eG fl_X12 167 (hof w.1 (B 343)) = .int x ∧ x.toInt = (km : Int) := by
  obtain ⟨x, h1, h2⟩ := h.2.1
  exact ⟨x, h1.get rfl, h2⟩
theorem mX.gv (h : mX B s km kv w) : ∃ x : Int32, eG fl_X12 162 (hof w.1 (B 343)) = .int x ∧ x.toInt = (kv : Int) := by
  obtain ⟨x, h1, h2⟩ := h.2.2.1
  exact ⟨x, h1.get rfl, h2⟩
theorem mX.g20 (h : mX B s km kv w) : eG fl_X12 20 (hof w.1 (B 343)) = .ref (B 347) := by
  obtain ⟨x, h1, h2⟩ := h.2.1
  exact bR h1 h.1 bl_343 rfl rfl
theorem mX.g17 (h : mX B s km kv w) : eG fl_X12 17 (hof w.1 (B 343)) = .ref (B 346) := by
  obtain ⟨x, h1, h2⟩ := h.2.1
  exact bR h1 h.1 bl_343 rfl rfl
theorem mX.mk (h : mX B s km kv w) {j : Nat} (hj : j < s.1.1) : eI (hof w.1 (B 347)) j = s.1.2 j := by
  obtain ⟨f, ⟨cA, h1⟩, h2⟩ := h.2.2.2.1
  rw [h1]
  exact h2 j hj
theorem mX.vl (h : mX B s km kv w) {i x : Nat} (hi : i < s.2.1) (hx : x < 4) : eJ (hof w.1 (B 346)) (4 * i + x) = s.2.2 i x := by
  obtain ⟨g, ⟨cA, h1⟩, h2⟩ := h.2.2.2.2
  rw [h1]
  exact h2 i hi x hx
theorem mX.pm (h : mX B s km kv w) {q : Nat} {e0 : va_E} (hq : w.1[q]? = some (B 343, e0)) {E : Value} {x : Int32} {k : Nat} (hE : E = .int x) (hx : x.toInt = (k : Int)) : mX B s k kv (w.1.set q (B 343, sG pl_X12 167 E (hof w.1 (B 343))), w.2) := by
  subst hE
  obtain ⟨a1, ⟨y, a2, -⟩, ⟨z, a3, ez⟩, ⟨f, a4, a5⟩, ⟨V, a6, a7⟩⟩ := h
  obtain ⟨b1, b2, b3, b4⟩ := oF.put (v' := .int x) (i := 167) (pl := pl_X12) a1 a2 bl_343 hq rfl (fun r h => by have h : some ((1, 0, 0) : mk_V) = some (2, 0, r) := h; cases h)
  exact ⟨b1, ⟨x, b3, hx⟩, ⟨z, b4 5 _ (by decide) a3, ez⟩, ⟨f, a4.upd a1 bl_347 bl_343 (by decide) b2, a5⟩, ⟨V, a6.upd a1 bl_346 bl_343 (by decide) b2, a7⟩⟩
theorem mX.pv (h : mX B s km kv w) {q : Nat} {e0 : va_E} (hq : w.1[q]? = some (B 343, e0)) {E : Value} {x : Int32} {k : Nat} (hE : E = .int x) (hx : x.toInt = (k : Int)) : mX B s km k (w.1.set q (B 343, sG pl_X12 162 E (hof w.1 (B 343))), w.2) := by
  subst hE
  obtain ⟨a1, ⟨y, a2, ey⟩, ⟨z, a3, -⟩, ⟨f, a4, a5⟩, ⟨V, a6, a7⟩⟩ := h
  obtain ⟨b1, b2, b3, b4⟩ := oF.put (v' := .int x) (i := 162) (pl := pl_X12) a1 a3 bl_343 hq rfl (fun r h => by have h : some ((1, 0, 0) : mk_V) = some (2, 0, r) := h; cases h)
  exact ⟨b1, ⟨y, b4 7 _ (by decide) a2, ey⟩, ⟨x, b3, hx⟩, ⟨f, a4.upd a1 bl_347 bl_343 (by decide) b2, a5⟩, ⟨V, a6.upd a1 bl_346 bl_343 (by decide) b2, a7⟩⟩
theorem mX.w347 (h : mX B s km kv w) {q : Nat} {e0 : va_E} {E : Value} (hE : E = .ref (B 347)) (hq : w.1[q]? = some (rv_ E, e0)) {c : Int32} {i : Nat} (hi : i = s.1.1) : mX B ((s.1.1 + 1, upd s.1.2 s.1.1 c), s.2) km kv (w.1.set q (rv_ E, sI i c (hof w.1 (rv_ E))), w.2) := by
  obtain ⟨a1, ⟨y, a2, ey⟩, ⟨z, a3, ez⟩, ⟨f, ⟨cA, a4⟩, a5⟩, ⟨V, a6, a7⟩⟩ := h
  obtain ⟨b1, b2⟩ := a1.wI bl_347 (by decide) (fun k r h => by cases h) hE hq (i := i) (v := c)
  refine ⟨b1, ⟨y, a2.upd a1 bl_343 bl_347 (by decide) b2, ey⟩, ⟨z, a3.upd a1 bl_343 bl_347 (by decide) b2, ez⟩, ⟨upd f i c, ⟨cA, ?_⟩, fun j hj => ?_⟩, ⟨V, a6.upd a1 bl_346 bl_347 (by decide) b2, a7⟩⟩
  · rw [b2, hset_at]
    subst hE
    show some (sI i c (hof w.1 (B 347))) = _
    rw [a4]
    rfl
  · have hj : j < s.1.1 + 1 := hj
    show upd f i c j = upd s.1.2 s.1.1 c j
    rw [hi]
    by_cases e : j = s.1.1
    · rw [e, upd_at, upd_at]
    · rw [upd_ne e, upd_ne e]
      exact a5 j (by omega)
/-- a word written: of the values, word y of value i, in the machine's state as the other side says -/
theorem mX.w346 (h : mX B s km kv w) {q : Nat} {e0 : va_E} {E : Value} (hE : E = .ref (B 346)) (hq : w.1[q]? = some (rv_ E, e0)) {u : Int64} {d : Nat} {n : Nat} {v' : Nat → Nat → Int64} (hv : ∀ g : Nat → Int64, (∀ i, i < s.2.1 → ∀ x, x < 4 → g (4 * i + x) = s.2.2 i x) → ∀ i, i < n → ∀ x, x < 4 → vp_updL g d u (4 * i + x) = v' i x) : mX B (s.1, n, v') km kv (w.1.set q (rv_ E, sJ d u (hof w.1 (rv_ E))), w.2) := by
  obtain ⟨a1, ⟨y, a2, ey⟩, ⟨z, a3, ez⟩, ⟨f, a4, a5⟩, ⟨V, ⟨cA, a6⟩, a7⟩⟩ := h
  obtain ⟨b1, b2⟩ := a1.wJ bl_346 (by decide) (fun k r h => by cases h) hE hq (i := d) (v := u)
  refine ⟨b1, ⟨y, a2.upd a1 bl_343 bl_346 (by decide) b2, ey⟩, ⟨z, a3.upd a1 bl_343 bl_346 (by decide) b2, ez⟩, ⟨f, a4.upd a1 bl_347 bl_346 (by decide) b2, a5⟩, ⟨vp_updL V d u, ⟨cA, ?_⟩, hv V a7⟩⟩
  rw [b2, hset_at]
  subst hE
  show some (sJ d u (hof w.1 (B 346))) = _
  rw [a6]
  rfl
theorem mX.keep {rt : Nat} {Wr : List (Nat × Nat)} {T : fT} {cc : ByteArray} {As : List Value} {rv : Option Value} (h : mX B s km kv w) (hx : fLr (fq cw_TT cw_SG rt Wr T cc) As w rv w') (hk : bs_K.all (fun x => !(Wr.contains x)) = true) (hw : (17, 7) ∉ Wr ∧ (17, 5) ∉ Wr ∧ (47, 0) ∉ Wr ∧ (48, 0) ∉ Wr) : mX B s km kv w' := by
  obtain ⟨a1, ⟨y, a2, ey⟩, ⟨z, a3, ez⟩, ⟨f, a4, a5⟩, ⟨V, a6, a7⟩⟩ := h
  exact ⟨a1.keep hx hk, ⟨y, a2.keep a1 hx bl_343 bt_343 hw.1, ey⟩, ⟨z, a3.keep a1 hx bl_343 bt_343 hw.2.1, ez⟩, ⟨f, a4.keep a1 hx bl_347 bt_347 (by decide) hw.2.2.2, a5⟩, ⟨V, a6.keep a1 hx bl_346 bt_346 (by decide) hw.2.2.1, a7⟩⟩
end
theorem s_X12_tight : f_do r_X12_tight (fun As h rv h' => ∀ c : Int32, As = [.int c] → True → h' = h ∧ rv = some (.int (rkc c))) := by
  refine do_ofP (fun c : Int32 => [.int c]) (fun _ _ => True) (fun c h rv h' => h' = h ∧ rv = some (.int (rkc c))) [] (fun _ _ => []) 40 fo_X12 no_sp k_X12_tight (fun _ _ _ => no_hd) (fun c h0 _ => ?_)
  have e38 : (38 : Int32).toInt = 38 := by decide
  have e124 : (124 : Int32).toInt = 124 := by decide
  have e62 : (62 : Int32).toInt = 62 := by decide
  refine ⟨fun ha => ⟨fun hb => ⟨fun hc => ?_, fun hc => ?_⟩, fun hb => ?_⟩, fun ha => ?_⟩
  · have ha : ¬ c.toInt = (38 : Int32).toInt := ha
    have hb : ¬ c.toInt = (124 : Int32).toInt := hb
    have hc : ¬ c.toInt = (62 : Int32).toInt := hc
    refine ⟨rfl, ?_⟩
    show some (Value.int 0) = some (.int (rkc c))
    unfold rkc
    rw [if_neg (by omega), if_neg (by omega), if_neg (by omega)]
  · have ha : ¬ c.toInt = (38 : Int32).toInt := ha
    have hb : ¬ c.toInt = (124 : Int32).toInt := hb
    have hc : ¬ ¬ c.toInt = (62 : Int32).toInt := hc
    refine ⟨rfl, ?_⟩
    show some (Value.int 1) = some (.int (rkc c))
    unfold rkc
    rw [if_neg (by omega), if_neg (by omega), if_pos (by omega)]
  · have ha : ¬ c.toInt = (38 : Int32).toInt := ha
    have hb : ¬ ¬ c.toInt = (124 : Int32).toInt := hb
    refine ⟨rfl, ?_⟩
    show some (Value.int 2) = some (.int (rkc c))
    unfold rkc
    rw [if_neg (by omega), if_pos (by omega)]
  · have ha : ¬ ¬ c.toInt = (38 : Int32).toInt := ha
    refine ⟨rfl, ?_⟩
    show some (Value.int 3) = some (.int (rkc c))
    unfold rkc
    rw [if_pos (by omega)]
end
section
/-! texts: the reference's methods one by one -/
theorem mX.ext {B : Nat → Nat} {s : pS} {km kv : Nat} {w : lW} (h : mX B s km kv w) {v' : Nat → Nat → Int64} (hv : ∀ i, i < s.2.1 → ∀ x, x < 4 → s.2.2 i x = v' i x) : mX B (s.1, s.2.1, v') km kv w := by
  obtain ⟨a1, a2, a3, a4, ⟨V, a6, a7⟩⟩ := h
  exact ⟨a1, a2, a3, a4, ⟨V, a6, fun i hi x hx => by rw [a7 i hi x hx]; exact hv i hi x hx⟩⟩
theorem mX.up {B : Nat → Nat} {s : pS} {km kv : Nat} {w : lW} (h : mX B s km kv w) : ∃ G, mX B (s.1, s.2.1 + 1, updW s.2.2 s.2.1 G) km kv w := by
  obtain ⟨a1, a2, a3, a4, ⟨V, a6, a7⟩⟩ := h
  refine ⟨fun x => V (4 * s.2.1 + x), a1, a2, a3, a4, ⟨V, a6, fun i hi x hx => ?_⟩⟩
  have hi : i < s.2.1 + 1 := hi
  show V (4 * i + x) = updW s.2.2 s.2.1 (fun x => V (4 * s.2.1 + x)) i x
  by_cases e : i = s.2.1
  · rw [e, updW_at]
  · rw [updW_ne e]
    exact a7 i (by omega) x hx
/-- a word of one value written -/
theorem mX.wv {B : Nat → Nat} {s : pS} {km kv : Nat} {w : lW} (h : mX B s km kv w) {q : Nat} {e0 : va_E} {E : Value} (hE : E = .ref (B 346)) (hq : w.1[q]? = some (rv_ E, e0)) {u : Int64} {d j t : Nat} (hd : d = 4 * j + t) (ht : t < 4) : mX B (s.1, s.2.1, updW s.2.2 j (fun x => if x = t then u else s.2.2 j x)) km kv (w.1.set q (rv_ E, sJ d u (hof w.1 (rv_ E))), w.2) := by
  refine h.w346 hE hq (fun g hg i hi x hx => ?_)
  unfold vp_updL
  by_cases e : i = j
  · subst e
    rw [updW_at]
    by_cases ex : x = t
    · rw [if_pos (by omega), if_pos ex]
    · rw [if_neg (by omega), if_neg ex]
      exact hg i hi x hx
  · rw [updW_ne e, if_neg (by omega)]
    exact hg i hi x hx
/-- the top value turned -/
abbrev tmA : Type := (Nat → Nat) × pS × Nat
def tm_F : tmA → List Value := fun (B, _, _) => [.ref (B 343)]
def in_tt (B : Nat → Nat) (s : pS) (km : Nat) : fL_ → List Value → lW → Prop := fun lg vs w => ∃ t : Int32, f_sub [(1, false, .int t), (0, false, .ref (B 343))] lg ∧ vs = [] ∧ mX B (s.1, s.2.1, updW s.2.2 (s.2.1 - 1) (fun x => if x < t.toInt.toNat then o_turn (s.2.2 (s.2.1 - 1) x) else s.2.2 (s.2.1 - 1) x)) km s.2.1 w ∧ 0 ≤ t.toInt ∧ t.toInt ≤ 4
set_option maxHeartbeats 4000000 in
theorem s_X12_turnTop : ∀ (a : tmA) (w w' : lW) (rv : Option Value), fLr r_X12_turnTop (tm_F a) w rv w' → (mX a.1 a.2.1 a.2.2 a.2.1.2.1 w ∧ 0 < a.2.1.2.1 ∧ a.2.1.2.1 ≤ 60) → rv = none ∧ mX a.1 (a.2.1.1, a.2.1.2.1, updW a.2.1.2.2 (a.2.1.2.1 - 1) (fun x => o_turn (a.2.1.2.2 (a.2.1.2.1 - 1) x))) a.2.2 a.2.1.2.1 w' := by
  refine do_ofW tm_F (fun a w => mX a.1 a.2.1 a.2.2 a.2.1.2.1 w ∧ 0 < a.2.1.2.1 ∧ a.2.1.2.1 ≤ 60) (fun a _ rv w' => rv = none ∧ mX a.1 (a.2.1.1, a.2.1.2.1, updW a.2.1.2.2 (a.2.1.2.1 - 1) (fun x => o_turn (a.2.1.2.2 (a.2.1.2.1 - 1) x))) a.2.2 a.2.1.2.1 w') [] (fun a _ => [(2, in_tt a.1 a.2.1 a.2.2)]) 40 fo_X12 (fun _ h => absurd h List.not_mem_nil) k_X12_turnTop (fun a w0 hp => ?_) (fun a w0 hp hd0 => ?_)
  · refine List.forall_mem_cons.mpr ⟨?_, fun _ h => absurd h List.not_mem_nil⟩
    obtain ⟨B, s, km⟩ := a
    obtain ⟨-, h0, h60⟩ := hp
    have h0 : 0 < s.2.1 := h0
    have h60 : s.2.1 ≤ 60 := h60
    obtain ⟨k, ek⟩ : ∃ k, s.2.1 = k + 1 := ⟨s.2.1 - 1, by omega⟩
    rintro lg vs w ⟨t, hs, rfl, h, t0, t4⟩
    have h : mX B (s.1, s.2.1, updW s.2.2 (s.2.1 - 1) (fun x => if x < t.toInt.toNat then o_turn (s.2.2 (s.2.1 - 1) x) else s.2.2 (s.2.1 - 1) x)) km s.2.1 w := h
    have e4 : (Int32.ofInt 4).toInt = 4 := by decide
    obtain ⟨x, g1, ex⟩ := h.gv
    have em : (x - 1).toInt = (k : Int) := i_m1 (by rw [ex, ek])
    refine ⟨_, 60, hs, fun hc => ?_, fun hc => ?_⟩
    · have hc : (Int32.ofInt 4).toInt ≤ t.toInt := hc
      rw [e4] at hc
      refine ⟨rfl, h.ext (fun i hi y hy => ?_)⟩
      show updW s.2.2 (s.2.1 - 1) (fun x => if x < t.toInt.toNat then o_turn (s.2.2 (s.2.1 - 1) x) else s.2.2 (s.2.1 - 1) x) i y = updW s.2.2 (s.2.1 - 1) (fun x => o_turn (s.2.2 (s.2.1 - 1) x)) i y
      by_cases e : i = s.2.1 - 1
      · rw [e, updW_at, updW_at, if_pos (by omega)]
      · rw [updW_ne e, updW_ne e]
    · have hc : ¬ (Int32.ofInt 4).toInt ≤ t.toInt := hc
      rw [e4] at hc
      obtain ⟨i1, i2, i3⟩ := t_inc t0 (show t.toInt < 4 by omega)
      intro q e0 hq
      have ei : (Int32.ofInt 4 * (iv (eG fl_X12 162 (hof w.1 (B 343))) - 1) + t).toNatClampNeg = 4 * (s.2.1 - 1) + t.toInt.toNat := by
        rw [g1]
        show (Int32.ofInt 4 * (x - 1) + t).toInt.toNat = _
        rw [four_ix ⟨by omega, by omega⟩ t0 t4, nat_i em, ek]
        rfl
      have y := h.wv (j := s.2.1 - 1) h.g17 hq (u := eJ (hof w.1 (rv_ (eG fl_X12 17 (hof w.1 (B 343))))) (Int32.ofInt 4 * (iv (eG fl_X12 162 (hof w.1 (B 343))) - 1) + t).toNatClampNeg ^^^ m1_) ei (show t.toInt.toNat < 4 by omega)
      refine ⟨t + 1, ⟨rfl, rfl, trivial⟩, rfl, ?_, i1, i2⟩
      refine mX.ext y (fun i hi z hz => ?_)
      show updW (updW s.2.2 (s.2.1 - 1) (fun x => if x < t.toInt.toNat then o_turn (s.2.2 (s.2.1 - 1) x) else s.2.2 (s.2.1 - 1) x)) (s.2.1 - 1) _ i z = updW s.2.2 (s.2.1 - 1) (fun x => if x < (t + 1).toInt.toNat then o_turn (s.2.2 (s.2.1 - 1) x) else s.2.2 (s.2.1 - 1) x) i z
      by_cases e : i = s.2.1 - 1
      · rw [e, updW_at, updW_at, i3]
        by_cases ez : z = t.toInt.toNat
        · rw [if_pos ez, if_pos (by omega), ei, h.g17]
          show eJ (hof w.1 (B 346)) (4 * (s.2.1 - 1) + t.toInt.toNat) ^^^ m1_ = _
          rw [h.vl (show s.2.1 - 1 < s.2.1 by omega) (by omega)]
          show updW s.2.2 (s.2.1 - 1) (fun x => if x < t.toInt.toNat then o_turn (s.2.2 (s.2.1 - 1) x) else s.2.2 (s.2.1 - 1) x) (s.2.1 - 1) t.toInt.toNat ^^^ m1_ = _
          rw [updW_at, if_neg (Nat.lt_irrefl _), ez]
          rfl
        · rw [if_neg ez]
          show updW s.2.2 (s.2.1 - 1) (fun x => if x < t.toInt.toNat then o_turn (s.2.2 (s.2.1 - 1) x) else s.2.2 (s.2.1 - 1) x) (s.2.1 - 1) z = _
          rw [updW_at]
          by_cases hl : z < t.toInt.toNat
          · rw [if_pos hl, if_pos (by omega)]
          · rw [if_neg hl, if_neg (by omega)]
      · rw [updW_ne e, updW_ne e, updW_ne e]
  · obtain ⟨B, s, km⟩ := a
    obtain ⟨h, h0, h60⟩ := hp
    refine ⟨0, ⟨rfl, rfl, trivial⟩, rfl, mX.ext h (fun i hi y hy => ?_), by decide, by decide⟩
    show s.2.2 i y = updW s.2.2 (s.2.1 - 1) (fun x => if x < 0 then o_turn (s.2.2 (s.2.1 - 1) x) else s.2.2 (s.2.1 - 1) x) i y
    by_cases e : i = s.2.1 - 1
    · rw [e, updW_at, if_neg (Nat.not_lt_zero y)]
    · rw [updW_ne e]
/-- minus signs -/
abbrev tuA : Type := (Nat → Nat) × pS
def tu_F : tuA → List Value := fun (B, _) => [.ref (B 343)]
def in_u0 (B : Nat → Nat) (T : pS) : fL_ → List Value → lW → Prop := fun lg vs w => ∃ s : pS, f_sub [(0, false, .ref (B 343))] lg ∧ vs = [] ∧ mS B s w ∧ tdS s = T ∧ 0 < s.2.1 ∧ s.2.1 ≤ 60
def Sp_tu : fP lW := [(510, 1, fLr r_X12_turnTop)]
theorem Sp_tu_ok : f_sp T_X12_turned Sp_tu wW := List.forall_mem_cons.mpr ⟨sp_w rfl (fun _ _ _ _ _ _ h => h.2.2.1), fun _ h => absurd h List.not_mem_nil⟩
def in_u33 (B : Nat → Nat) (T : pS) : fL_ → List Value → lW → Prop := fun lg vs w => ∃ s : pS, f_sub [(0, false, .ref (B 343))] lg ∧ vs = [] ∧ mX B s (s.1.1 - 1) s.2.1 w ∧ tdS s = T ∧ (0 < s.2.1 ∧ s.2.1 ≤ 60) ∧ 0 < s.1.1 ∧ (s.1.2 (s.1.1 - 1)).toInt = 45
set_option maxHeartbeats 4000000 in
theorem s_X12_turned : ∀ (a : tuA) (w w' : lW) (rv : Option Value), fLr r_X12_turned (tu_F a) w rv w' → (mS a.1 a.2 w ∧ 0 < a.2.2.1 ∧ a.2.2.1 ≤ 60) → rv = none ∧ mS a.1 (tdS a.2) w' := by
  refine do_ofW tu_F (fun a w => mS a.1 a.2 w ∧ 0 < a.2.2.1 ∧ a.2.2.1 ≤ 60) (fun a _ rv w' => rv = none ∧ mS a.1 (tdS a.2) w') Sp_tu (fun a _ => [(0, in_u0 a.1 (tdS a.2)), (33, in_u33 a.1 (tdS a.2))]) 40 fo_X12 Sp_tu_ok k_X12_turned (fun a w0 hp => ?_) (fun a w0 hp hd0 => ?_)
  · obtain ⟨B, s0⟩ := a
    have e45 : (Int32.ofInt 45).toInt = 45 := by decide
    refine List.forall_mem_cons.mpr ⟨?_, List.forall_mem_cons.mpr ⟨?_, fun _ h => absurd h List.not_mem_nil⟩⟩
    · rintro lg vs w ⟨s, hs, rfl, h, eT, hv⟩
      have h : mX B s s.1.1 s.2.1 w := h
      have eT : tdS s = tdS s0 := eT
      obtain ⟨x, g1, ex⟩ := h.gm
      refine ⟨_, 40, hs, fun hc => ?_, fun hc => ⟨fun hd => ?_, fun hd => ?_⟩⟩
      · have hc : (iv (eG fl_X12 167 (hof w.1 (B 343)))).toInt ≤ 0 := hc
        rw [g1] at hc
        have hc : x.toInt ≤ 0 := hc
        refine ⟨rfl, ?_⟩
        show mS B (tdS s0) w
        rw [← eT, tdS_no (Or.inl (by omega))]
        exact h
      all_goals
        have hc : ¬ (iv (eG fl_X12 167 (hof w.1 (B 343)))).toInt ≤ 0 := hc
        rw [g1] at hc
        have hc : ¬ x.toInt ≤ 0 := hc
        obtain ⟨k, ek⟩ : ∃ k, s.1.1 = k + 1 := ⟨s.1.1 - 1, by omega⟩
        have em : (x - 1).toInt = (k : Int) := i_m1 (by rw [ex, ek])
        have er : eI (hof w.1 (rv_ (eG fl_X12 20 (hof w.1 (B 343))))) (iv (eG fl_X12 167 (hof w.1 (B 343))) - 1).toNatClampNeg = s.1.2 (s.1.1 - 1) := by
          rw [g1, h.g20]
          show eI (hof w.1 (B 347)) (x - 1).toInt.toNat = _
          rw [nat_i em, h.mk (by omega), ek]
          rfl
      · have hd : ¬ (eI (hof w.1 (rv_ (eG fl_X12 20 (hof w.1 (B 343))))) (iv (eG fl_X12 167 (hof w.1 (B 343))) - 1).toNatClampNeg).toInt = (Int32.ofInt 45).toInt := hd
        rw [er, e45] at hd
        refine ⟨rfl, ?_⟩
        show mS B (tdS s0) w
        rw [← eT, tdS_no (Or.inr hd)]
        exact h
      · have hd : ¬ ¬ (eI (hof w.1 (rv_ (eG fl_X12 20 (hof w.1 (B 343))))) (iv (eG fl_X12 167 (hof w.1 (B 343))) - 1).toNatClampNeg).toInt = (Int32.ofInt 45).toInt := hd
        rw [er, e45] at hd
        intro q e0 hq
        have hq : w.1[q]? = some (B 343, e0) := hq
        refine ⟨s, ⟨rfl, trivial⟩, rfl, ?_, eT, hv, (show 0 < s.1.1 by omega), Classical.not_not.mp hd⟩
        exact h.pm hq (x := x - 1) (show Value.int (iv (eG fl_X12 167 (hof w.1 (B 343))) - 1) = .int (x - 1) by rw [g1]; rfl) (by rw [em, ek]; rfl)
    · rintro lg vs w ⟨s, hs, rfl, h, eT, hv, h0, ht⟩
      have h : mX B s (s.1.1 - 1) s.2.1 w := h
      have eT : tdS s = tdS s0 := eT
      refine ⟨_, 40, hs, ?_⟩
      intro rv w1 hx
      have hx : fLr r_X12_turnTop [.ref (B 343)] w rv w1 := hx
      obtain ⟨rfl, a1⟩ := s_X12_turnTop (B, s, s.1.1 - 1) w w1 rv hx ⟨h, hv⟩
      have a1 : mX B (s.1, s.2.1, updW s.2.2 (s.2.1 - 1) (fun x => o_turn (s.2.2 (s.2.1 - 1) x))) (s.1.1 - 1) s.2.1 w1 := a1
      refine ⟨((s.1.1 - 1, s.1.2), s.2.1, updW s.2.2 (s.2.1 - 1) (fun x => o_turn (s.2.2 (s.2.1 - 1) x))), ⟨rfl, trivial⟩, rfl, ?_, ?_, hv⟩
      · exact a1.cut (by show s.1.1 - 1 ≤ s.1.1; omega) rfl (Nat.le_refl _) rfl
      · rw [← eT]
        exact (tdS_yes h0 ht).symm
  · obtain ⟨B, s0⟩ := a
    exact ⟨s0, ⟨rfl, trivial⟩, rfl, hp.1, rfl, hp.2⟩
end
section
/-! texts: the reference's reduce, pushes, operand -/
abbrev reA : Type := (Nat → Nat) × pS
def re_F : reA → List Value := fun (B, _) => [.ref (B 343)]
/-- a part done: the words below t -/
def prt (s : pS) (c : Int32) (t : Nat) : pS := (s.1, s.2.1, updW s.2.2 (s.2.1 - 2) (fun x => if x < t then rdV c (s.2.2 (s.2.1 - 2) x) (s.2.2 (s.2.1 - 1) x) else s.2.2 (s.2.1 - 2) x))
def in_e10 (B : Nat → Nat) (s : pS) : fL_ → List Value → lW → Prop := fun lg vs w => f_sub [(0, false, .ref (B 343))] lg ∧ vs = [] ∧ mX B s (s.1.1 - 1) s.2.1 w
def in_e30 (B : Nat → Nat) (s : pS) : fL_ → List Value → lW → Prop := fun lg vs w => f_sub [(1, false, .int (s.1.2 (s.1.1 - 1))), (0, false, .ref (B 343))] lg ∧ vs = [] ∧ mX B s (s.1.1 - 1) (s.2.1 - 1) w
def in_e32 (B : Nat → Nat) (s : pS) : fL_ → List Value → lW → Prop := fun lg vs w => ∃ t : Int32, f_sub [(2, false, .int t), (1, false, .int (s.1.2 (s.1.1 - 1))), (0, false, .ref (B 343))] lg ∧ vs = [] ∧ mX B (prt s (s.1.2 (s.1.1 - 1)) t.toInt.toNat) (s.1.1 - 1) (s.2.1 - 1) w ∧ 0 ≤ t.toInt ∧ t.toInt ≤ 4
def redS (s : pS) : pS := ((s.1.1 - 1, s.1.2), s.2.1 - 1, rdZ (s.1.2 (s.1.1 - 1)) s.2.2 s.2.1)
set_option maxHeartbeats 4000000 in
theorem s_X12_reduce : ∀ (a : reA) (w w' : lW) (rv : Option Value), fLr r_X12_reduce (re_F a) w rv w' → (mS a.1 a.2 w ∧ 0 < a.2.1.1 ∧ 2 ≤ a.2.2.1 ∧ a.2.2.1 ≤ 60) → rv = none ∧ mS a.1 (redS a.2) w' := by
  refine do_ofW re_F (fun a w => mS a.1 a.2 w ∧ 0 < a.2.1.1 ∧ 2 ≤ a.2.2.1 ∧ a.2.2.1 ≤ 60) (fun a _ rv w' => rv = none ∧ mS a.1 (redS a.2) w') [] (fun a _ => [(10, in_e10 a.1 a.2), (30, in_e30 a.1 a.2), (32, in_e32 a.1 a.2)]) 40 fo_X12 (fun _ h => absurd h List.not_mem_nil) k_X12_reduce (fun a w0 hp => ?_) (fun a w0 hp hd0 => ?_)
  · obtain ⟨B, s⟩ := a
    obtain ⟨-, m0, v2, v60⟩ := hp
    have m0 : 0 < s.1.1 := m0
    have v2 : 2 ≤ s.2.1 := v2
    have v60 : s.2.1 ≤ 60 := v60
    obtain ⟨k, ek⟩ : ∃ k, s.2.1 = k + 2 := ⟨s.2.1 - 2, by omega⟩
    refine List.forall_mem_cons.mpr ⟨?_, List.forall_mem_cons.mpr ⟨?_, List.forall_mem_cons.mpr ⟨?_, fun _ h => absurd h List.not_mem_nil⟩⟩⟩
    · rintro lg vs w ⟨hs, rfl, h⟩
      have h : mX B s (s.1.1 - 1) s.2.1 w := h
      obtain ⟨x, g1, ex⟩ := h.gm
      obtain ⟨y, g2, ey⟩ := h.gv
      refine ⟨_, 40, hs, ?_⟩
      intro q e0 hq
      have hq : w.1[q]? = some (B 343, e0) := hq
      have er : eI (hof w.1 (rv_ (eG fl_X12 20 (hof w.1 (B 343))))) (iv (eG fl_X12 167 (hof w.1 (B 343)))).toNatClampNeg = s.1.2 (s.1.1 - 1) := by
        rw [g1, h.g20]
        show eI (hof w.1 (B 347)) x.toInt.toNat = _
        rw [nat_i ex, h.mk (by omega)]
      refine ⟨⟨?_, rfl, trivial⟩, rfl, h.pv hq (x := y - 1) (show Value.int (iv (eG fl_X12 162 (hof w.1 (B 343))) - 1) = .int (y - 1) by rw [g2]; rfl) (by rw [ek, show k + 2 - 1 = k + 1 by omega]; exact i_m1 (by rw [ey, ek]))⟩
      show some (false, Value.int (eI (hof w.1 (rv_ (eG fl_X12 20 (hof w.1 (B 343))))) (iv (eG fl_X12 167 (hof w.1 (B 343)))).toNatClampNeg)) = _
      rw [er]
    · rintro lg vs w ⟨hs, rfl, h⟩
      have h : mX B s (s.1.1 - 1) (s.2.1 - 1) w := h
      refine ⟨_, 40, hs, 0, ⟨rfl, rfl, rfl, trivial⟩, rfl, mX.ext h (fun i hi y hy => ?_), by decide, by decide⟩
      show s.2.2 i y = updW s.2.2 (s.2.1 - 2) (fun x => if x < 0 then rdV (s.1.2 (s.1.1 - 1)) (s.2.2 (s.2.1 - 2) x) (s.2.2 (s.2.1 - 1) x) else s.2.2 (s.2.1 - 2) x) i y
      by_cases e : i = s.2.1 - 2
      · rw [e, updW_at, if_neg (Nat.not_lt_zero y)]
      · rw [updW_ne e]
    · rintro lg vs w ⟨t, hs, rfl, h, t0, t4⟩
      generalize ec : s.1.2 (s.1.1 - 1) = c at hs h
      have h : mX B (prt s c t.toInt.toNat) (s.1.1 - 1) (s.2.1 - 1) w := h
      have e4 : (Int32.ofInt 4).toInt = 4 := by decide
      have e38 : (Int32.ofInt 38).toInt = 38 := by decide
      have e124 : (Int32.ofInt 124).toInt = 124 := by decide
      obtain ⟨x, g1, ex⟩ := h.gv
      have ex : x.toInt = ((k + 1 : Nat) : Int) := by rw [ex, ek]; rfl
      have em : (x - 1).toInt = (k : Int) := i_m1 ex
      refine ⟨_, 80, hs, fun hc => ?_, fun hc => ?_⟩
      · have hc : (Int32.ofInt 4).toInt ≤ t.toInt := hc
        rw [e4] at hc
        refine ⟨rfl, ?_⟩
        show mX B ((s.1.1 - 1, s.1.2), s.2.1 - 1, rdZ (s.1.2 (s.1.1 - 1)) s.2.2 s.2.1) (s.1.1 - 1) (s.2.1 - 1) w
        have y : mX B (s.1, s.2.1, rdZ c s.2.2 s.2.1) (s.1.1 - 1) (s.2.1 - 1) w := mX.ext h (fun i hi y hy => by
          show updW s.2.2 (s.2.1 - 2) (fun x => if x < t.toInt.toNat then rdV c (s.2.2 (s.2.1 - 2) x) (s.2.2 (s.2.1 - 1) x) else s.2.2 (s.2.1 - 2) x) i y = updW s.2.2 (s.2.1 - 2) (fun x => rdV c (s.2.2 (s.2.1 - 2) x) (s.2.2 (s.2.1 - 1) x)) i y
          by_cases e : i = s.2.1 - 2
          · rw [e, updW_at, updW_at, if_pos (by omega)]
          · rw [updW_ne e, updW_ne e])
        rw [ec]
        exact y.cut (by show s.1.1 - 1 ≤ s.1.1; omega) rfl (by show s.2.1 - 1 ≤ s.2.1; omega) rfl
      have hc : ¬ (Int32.ofInt 4).toInt ≤ t.toInt := hc
      rw [e4] at hc
      obtain ⟨i1, i2, i3⟩ := t_inc t0 (show t.toInt < 4 by omega)
      have eiA : (Int32.ofInt 4 * (iv (eG fl_X12 162 (hof w.1 (B 343))) - 1) + t).toNatClampNeg = 4 * k + t.toInt.toNat := by
        rw [g1]
        show (Int32.ofInt 4 * (x - 1) + t).toInt.toNat = _
        rw [four_ix ⟨by omega, by omega⟩ t0 t4, nat_i em]
      have eiB : (Int32.ofInt 4 * iv (eG fl_X12 162 (hof w.1 (B 343))) + t).toNatClampNeg = 4 * (k + 1) + t.toInt.toNat := by
        rw [g1]
        show (Int32.ofInt 4 * x + t).toInt.toNat = _
        rw [four_ix ⟨by omega, by omega⟩ t0 t4, nat_i ex]
      have vA : eJ (hof w.1 (rv_ (eG fl_X12 17 (hof w.1 (B 343))))) (Int32.ofInt 4 * (iv (eG fl_X12 162 (hof w.1 (B 343))) - 1) + t).toNatClampNeg = s.2.2 k t.toInt.toNat := by
        rw [eiA, h.g17]
        show eJ (hof w.1 (B 346)) (4 * k + t.toInt.toNat) = _
        rw [h.vl (show k < s.2.1 by omega) (by omega)]
        show updW s.2.2 (s.2.1 - 2) (fun x => if x < t.toInt.toNat then rdV c (s.2.2 (s.2.1 - 2) x) (s.2.2 (s.2.1 - 1) x) else s.2.2 (s.2.1 - 2) x) k t.toInt.toNat = _
        rw [ek, show k + 2 - 2 = k by omega, updW_at, if_neg (Nat.lt_irrefl _)]
      have vB : eJ (hof w.1 (rv_ (eG fl_X12 17 (hof w.1 (B 343))))) (Int32.ofInt 4 * iv (eG fl_X12 162 (hof w.1 (B 343))) + t).toNatClampNeg = s.2.2 (k + 1) t.toInt.toNat := by
        rw [eiB, h.g17]
        show eJ (hof w.1 (B 346)) (4 * (k + 1) + t.toInt.toNat) = _
        rw [h.vl (show k + 1 < s.2.1 by omega) (by omega)]
        show updW s.2.2 (s.2.1 - 2) _ (k + 1) t.toInt.toNat = _
        rw [updW_ne (by omega)]
      have fin : ∀ {q : Nat} {e0 : va_E} {u : Int64} {L : fL_}, w.1[q]? = some (rv_ (eG fl_X12 17 (hof w.1 (B 343))), e0) → f_sub [(2, false, .int (t + 1)), (1, false, .int c), (0, false, .ref (B 343))] L → u = rdV c (s.2.2 k t.toInt.toNat) (s.2.2 (k + 1) t.toInt.toNat) → in_e32 B s L [] (w.1.set q (rv_ (eG fl_X12 17 (hof w.1 (B 343))), sJ (Int32.ofInt 4 * (iv (eG fl_X12 162 (hof w.1 (B 343))) - 1) + t).toNatClampNeg u (hof w.1 (rv_ (eG fl_X12 17 (hof w.1 (B 343)))))), w.2) := by
        intro q e0 u L hq hL hu
        have y := h.wv (j := k) h.g17 hq (u := u) eiA (show t.toInt.toNat < 4 by omega)
        refine ⟨t + 1, by rw [ec]; exact hL, rfl, ?_, i1, i2⟩
        rw [ec]
        refine mX.ext y (fun i hi z hz => ?_)
        show updW (updW s.2.2 (s.2.1 - 2) (fun x => if x < t.toInt.toNat then rdV c (s.2.2 (s.2.1 - 2) x) (s.2.2 (s.2.1 - 1) x) else s.2.2 (s.2.1 - 2) x)) k (fun x => if x = t.toInt.toNat then u else updW s.2.2 (s.2.1 - 2) (fun x => if x < t.toInt.toNat then rdV c (s.2.2 (s.2.1 - 2) x) (s.2.2 (s.2.1 - 1) x) else s.2.2 (s.2.1 - 2) x) k x) i z = updW s.2.2 (s.2.1 - 2) (fun x => if x < (t + 1).toInt.toNat then rdV c (s.2.2 (s.2.1 - 2) x) (s.2.2 (s.2.1 - 1) x) else s.2.2 (s.2.1 - 2) x) i z
        rw [ek, show k + 2 - 2 = k by omega, show k + 2 - 1 = k + 1 by omega, i3]
        by_cases e : i = k
        · rw [e, updW_at, updW_at, updW_at]
          by_cases ez : z = t.toInt.toNat
          · rw [if_pos ez, if_pos (by omega), hu, ez]
          · rw [if_neg ez]
            by_cases hl : z < t.toInt.toNat
            · rw [if_pos hl, if_pos (by omega)]
            · rw [if_neg hl, if_neg (by omega)]
        · rw [updW_ne e, updW_ne e, updW_ne e]
      refine ⟨fun h1 => ⟨fun h2 => ?_, fun h2 => ?_⟩, fun h1 => ?_⟩
      · have h1 : ¬ c.toInt = (Int32.ofInt 38).toInt := h1
        rw [e38] at h1
        have h2 : ¬ c.toInt = (Int32.ofInt 124).toInt := h2
        rw [e124] at h2
        intro q e0 hq
        refine fin (u := (eJ (hof w.1 (rv_ (eG fl_X12 17 (hof w.1 (B 343))))) (Int32.ofInt 4 * (iv (eG fl_X12 162 (hof w.1 (B 343))) - 1) + t).toNatClampNeg ^^^ m1_) ||| eJ (hof w.1 (rv_ (eG fl_X12 17 (hof w.1 (B 343))))) (Int32.ofInt 4 * iv (eG fl_X12 162 (hof w.1 (B 343))) + t).toNatClampNeg) hq ⟨rfl, rfl, rfl, trivial⟩ ?_
        rw [vA, vB]
        unfold rdV
        rw [if_neg h1, if_neg h2]
        rfl
      · have h1 : ¬ c.toInt = (Int32.ofInt 38).toInt := h1
        rw [e38] at h1
        have h2 : ¬ ¬ c.toInt = (Int32.ofInt 124).toInt := h2
        rw [e124] at h2
        intro q e0 hq
        refine fin (u := eJ (hof w.1 (rv_ (eG fl_X12 17 (hof w.1 (B 343))))) (Int32.ofInt 4 * (iv (eG fl_X12 162 (hof w.1 (B 343))) - 1) + t).toNatClampNeg ||| eJ (hof w.1 (rv_ (eG fl_X12 17 (hof w.1 (B 343))))) (Int32.ofInt 4 * iv (eG fl_X12 162 (hof w.1 (B 343))) + t).toNatClampNeg) hq ⟨rfl, rfl, rfl, trivial⟩ ?_
        rw [vA, vB]
        unfold rdV
        rw [if_neg h1, if_pos (Classical.not_not.mp h2)]
        rfl
      · have h1 : ¬ ¬ c.toInt = (Int32.ofInt 38).toInt := h1
        rw [e38] at h1
        intro q e0 hq
        refine fin (u := eJ (hof w.1 (rv_ (eG fl_X12 17 (hof w.1 (B 343))))) (Int32.ofInt 4 * (iv (eG fl_X12 162 (hof w.1 (B 343))) - 1) + t).toNatClampNeg &&& eJ (hof w.1 (rv_ (eG fl_X12 17 (hof w.1 (B 343))))) (Int32.ofInt 4 * iv (eG fl_X12 162 (hof w.1 (B 343))) + t).toNatClampNeg) hq ⟨rfl, rfl, rfl, trivial⟩ ?_
        rw [vA, vB]
        unfold rdV
        rw [if_pos (Classical.not_not.mp h1)]
        rfl
  · obtain ⟨B, s⟩ := a
    obtain ⟨h, m0, -, -⟩ := hp
    have h : mX B s s.1.1 s.2.1 w0 := h
    have m0 : 0 < s.1.1 := m0
    obtain ⟨k, ek⟩ : ∃ k, s.1.1 = k + 1 := ⟨s.1.1 - 1, by omega⟩
    obtain ⟨x, g1, ex⟩ := h.gm
    intro q e0 hq
    have hq : w0.1[q]? = some (B 343, e0) := hq
    exact ⟨⟨rfl, trivial⟩, rfl, h.pm hq (x := x - 1) (show Value.int (iv (eG fl_X12 167 (hof w0.1 (B 343))) - 1) = .int (x - 1) by rw [g1]; rfl) (by rw [ek, Nat.add_sub_cancel]; exact i_m1 (by rw [ex, ek]))⟩
/-- a constant value pushed -/
abbrev plA : Type := (Nat → Nat) × pS × Bool
def pl_F : plA → List Value := fun (B, _, b) => [.ref (B 343), .int (wv b)]
def cW (b : Bool) : Int64 := if b = true then m1_ else 0
def in_pl (B : Nat → Nat) (s : pS) (b : Bool) : fL_ → List Value → lW → Prop := fun lg vs w => ∃ (t : Int32) (G : Nat → Int64), f_sub [(2, false, .int t), (0, false, .ref (B 343)), (1, false, .int (wv b))] lg ∧ vs = [] ∧ mX B (s.1, s.2.1 + 1, updW s.2.2 s.2.1 G) s.1.1 s.2.1 w ∧ 0 ≤ t.toInt ∧ t.toInt ≤ 4 ∧ ∀ x, x < t.toInt.toNat → G x = cW b
def pshV (f : Nat → Int64) (s : pS) : pS := (s.1, s.2.1 + 1, updW s.2.2 s.2.1 f)
set_option maxHeartbeats 4000000 in
theorem s_X12_pushAll : ∀ (a : plA) (w w' : lW) (rv : Option Value), fLr r_X12_pushAll (pl_F a) w rv w' → (mS a.1 a.2.1 w ∧ a.2.1.2.1 < 60) → rv = none ∧ mS a.1 (pshV (fun _ => cW a.2.2) a.2.1) w' := by
  refine do_ofW pl_F (fun a w => mS a.1 a.2.1 w ∧ a.2.1.2.1 < 60) (fun a _ rv w' => rv = none ∧ mS a.1 (pshV (fun _ => cW a.2.2) a.2.1) w') [] (fun a _ => [(2, in_pl a.1 a.2.1 a.2.2)]) 40 fo_X12 (fun _ h => absurd h List.not_mem_nil) k_X12_pushAll (fun a w0 hp => ?_) (fun a w0 hp hd0 => ?_)
  · refine List.forall_mem_cons.mpr ⟨?_, fun _ h => absurd h List.not_mem_nil⟩
    obtain ⟨B, s, b⟩ := a
    obtain ⟨-, h60⟩ := hp
    have h60 : s.2.1 < 60 := h60
    rintro lg vs w ⟨t, G, hs, rfl, h, t0, t4, hG⟩
    have h : mX B (s.1, s.2.1 + 1, updW s.2.2 s.2.1 G) s.1.1 s.2.1 w := h
    have e4 : (Int32.ofInt 4).toInt = 4 := by decide
    obtain ⟨x, g1, ex⟩ := h.gv
    refine ⟨_, 60, hs, fun hc => ?_, fun hc => ?_⟩
    · have hc : (Int32.ofInt 4).toInt ≤ t.toInt := hc
      rw [e4] at hc
      intro q e0 hq
      have hq : w.1[q]? = some (B 343, e0) := hq
      refine ⟨rfl, ?_⟩
      have y := h.pv hq (x := x + 1) (show Value.int (iv (eG fl_X12 162 (hof w.1 (B 343))) + 1) = .int (x + 1) by rw [g1]; rfl) (i_p1 ex (by omega))
      refine mX.ext y (fun i hi z hz => ?_)
      show updW s.2.2 s.2.1 G i z = updW s.2.2 s.2.1 (fun _ => cW b) i z
      by_cases e : i = s.2.1
      · rw [e, updW_at, updW_at]
        exact hG z (by omega)
      · rw [updW_ne e, updW_ne e]
    · have hc : ¬ (Int32.ofInt 4).toInt ≤ t.toInt := hc
      rw [e4] at hc
      obtain ⟨i1, i2, i3⟩ := t_inc t0 (show t.toInt < 4 by omega)
      have ei : (Int32.ofInt 4 * iv (eG fl_X12 162 (hof w.1 (B 343))) + t).toNatClampNeg = 4 * s.2.1 + t.toInt.toNat := by
        rw [g1]
        show (Int32.ofInt 4 * x + t).toInt.toNat = _
        rw [four_ix ⟨by omega, by omega⟩ t0 t4, nat_i ex]
      have fin : ∀ {q : Nat} {e0 : va_E} {u : Int64} {L : fL_}, w.1[q]? = some (rv_ (eG fl_X12 17 (hof w.1 (B 343))), e0) → f_sub [(2, false, .int (t + 1)), (0, false, .ref (B 343)), (1, false, .int (wv b))] L → u = cW b → in_pl B s b L [] (w.1.set q (rv_ (eG fl_X12 17 (hof w.1 (B 343))), sJ (Int32.ofInt 4 * iv (eG fl_X12 162 (hof w.1 (B 343))) + t).toNatClampNeg u (hof w.1 (rv_ (eG fl_X12 17 (hof w.1 (B 343)))))), w.2) := by
        intro q e0 u L hq hL hu
        have y := h.wv (j := s.2.1) h.g17 hq (u := u) ei (show t.toInt.toNat < 4 by omega)
        refine ⟨t + 1, fun x => if x = t.toInt.toNat then u else G x, hL, rfl, ?_, i1, i2, fun z hz => ?_⟩
        · refine mX.ext y (fun i hi z hz => ?_)
          show updW (updW s.2.2 s.2.1 G) s.2.1 (fun x => if x = t.toInt.toNat then u else updW s.2.2 s.2.1 G s.2.1 x) i z = updW s.2.2 s.2.1 (fun x => if x = t.toInt.toNat then u else G x) i z
          by_cases e : i = s.2.1
          · rw [e, updW_at, updW_at, updW_at]
          · rw [updW_ne e, updW_ne e, updW_ne e]
        · rw [i3] at hz
          show (if z = t.toInt.toNat then u else G z) = cW b
          by_cases ez : z = t.toInt.toNat
          · rw [if_pos ez, hu]
          · rw [if_neg ez]
            exact hG z (by omega)
      cases b with
      | true =>
        refine ⟨fun hb => absurd (show (1 : Int32).toInt = 0 from hb) (by decide), fun _ => ?_⟩
        intro q e0 hq
        exact fin hq ⟨rfl, rfl, rfl, trivial⟩ rfl
      | false =>
        refine ⟨fun _ => ?_, fun hb => absurd (show (0 : Int32).toInt = 0 by decide) hb⟩
        intro q e0 hq
        exact fin hq ⟨rfl, rfl, rfl, trivial⟩ rfl
  · obtain ⟨B, s, b⟩ := a
    obtain ⟨h, -⟩ := hp
    obtain ⟨G, hG⟩ := mX.up h
    exact ⟨0, G, ⟨rfl, rfl, rfl, trivial⟩, rfl, hG, by decide, by decide, fun x hx => absurd hx (Nat.not_lt_zero x)⟩
end
section
/-! texts: a letter's value, operands and operators of the reference -/
def hb (a : Int64) (k : Int32) : Prop := ((a.toUInt64 >>> (k.toInt64.toUInt64 &&& Int64.toUInt64 63)).toInt64 &&& Int64.ofNat 1).toInt = (Int64.ofNat 1).toInt
def hbB (a : Int64) (k : Int32) : Bool := decide (((a.toUInt64 >>> (k.toInt64.toUInt64 &&& Int64.toUInt64 63)).toInt64 &&& Int64.ofNat 1).toInt = (Int64.ofNat 1).toInt)
theorem hbB_t {a : Int64} {k : Int32} : hbB a k = true ↔ hb a k := decide_eq_true_iff
theorem s_X12_hasBit : f_do r_X12_hasBit (fun As h rv h' => ∀ a : Int64 × Int32, As = [.long a.1, .int a.2] → True → h' = h ∧ rv = some (.int (wv (hbB a.1 a.2)))) := by
  refine do_ofP (fun a : Int64 × Int32 => [.long a.1, .int a.2]) (fun _ _ => True) (fun a h rv h' => h' = h ∧ rv = some (.int (wv (hbB a.1 a.2)))) [] (fun _ _ => []) 40 fo_X12 no_sp k_X12_hasBit (fun _ _ _ => no_hd) (fun a h0 _ => ?_)
  obtain ⟨a, k⟩ := a
  refine ⟨fun h => ?_, fun h => ?_⟩
  · have h : ck_cm .ne (lg_cmp ((a.toUInt64 >>> (k.toInt64.toUInt64 &&& Int64.toUInt64 63)).toInt64 &&& Int64.ofNat 1) (Int64.ofNat 1)).toInt 0 := h
    have h : ¬ hb a k := ck_cm_lg.mp h
    refine ⟨rfl, ?_⟩
    show some (Value.int 0) = some (.int (wv (hbB a k)))
    rw [show hbB a k = false from Bool.eq_false_iff.mpr (fun z => h (hbB_t.mp z))]
    rfl
  · have h : ¬ ck_cm .ne (lg_cmp ((a.toUInt64 >>> (k.toInt64.toUInt64 &&& Int64.toUInt64 63)).toInt64 &&& Int64.ofNat 1) (Int64.ofNat 1)).toInt 0 := h
    have h : ¬ ¬ hb a k := fun z => h (ck_cm_lg.mpr z)
    refine ⟨rfl, ?_⟩
    show some (Value.int 1) = some (.int (wv (hbB a k)))
    rw [hbB_t.mpr (Classical.not_not.mp h)]
    rfl
/-- the word of a letter, bit by bit -/
def lpA (l t : Nat) : Nat → Int64
  | 0 => Int64.ofNat 0
  | n + 1 => lpA l t n ||| (if hbB (Int32.ofNat (64 * t + n)).toInt64 (Int32.ofNat l) = true then Int64.ofNat 1 <<< ((Int32.ofNat n).toInt64 &&& 63) else Int64.ofNat 0)
theorem lpA_ok : ∀ l, l < 8 → ∀ t, t < 4 → lpA l t 64 = ltW l t := by decide +kernel
theorem n32_of {t : Int32} {n : Nat} (h : t.toInt = (n : Int)) : t = Int32.ofNat n := by
  have h2 : t = Int32.ofInt (n : Int) := i32_of h
  rw [h2]
  rfl
abbrev puA : Type := (Nat → Nat) × pS × Int32
def pu_F : puA → List Value := fun (B, _, l) => [.ref (B 343), .int l]
def in_p2 (B : Nat → Nat) (s : pS) (l : Int32) : fL_ → List Value → lW → Prop := fun lg vs w => ∃ (t : Int32) (G : Nat → Int64), f_sub [(2, false, .int t), (0, false, .ref (B 343)), (1, false, .int l)] lg ∧ vs = [] ∧ mX B (s.1, s.2.1 + 1, updW s.2.2 s.2.1 G) s.1.1 s.2.1 w ∧ 0 ≤ t.toInt ∧ t.toInt ≤ 4 ∧ ∀ x, x < t.toInt.toNat → G x = ltW l.toInt.toNat x
def in_p12 (B : Nat → Nat) (s : pS) (l : Int32) : fL_ → List Value → lW → Prop := fun lg vs w => ∃ (t u : Int32) (G : Nat → Int64), f_sub [(5, false, .int u), (3, true, .long (lpA l.toInt.toNat t.toInt.toNat u.toInt.toNat)), (2, false, .int t), (0, false, .ref (B 343)), (1, false, .int l)] lg ∧ vs = [] ∧ mX B (s.1, s.2.1 + 1, updW s.2.2 s.2.1 G) s.1.1 s.2.1 w ∧ (0 ≤ t.toInt ∧ t.toInt < 4) ∧ (0 ≤ u.toInt ∧ u.toInt ≤ 64) ∧ ∀ x, x < t.toInt.toNat → G x = ltW l.toInt.toNat x
def Sp_pu : fP lW := [(475, 2, fLr r_X12_hasBit)]
theorem Sp_pu_ok : f_sp T_X12_pushLetter Sp_pu wW := List.forall_mem_cons.mpr ⟨sp_w rfl (fun _ _ _ _ _ _ h => h.2.2.1), fun _ h => absurd h List.not_mem_nil⟩
set_option maxHeartbeats 4000000 in
theorem s_X12_pushLetter : ∀ (a : puA) (w w' : lW) (rv : Option Value), fLr r_X12_pushLetter (pu_F a) w rv w' → (mS a.1 a.2.1 w ∧ a.2.1.2.1 < 60 ∧ 0 ≤ a.2.2.toInt ∧ a.2.2.toInt < 8) → rv = none ∧ mS a.1 (pshV (ltW a.2.2.toInt.toNat) a.2.1) w' := by
  refine do_ofW pu_F (fun a w => mS a.1 a.2.1 w ∧ a.2.1.2.1 < 60 ∧ 0 ≤ a.2.2.toInt ∧ a.2.2.toInt < 8) (fun a _ rv w' => rv = none ∧ mS a.1 (pshV (ltW a.2.2.toInt.toNat) a.2.1) w') Sp_pu (fun a _ => [(2, in_p2 a.1 a.2.1 a.2.2), (12, in_p12 a.1 a.2.1 a.2.2)]) 40 fo_X12 Sp_pu_ok k_X12_pushLetter (fun a w0 hp => ?_) (fun a w0 hp hd0 => ?_)
  · obtain ⟨B, s, l⟩ := a
    obtain ⟨-, h60, l0, l8⟩ := hp
    have h60 : s.2.1 < 60 := h60
    have l0 : 0 ≤ l.toInt := l0
    have l8 : l.toInt < 8 := l8
    have e4 : (Int32.ofInt 4).toInt = 4 := by decide
    have e64 : (Int32.ofInt 64).toInt = 64 := by decide
    refine List.forall_mem_cons.mpr ⟨?_, List.forall_mem_cons.mpr ⟨?_, fun _ h => absurd h List.not_mem_nil⟩⟩
    · rintro lg vs w ⟨t, G, hs, rfl, h, t0, t4, hG⟩
      have h : mX B (s.1, s.2.1 + 1, updW s.2.2 s.2.1 G) s.1.1 s.2.1 w := h
      obtain ⟨x, g1, ex⟩ := h.gv
      refine ⟨_, 60, hs, fun hc => ?_, fun hc => ?_⟩
      · have hc : (Int32.ofInt 4).toInt ≤ t.toInt := hc
        rw [e4] at hc
        intro q e0 hq
        have hq : w.1[q]? = some (B 343, e0) := hq
        refine ⟨rfl, ?_⟩
        have y := h.pv hq (x := x + 1) (show Value.int (iv (eG fl_X12 162 (hof w.1 (B 343))) + 1) = .int (x + 1) by rw [g1]; rfl) (i_p1 ex (by omega))
        refine mX.ext y (fun i hi z hz => ?_)
        show updW s.2.2 s.2.1 G i z = updW s.2.2 s.2.1 (ltW l.toInt.toNat) i z
        by_cases e : i = s.2.1
        · rw [e, updW_at, updW_at]
          exact hG z (by omega)
        · rw [updW_ne e, updW_ne e]
      · have hc : ¬ (Int32.ofInt 4).toInt ≤ t.toInt := hc
        rw [e4] at hc
        exact ⟨t, 0, G, ⟨rfl, rfl, rfl, rfl, rfl, trivial⟩, rfl, h, ⟨t0, by omega⟩, by decide, hG⟩
    · rintro lg vs w ⟨t, u, G, hs, rfl, h, ⟨t0, t4⟩, ⟨u0, u64⟩, hG⟩
      have h : mX B (s.1, s.2.1 + 1, updW s.2.2 s.2.1 G) s.1.1 s.2.1 w := h
      refine ⟨_, 80, hs, fun hc => ?_, fun hc => ?_⟩
      · have hc : (Int32.ofInt 64).toInt ≤ u.toInt := hc
        rw [e64] at hc
        obtain ⟨x, g1, ex⟩ := h.gv
        obtain ⟨i1, i2, i3⟩ := t_inc t0 t4
        have eu : u.toInt.toNat = 64 := by omega
        intro q e0 hq
        have ei : (Int32.ofInt 4 * iv (eG fl_X12 162 (hof w.1 (B 343))) + t).toNatClampNeg = 4 * s.2.1 + t.toInt.toNat := by
          rw [g1]
          show (Int32.ofInt 4 * x + t).toInt.toNat = _
          rw [four_ix ⟨by omega, by omega⟩ t0 (by omega), nat_i ex]
        have y := h.wv (j := s.2.1) h.g17 hq (u := lpA l.toInt.toNat t.toInt.toNat u.toInt.toNat) ei (show t.toInt.toNat < 4 by omega)
        refine ⟨t + 1, fun x => if x = t.toInt.toNat then lpA l.toInt.toNat t.toInt.toNat u.toInt.toNat else G x, ⟨rfl, rfl, rfl, trivial⟩, rfl, ?_, i1, i2, fun z hz => ?_⟩
        · refine mX.ext y (fun i hi z hz => ?_)
          show updW (updW s.2.2 s.2.1 G) s.2.1 (fun x => if x = t.toInt.toNat then lpA l.toInt.toNat t.toInt.toNat u.toInt.toNat else updW s.2.2 s.2.1 G s.2.1 x) i z = updW s.2.2 s.2.1 (fun x => if x = t.toInt.toNat then lpA l.toInt.toNat t.toInt.toNat u.toInt.toNat else G x) i z
          by_cases e : i = s.2.1
          · rw [e, updW_at, updW_at, updW_at]
          · rw [updW_ne e, updW_ne e, updW_ne e]
        · rw [i3] at hz
          show (if z = t.toInt.toNat then lpA l.toInt.toNat t.toInt.toNat u.toInt.toNat else G z) = ltW l.toInt.toNat z
          by_cases ez : z = t.toInt.toNat
          · rw [if_pos ez, eu, ez]
            exact lpA_ok _ (by omega) _ (by omega)
          · rw [if_neg ez]
            exact hG z (by omega)
      · have hc : ¬ (Int32.ofInt 64).toInt ≤ u.toInt := hc
        rw [e64] at hc
        have n1 : (Int32.ofInt 64 * t + u) = Int32.ofNat (64 * t.toInt.toNat + u.toInt.toNat) := by
          have m1 : (Int32.ofInt 64 * t).toInt = 64 * t.toInt := by
            rw [i_mul (by rw [e64]; omega) (by rw [e64]; omega), e64]
          refine n32_of ?_
          rw [i_add (by rw [m1]; omega) (by rw [m1]; omega), m1]
          omega
        have n2 : u = Int32.ofNat u.toInt.toNat := n32_of (by omega)
        have n3 : l = Int32.ofNat l.toInt.toNat := n32_of (by omega)
        have iu : (u + 1).toInt = u.toInt + 1 := i_inc u0 (by omega)
        intro rv w1 hx
        have hx : fLr r_X12_hasBit [.long (Int32.ofInt 64 * t + u).toInt64, .int l] w rv w1 := hx
        have h1 := h.keep hx (by decide) (by decide)
        obtain ⟨-, er⟩ := (s_X12_hasBit _ _ _ _ _ _ hx).2 ((Int32.ofInt 64 * t + u).toInt64, l) rfl trivial
        have er : rv = some (.int (wv (hbB (Int32.ofInt 64 * t + u).toInt64 l))) := er
        have nx : ∀ {z : Int64} {L : fL_}, f_sub [(5, false, .int (u + 1)), (3, true, .long (lpA l.toInt.toNat t.toInt.toNat u.toInt.toNat ||| z)), (2, false, .int t), (0, false, .ref (B 343)), (1, false, .int l)] L → z = (if hbB (Int32.ofNat (64 * t.toInt.toNat + u.toInt.toNat)).toInt64 (Int32.ofNat l.toInt.toNat) = true then Int64.ofNat 1 <<< ((Int32.ofNat u.toInt.toNat).toInt64 &&& 63) else Int64.ofNat 0) → in_p12 B s l L [] w1 := by
          intro z L hL hz
          subst hz
          refine ⟨t, u + 1, G, ?_, rfl, h1, ⟨t0, t4⟩, ⟨by omega, by omega⟩, hG⟩
          rw [show (u + 1).toInt.toNat = u.toInt.toNat + 1 by omega]
          exact hL
        obtain ⟨b, eb⟩ : ∃ b, hbB (Int32.ofInt 64 * t + u).toInt64 l = b := ⟨_, rfl⟩
        rw [eb] at er
        subst er
        rw [n1] at eb
        cases b with
        | true =>
          refine ⟨fun hb => absurd (show (1 : Int32).toInt = 0 from hb) (by decide), fun _ => ?_⟩
          refine nx ⟨rfl, rfl, rfl, rfl, rfl, trivial⟩ ?_
          rw [← n3, eb, if_pos rfl, ← n2]
          rfl
        | false =>
          refine ⟨fun _ => ?_, fun hb => absurd (show (0 : Int32).toInt = 0 by decide) hb⟩
          refine nx ⟨rfl, rfl, rfl, rfl, rfl, trivial⟩ ?_
          rw [← n3, eb, if_neg (by decide)]
          rfl
  · obtain ⟨B, s, l⟩ := a
    obtain ⟨h, -, -, -⟩ := hp
    obtain ⟨G, hG⟩ := mX.up h
    exact ⟨0, G, ⟨rfl, rfl, rfl, trivial⟩, rfl, hG, by decide, by decide, fun x hx => absurd hx (Nat.not_lt_zero x)⟩
/-- operand: a sign pushed, or a value -/
def mpA (c : Int32) (s : pS) : pS := if c.toInt = 45 ∨ c.toInt = 40 then psh c s else tdS (valS c s)
def in_mo22 (B : Nat → Nat) (s : pS) (c : Int32) : fL_ → List Value → lW → Prop := fun lg vs w => f_sub [(0, false, .ref (B 343))] lg ∧ vs = [] ∧ mX B (psh c s) s.1.1 s.2.1 w ∧ (c.toInt = 45 ∨ c.toInt = 40)
def in_mo67 (B : Nat → Nat) (s : pS) (c : Int32) : fL_ → List Value → lW → Prop := fun lg vs w => f_sub [(0, false, .ref (B 343))] lg ∧ vs = [] ∧ mS B (valS c s) w ∧ ¬ (c.toInt = 45 ∨ c.toInt = 40)
def Sp_mo : fP lW := [(519, 2, fLr r_X12_pushLetter), (531, 2, fLr r_X12_pushAll), (543, 1, fLr r_X12_turned)]
theorem Sp_mo_ok : f_sp T_X12_operand Sp_mo wW := List.forall_mem_cons.mpr ⟨sp_w rfl (fun _ _ _ _ _ _ h => h.2.2.1), List.forall_mem_cons.mpr ⟨sp_w rfl (fun _ _ _ _ _ _ h => h.2.2.1), List.forall_mem_cons.mpr ⟨sp_w rfl (fun _ _ _ _ _ _ h => h.2.2.1), fun _ h => absurd h List.not_mem_nil⟩⟩⟩
set_option maxHeartbeats 4000000 in
theorem s_X12_operand : ∀ (a : puA) (w w' : lW) (rv : Option Value), fLr r_X12_operand (pu_F a) w rv w' → (mS a.1 a.2.1 w ∧ (a.2.1.2.1 < 59 ∧ a.2.1.1.1 < 60) ∧ (a.2.2.toInt = 45 ∨ a.2.2.toInt = 40 ∨ okc a.2.2)) → rv = none ∧ mS a.1 (mpA a.2.2 a.2.1) w' := by
  refine do_ofW pu_F (fun a w => mS a.1 a.2.1 w ∧ (a.2.1.2.1 < 59 ∧ a.2.1.1.1 < 60) ∧ (a.2.2.toInt = 45 ∨ a.2.2.toInt = 40 ∨ okc a.2.2)) (fun a _ rv w' => rv = none ∧ mS a.1 (mpA a.2.2 a.2.1) w') Sp_mo (fun a _ => [(22, in_mo22 a.1 a.2.1 a.2.2), (67, in_mo67 a.1 a.2.1 a.2.2)]) 40 fo_X12 Sp_mo_ok k_X12_operand (fun a w0 hp => ?_) (fun a w0 hp hd0 => ?_)
  · obtain ⟨B, s, c⟩ := a
    obtain ⟨-, ⟨v59, m60⟩, -⟩ := hp
    have v59 : s.2.1 < 59 := v59
    have m60 : s.1.1 < 60 := m60
    refine List.forall_mem_cons.mpr ⟨?_, List.forall_mem_cons.mpr ⟨?_, fun _ h => absurd h List.not_mem_nil⟩⟩
    · rintro lg vs w ⟨hs, rfl, h, hc⟩
      have h : mX B (psh c s) s.1.1 s.2.1 w := h
      obtain ⟨x, g1, ex⟩ := h.gm
      refine ⟨_, 40, hs, ?_⟩
      intro q e0 hq
      have hq : w.1[q]? = some (B 343, e0) := hq
      refine ⟨rfl, ?_⟩
      have y := h.pm hq (x := x + 1) (show Value.int (iv (eG fl_X12 167 (hof w.1 (B 343))) + 1) = .int (x + 1) by rw [g1]; rfl) (i_p1 ex (by omega))
      have e : mpA c s = psh c s := if_pos hc
      show mS B (mpA c s) _
      rw [e]
      exact y
    · rintro lg vs w ⟨hs, rfl, h, hc⟩
      have h : mS B (valS c s) w := h
      refine ⟨_, 40, hs, ?_⟩
      intro rv w1 hx
      have hx : fLr r_X12_turned [.ref (B 343)] w rv w1 := hx
      obtain ⟨rfl, a1⟩ := s_X12_turned (B, valS c s) w w1 rv hx ⟨h, (show 0 < s.2.1 + 1 by omega), (show s.2.1 + 1 ≤ 60 by omega)⟩
      refine ⟨rfl, ?_⟩
      have e : mpA c s = tdS (valS c s) := if_neg hc
      show mS B (mpA c s) w1
      rw [e]
      exact a1
  · obtain ⟨B, s, c⟩ := a
    obtain ⟨h, ⟨v59, m60⟩, hcs⟩ := hp
    have h : mX B s s.1.1 s.2.1 w0 := h
    have v59 : s.2.1 < 59 := v59
    have hcs : c.toInt = 45 ∨ c.toInt = 40 ∨ okc c := hcs
    have e45 : (Int32.ofInt 45).toInt = 45 := by decide
    have e40 : (Int32.ofInt 40).toInt = 40 := by decide
    have e97 : (Int32.ofInt 97).toInt = 97 := by decide
    have e49 : (Int32.ofInt 49).toInt = 49 := by decide
    obtain ⟨x, g1, ex⟩ := h.gm
    have psg : ∀ {q : Nat} {e0 : va_E} {L : fL_}, (c.toInt = 45 ∨ c.toInt = 40) → w0.1[q]? = some (rv_ (eG fl_X12 20 (hof w0.1 (B 343))), e0) → f_sub [(0, false, .ref (B 343))] L → in_mo22 B s c L [] (w0.1.set q (rv_ (eG fl_X12 20 (hof w0.1 (B 343))), sI (iv (eG fl_X12 167 (hof w0.1 (B 343)))).toNatClampNeg c (hof w0.1 (rv_ (eG fl_X12 20 (hof w0.1 (B 343)))))), w0.2) := by
      intro q e0 L hc hq hL
      refine ⟨hL, rfl, h.w347 h.g20 hq ?_, hc⟩
      show (iv (eG fl_X12 167 (hof w0.1 (B 343)))).toInt.toNat = s.1.1
      rw [g1]
      exact nat_i ex
    refine ⟨fun h1 => ?_, fun h1 => ⟨fun h2 => ⟨fun h3 => ⟨fun h4 => ?_, fun h4 => ?_⟩, fun h3 => ?_⟩, fun h2 => ?_⟩⟩
    · have h1 : c.toInt = (Int32.ofInt 45).toInt := h1
      rw [e45] at h1
      intro q e0 hq
      exact psg (Or.inl h1) hq ⟨rfl, trivial⟩
    · have h1 : ¬ c.toInt = (Int32.ofInt 45).toInt := h1
      rw [e45] at h1
      have h2 : ¬ c.toInt = (Int32.ofInt 40).toInt := h2
      rw [e40] at h2
      have h3 : c.toInt < (Int32.ofInt 97).toInt := h3
      rw [e97] at h3
      have h4 : ¬ c.toInt = (Int32.ofInt 49).toInt := h4
      rw [e49] at h4
      have h48 : c.toInt = 48 := by
        have y := (hcs.resolve_left h1).resolve_left h2
        unfold okc at y
        omega
      intro rv w1 hx
      have hx : fLr r_X12_pushAll [.ref (B 343), .int (wv false)] w0 rv w1 := hx
      obtain ⟨rfl, a1⟩ := s_X12_pushAll (B, s, false) w0 w1 rv hx ⟨h, (show s.2.1 < 60 by omega)⟩
      refine ⟨⟨rfl, trivial⟩, rfl, ?_, fun z => z.elim h1 h2⟩
      have e : (fun _ => cW false) = opdW c := by
        funext x
        unfold opdW
        rw [if_neg h4, if_pos h48]
        rfl
      show mS B (s.1, s.2.1 + 1, updW s.2.2 s.2.1 (opdW c)) w1
      rw [← e]
      exact a1
    · have h1 : ¬ c.toInt = (Int32.ofInt 45).toInt := h1
      rw [e45] at h1
      have h2 : ¬ c.toInt = (Int32.ofInt 40).toInt := h2
      rw [e40] at h2
      have h4 : ¬ ¬ c.toInt = (Int32.ofInt 49).toInt := h4
      rw [e49] at h4
      intro rv w1 hx
      have hx : fLr r_X12_pushAll [.ref (B 343), .int (wv true)] w0 rv w1 := hx
      obtain ⟨rfl, a1⟩ := s_X12_pushAll (B, s, true) w0 w1 rv hx ⟨h, (show s.2.1 < 60 by omega)⟩
      refine ⟨⟨rfl, trivial⟩, rfl, ?_, fun z => z.elim h1 h2⟩
      have e : (fun _ => cW true) = opdW c := by
        funext x
        unfold opdW
        rw [if_pos (Classical.not_not.mp h4)]
        rfl
      show mS B (s.1, s.2.1 + 1, updW s.2.2 s.2.1 (opdW c)) w1
      rw [← e]
      exact a1
    · have h1 : ¬ c.toInt = (Int32.ofInt 45).toInt := h1
      rw [e45] at h1
      have h2 : ¬ c.toInt = (Int32.ofInt 40).toInt := h2
      rw [e40] at h2
      have h3 : ¬ c.toInt < (Int32.ofInt 97).toInt := h3
      rw [e97] at h3
      have hr : 97 ≤ c.toInt ∧ c.toInt ≤ 104 := by
        have y := (hcs.resolve_left h1).resolve_left h2
        unfold okc at y
        omega
      have ek : (c - Int32.ofInt 97).toInt = c.toInt - 97 := by
        rw [i_sub (by rw [e97]; omega) (by rw [e97]; omega), e97]
      intro rv w1 hx
      have hx : fLr r_X12_pushLetter [.ref (B 343), .int (c - Int32.ofInt 97)] w0 rv w1 := hx
      obtain ⟨rfl, a1⟩ := s_X12_pushLetter (B, s, c - Int32.ofInt 97) w0 w1 rv hx ⟨h, (show s.2.1 < 60 by omega), (show 0 ≤ (c - Int32.ofInt 97).toInt by omega), (show (c - Int32.ofInt 97).toInt < 8 by omega)⟩
      refine ⟨⟨rfl, trivial⟩, rfl, ?_, fun z => z.elim h1 h2⟩
      have e : ltW (c - Int32.ofInt 97).toInt.toNat = opdW c := by
        funext x
        unfold opdW
        rw [if_neg (by omega), if_neg (by omega), ek]
      show mS B (s.1, s.2.1 + 1, updW s.2.2 s.2.1 (opdW c)) w1
      rw [← e]
      exact a1
    · have h2 : ¬ ¬ c.toInt = (Int32.ofInt 40).toInt := h2
      rw [e40] at h2
      intro q e0 hq
      exact psg (Or.inr (Classical.not_not.mp h2)) hq ⟨rfl, trivial⟩
end
section
/-! texts: the reference's operators -/
def lvl (c : Int32) : Int := if c.toInt = 41 then 1 else if (rkc c).toInt ≤ 2 then 2 else 3
theorem lvl_1 {c : Int32} : 1 ≤ lvl c := by
  unfold lvl
  split
  · decide
  · split <;> decide
theorem rkc_v {c : Int32} : ((rkc c).toInt = 3 ∧ c.toInt = 38) ∨ ((rkc c).toInt = 2 ∧ c.toInt = 124) ∨ ((rkc c).toInt = 1 ∧ c.toInt = 62) ∨ ((rkc c).toInt = 0 ∧ ¬ (c.toInt = 38 ∨ c.toInt = 124 ∨ c.toInt = 62)) := by
  unfold rkc
  by_cases h1 : c.toInt = 38
  · rw [if_pos h1]
    exact Or.inl ⟨by decide, h1⟩
  · rw [if_neg h1]
    by_cases h2 : c.toInt = 124
    · rw [if_pos h2]
      exact Or.inr (Or.inl ⟨by decide, h2⟩)
    · rw [if_neg h2]
      by_cases h3 : c.toInt = 62
      · rw [if_pos h3]
        exact Or.inr (Or.inr (Or.inl ⟨by decide, h3⟩))
      · rw [if_neg h3]
        exact Or.inr (Or.inr (Or.inr ⟨by decide, by omega⟩))
theorem lvl_ok {c t : Int32} (hc : 0 < (rkc c).toInt ∨ c.toInt = 41) (ht : 0 < (rkc t).toInt) : ((rkc c).toInt < (rkc t).toInt ∨ ((rkc t).toInt = (rkc c).toInt ∧ ¬ c.toInt = 62)) ↔ lvl c ≤ (rkc t).toInt := by
  unfold lvl
  have h1 := rkc_v (c := c)
  have h2 := rkc_v (c := t)
  by_cases e : c.toInt = 41
  · rw [if_pos e]
    omega
  · rw [if_neg e]
    by_cases e2 : (rkc c).toInt ≤ 2
    · rw [if_pos e2]
      omega
    · rw [if_neg e2]
      omega
theorem tp_ok {o i : Nat} {s : pS} (h : okS false o i s) {k : Nat} (hk : 0 < k) (hk2 : k ≤ s.1.1) (hb : ∀ j, k ≤ j → j < s.1.1 → 0 < (rkc (s.1.2 j)).toInt) : (s.1.2 (k - 1)).toInt = 40 ∨ 0 < (rkc (s.1.2 (k - 1))).toInt := by
  obtain ⟨-, -, -, -, h5⟩ := h
  obtain ⟨g1, g2⟩ := h5 (k - 1) (by omega)
  rcases g1 with g1 | g1 | g1
  · exact Or.inl g1
  · obtain ⟨y1, y2⟩ := g2 g1
    by_cases e : k = s.1.1
    · cases y1 (by omega)
    · exact absurd (hb k (Nat.le_refl _) (by omega)) (by
        have y := y2 (by omega)
        rw [show k - 1 + 1 = k by omega] at y
        exact y)
  · exact Or.inr g1
/-- where the loop stands -/
def atS (o i : Nat) (s0 s : pS) : Prop := okS false o i s0 ∧ s.1.2 = s0.1.2 ∧ s.1.1 ≤ s0.1.1 ∧ (∀ j, s.1.1 ≤ j → j < s0.1.1 → 0 < (rkc (s0.1.2 j)).toInt) ∧ s.2.1 ≤ s0.2.1
theorem atS.top {o i : Nat} {s0 s : pS} (h : atS o i s0 s) (h0 : 0 < s.1.1) : (s.1.2 (s.1.1 - 1)).toInt = 40 ∨ 0 < (rkc (s.1.2 (s.1.1 - 1))).toInt := by
  obtain ⟨h1, h2, h3, h4, -⟩ := h
  rw [h2]
  exact tp_ok h1 h0 h3 h4
theorem atS.red {o i : Nat} {s0 s : pS} (h : atS o i s0 s) (h0 : 0 < s.1.1) (hr : 0 < (rkc (s.1.2 (s.1.1 - 1))).toInt) : atS o i s0 (redS s) := by
  obtain ⟨h1, h2, h3, h4, h5⟩ := h
  refine ⟨h1, h2, by show s.1.1 - 1 ≤ s0.1.1; omega, fun j g1 g2 => ?_, by show s.2.1 - 1 ≤ s0.2.1; omega⟩
  have g1 : s.1.1 - 1 ≤ j := g1
  by_cases e : j = s.1.1 - 1
  · rw [e, ← h2]
    exact hr
  · exact h4 j (by omega) g2
abbrev orA : Type := (Nat → Nat) × (Nat × Nat × pS) × Int32
def or_F : orA → List Value := fun (B, _, c) => [.ref (B 343), .int c]
def or_P : orA → lW → Prop := fun (B, (o, i, s), c) w => mS B s w ∧ okS false o i s ∧ i ≤ 60 ∧ (0 < (rkc c).toInt ∨ (c.toInt = 41 ∧ 0 < o))
def or_Q : orA → lW → Option Value → lW → Prop := fun (B, (_, _, s), c) _ rv w' => rv = none ∧ mS B (chA c s) w'
def in_o0 (B : Nat → Nat) (o i : Nat) (s0 : pS) (c : Int32) : fL_ → List Value → lW → Prop := fun lg vs w => ∃ s : pS, f_sub [(0, false, .ref (B 343)), (1, false, .int c)] lg ∧ vs = [] ∧ mS B s w ∧ atS o i s0 s ∧ bdS (lvl c) s = bdS (lvl c) s0 ∧ bdK (lvl c) s.1.1 s.1.2 s.2.1
def in_o44 (B : Nat → Nat) (o i : Nat) (s0 : pS) (c : Int32) : fL_ → List Value → lW → Prop := fun lg vs w => ∃ s : pS, f_sub [(0, false, .ref (B 343)), (1, false, .int c)] lg ∧ vs = [] ∧ mS B s w ∧ atS o i s0 s ∧ bdS (lvl c) s = bdS (lvl c) s0 ∧ bdK (lvl c) s.1.1 s.1.2 s.2.1 ∧ 0 < s.1.1 ∧ 0 < (rkc (s.1.2 (s.1.1 - 1))).toInt ∧ ¬ (rkc c).toInt < (rkc (s.1.2 (s.1.1 - 1))).toInt
def in_o71 (B : Nat → Nat) (o i : Nat) (s0 : pS) (c : Int32) : fL_ → List Value → lW → Prop := fun lg vs w => ∃ s : pS, f_sub [(0, false, .ref (B 343)), (1, false, .int c)] lg ∧ vs = [] ∧ mS B s w ∧ atS o i s0 s ∧ bdS (lvl c) s = bdS (lvl c) s0 ∧ bdK (lvl c) s.1.1 s.1.2 s.2.1 ∧ 0 < s.1.1 ∧ lvl c ≤ (rkc (s.1.2 (s.1.1 - 1))).toInt
def in_o78 (B : Nat → Nat) (s0 : pS) (c : Int32) : fL_ → List Value → lW → Prop := fun lg vs w => f_sub [(0, false, .ref (B 343)), (1, false, .int c)] lg ∧ vs = [] ∧ mS B (bdS (lvl c) s0) w
def in_o94 (B : Nat → Nat) (s0 : pS) (c : Int32) : fL_ → List Value → lW → Prop := fun lg vs w => f_sub [(0, false, .ref (B 343))] lg ∧ vs = [] ∧ mS B (popS (bdS 1 s0)) w ∧ c.toInt = 41
def in_o111 (B : Nat → Nat) (s0 : pS) (c : Int32) : fL_ → List Value → lW → Prop := fun lg vs w => f_sub [(0, false, .ref (B 343))] lg ∧ vs = [] ∧ mX B (psh c (bdS (lvl c) s0)) (bdS (lvl c) s0).1.1 (bdS (lvl c) s0).2.1 w ∧ ¬ c.toInt = 41
def or_hd : orA → lW → fI lW := fun (B, (o, i, s), c) _ => [(0, in_o0 B o i s c), (44, in_o44 B o i s c), (71, in_o71 B o i s c), (78, in_o78 B s c), (94, in_o94 B s c), (111, in_o111 B s c)]
def Sp_or : fP lW := [(543, 1, fLr r_X12_turned), (553, 1, fLr r_X12_tight), (564, 1, fLr r_X12_reduce)]
theorem Sp_or_ok : f_sp T_X12_operator Sp_or wW := List.forall_mem_cons.mpr ⟨sp_w rfl (fun _ _ _ _ _ _ h => h.2.2.1), List.forall_mem_cons.mpr ⟨sp_w rfl (fun _ _ _ _ _ _ h => h.2.2.1), List.forall_mem_cons.mpr ⟨sp_w rfl (fun _ _ _ _ _ _ h => h.2.2.1), fun _ h => absurd h List.not_mem_nil⟩⟩⟩
section
variable {B : Nat → Nat} {o i : Nat} {s0 : pS} {c : Int32} {w0 : lW}
theorem mS.top {s : pS} {w : lW} (h : mS B s w) (h0 : 0 < s.1.1) : eI (hof w.1 (rv_ (eG fl_X12 20 (hof w.1 (B 343))))) (iv (eG fl_X12 167 (hof w.1 (B 343))) - 1).toNatClampNeg = s.1.2 (s.1.1 - 1) := by
  obtain ⟨x, g1, ex⟩ := mX.gm h
  obtain ⟨k, ek⟩ : ∃ k, s.1.1 = k + 1 := ⟨s.1.1 - 1, by omega⟩
  have em : (x - 1).toInt = (k : Int) := i_m1 (by rw [ex, ek])
  rw [g1, mX.g20 h]
  show eI (hof w.1 (B 347)) (x - 1).toInt.toNat = _
  rw [nat_i em, mX.mk h (by omega), ek]
  rfl
set_option maxHeartbeats 4000000 in
theorem or_h0 (hc : 0 < (rkc c).toInt ∨ c.toInt = 41) : ∀ (lg : fL_) (vs : List Value) (w : lW), in_o0 B o i s0 c lg vs w → ∃ (L : fL_) (fu : Nat), f_sub L lg ∧ wh oW T_X12_operator Sp_or (or_Q (B, (o, i, s0), c) w0) K_X12_operator (or_hd (B, (o, i, s0), c) w0) fu 0 L vs w := by
  rintro lg vs w ⟨s, hs, rfl, h, hat, eT, hK⟩
  have e40 : (Int32.ofInt 40).toInt = 40 := by decide
  have e62 : (Int32.ofInt 62).toInt = 62 := by decide
  obtain ⟨x, g1, ex⟩ := mX.gm h
  have stop : ∀ {w1 : lW} {L : fL_}, mS B s w1 → f_sub [(0, false, .ref (B 343)), (1, false, .int c)] L → (s.1.1 = 0 ∨ ¬ lvl c ≤ (rkc (s.1.2 (s.1.1 - 1))).toInt) → in_o78 B s0 c L [] w1 := by
    intro w1 L h1 hL hn
    refine ⟨hL, rfl, ?_⟩
    rw [← eT, bdS_no hn]
    exact h1
  refine ⟨_, 60, hs, fun h1 => ?_, fun h1 => ?_⟩
  · have h1 : (iv (eG fl_X12 167 (hof w.1 (B 343)))).toInt ≤ 0 := h1
    rw [g1] at h1
    have h1 : x.toInt ≤ 0 := h1
    exact stop h ⟨rfl, rfl, trivial⟩ (Or.inl (by omega))
  have h1 : ¬ (iv (eG fl_X12 167 (hof w.1 (B 343)))).toInt ≤ 0 := h1
  rw [g1] at h1
  have h1 : ¬ x.toInt ≤ 0 := h1
  have m0 : 0 < s.1.1 := by omega
  have tp := hat.top m0
  refine ⟨fun h2 => ?_, fun h2 => ?_⟩
  · have h2 : (eI (hof w.1 (rv_ (eG fl_X12 20 (hof w.1 (B 343))))) (iv (eG fl_X12 167 (hof w.1 (B 343))) - 1).toNatClampNeg).toInt = (Int32.ofInt 40).toInt := h2
    rw [mS.top h m0, e40] at h2
    refine stop h ⟨rfl, rfl, trivial⟩ (Or.inr (fun z => ?_))
    have y := rkc_v (c := s.1.2 (s.1.1 - 1))
    have y2 := lvl_1 (c := c)
    omega
  have h2 : ¬ (eI (hof w.1 (rv_ (eG fl_X12 20 (hof w.1 (B 343))))) (iv (eG fl_X12 167 (hof w.1 (B 343))) - 1).toNatClampNeg).toInt = (Int32.ofInt 40).toInt := h2
  rw [mS.top h m0, e40] at h2
  have tr : 0 < (rkc (s.1.2 (s.1.1 - 1))).toInt := tp.resolve_left h2
  have lo := lvl_ok hc tr
  intro rv w1 hx
  have hx : fLr r_X12_tight [.int (eI (hof w.1 (rv_ (eG fl_X12 20 (hof w.1 (B 343))))) (iv (eG fl_X12 167 (hof w.1 (B 343))) - 1).toNatClampNeg)] w rv w1 := hx
  rw [mS.top h m0] at hx
  have a1 : mS B s w1 := mX.keep h hx (by decide) (by decide)
  obtain ⟨-, rfl⟩ := (s_X12_tight _ _ _ _ _ _ hx).2 _ rfl trivial
  intro rv w2 hx2
  have hx2 : fLr r_X12_tight [.int c] w1 rv w2 := hx2
  have a2 : mS B s w2 := mX.keep a1 hx2 (by decide) (by decide)
  obtain ⟨-, rfl⟩ := (s_X12_tight _ _ _ _ _ _ hx2).2 _ rfl trivial
  refine ⟨fun h3 => ?_, fun h3 => ?_⟩
  · have h3 : (rkc c).toInt < (rkc (s.1.2 (s.1.1 - 1))).toInt := h3
    exact ⟨s, ⟨rfl, rfl, trivial⟩, rfl, a2, hat, eT, hK, m0, lo.mp (Or.inl h3)⟩
  have h3 : ¬ (rkc c).toInt < (rkc (s.1.2 (s.1.1 - 1))).toInt := h3
  exact ⟨s, ⟨rfl, rfl, trivial⟩, rfl, a2, hat, eT, hK, m0, tr, h3⟩
set_option maxHeartbeats 4000000 in
theorem or_h44 (hc : 0 < (rkc c).toInt ∨ c.toInt = 41) : ∀ (lg : fL_) (vs : List Value) (w : lW), in_o44 B o i s0 c lg vs w → ∃ (L : fL_) (fu : Nat), f_sub L lg ∧ wh oW T_X12_operator Sp_or (or_Q (B, (o, i, s0), c) w0) K_X12_operator (or_hd (B, (o, i, s0), c) w0) fu 44 L vs w := by
  rintro lg vs w2 ⟨s, hs, rfl, a2, hat, eT, hK, m0, tr, h3⟩
  have m0 : 0 < s.1.1 := m0
  have tr : 0 < (rkc (s.1.2 (s.1.1 - 1))).toInt := tr
  have h3 : ¬ (rkc c).toInt < (rkc (s.1.2 (s.1.1 - 1))).toInt := h3
  have e62 : (Int32.ofInt 62).toInt = 62 := by decide
  have stop : ∀ {w1 : lW} {L : fL_}, mS B s w1 → f_sub [(0, false, .ref (B 343)), (1, false, .int c)] L → (s.1.1 = 0 ∨ ¬ lvl c ≤ (rkc (s.1.2 (s.1.1 - 1))).toInt) → in_o78 B s0 c L [] w1 := by
    intro w1 L h1 hL hn
    refine ⟨hL, rfl, ?_⟩
    rw [← eT, bdS_no hn]
    exact h1
  have lo := lvl_ok hc tr
  refine ⟨_, 60, hs, ?_⟩
  intro rv w3 hx3
  have hx3 : fLr r_X12_tight [.int (eI (hof w2.1 (rv_ (eG fl_X12 20 (hof w2.1 (B 343))))) (iv (eG fl_X12 167 (hof w2.1 (B 343))) - 1).toNatClampNeg)] w2 rv w3 := hx3
  rw [mS.top a2 m0] at hx3
  have a3 : mS B s w3 := mX.keep a2 hx3 (by decide) (by decide)
  obtain ⟨-, rfl⟩ := (s_X12_tight _ _ _ _ _ _ hx3).2 _ rfl trivial
  intro rv w4 hx4
  have hx4 : fLr r_X12_tight [.int c] w3 rv w4 := hx4
  have a4 : mS B s w4 := mX.keep a3 hx4 (by decide) (by decide)
  obtain ⟨-, rfl⟩ := (s_X12_tight _ _ _ _ _ _ hx4).2 _ rfl trivial
  refine ⟨fun h4 => ?_, fun h4 => ⟨fun h5 => ?_, fun h5 => ?_⟩⟩
  · have h4 : ¬ (rkc (s.1.2 (s.1.1 - 1))).toInt = (rkc c).toInt := h4
    exact stop a4 ⟨rfl, rfl, trivial⟩ (Or.inr (fun z => (lo.mpr z).elim h3 (fun z2 => h4 z2.1)))
  · have h5 : c.toInt = (Int32.ofInt 62).toInt := h5
    rw [e62] at h5
    exact stop a4 ⟨rfl, rfl, trivial⟩ (Or.inr (fun z => (lo.mpr z).elim h3 (fun z2 => z2.2 h5)))
  · have h4 : ¬ ¬ (rkc (s.1.2 (s.1.1 - 1))).toInt = (rkc c).toInt := h4
    have h5 : ¬ c.toInt = (Int32.ofInt 62).toInt := h5
    rw [e62] at h5
    exact ⟨s, ⟨rfl, rfl, trivial⟩, rfl, a4, hat, eT, hK, m0, lo.mp (Or.inr ⟨Classical.not_not.mp h4, h5⟩)⟩
set_option maxHeartbeats 4000000 in
theorem or_h71 (hi : i ≤ 60) : ∀ (lg : fL_) (vs : List Value) (w : lW), in_o71 B o i s0 c lg vs w → ∃ (L : fL_) (fu : Nat), f_sub L lg ∧ wh oW T_X12_operator Sp_or (or_Q (B, (o, i, s0), c) w0) K_X12_operator (or_hd (B, (o, i, s0), c) w0) fu 71 L vs w := by
  rintro lg vs w ⟨s, hs, rfl, h, hat, eT, hK, m0, hr⟩
  have hr : lvl c ≤ (rkc (s.1.2 (s.1.1 - 1))).toInt := hr
  have m0 : 0 < s.1.1 := m0
  obtain ⟨k2, hK2⟩ := bdK_yes hK m0 hr
  obtain ⟨v30, -⟩ := okS_vc hat.1 hi
  have hv := hat.2.2.2.2
  have l1 := lvl_1 (c := c)
  refine ⟨_, 40, hs, ?_⟩
  intro rv w1 hx
  have hx : fLr r_X12_reduce [.ref (B 343)] w rv w1 := hx
  obtain ⟨rfl, a1⟩ := s_X12_reduce (B, s) w w1 rv hx ⟨h, m0, k2, (show s.2.1 ≤ 60 by omega)⟩
  refine ⟨redS s, ⟨rfl, rfl, trivial⟩, rfl, a1, hat.red m0 (by omega), ?_, hK2⟩
  rw [← eT]
  exact (bdS_yes m0 hr).symm
set_option maxHeartbeats 4000000 in
theorem or_h78 (hok : okS false o i s0) (hi : i ≤ 60) (hc : 0 < (rkc c).toInt ∨ (c.toInt = 41 ∧ 0 < o)) : ∀ (lg : fL_) (vs : List Value) (w : lW), in_o78 B s0 c lg vs w → ∃ (L : fL_) (fu : Nat), f_sub L lg ∧ wh oW T_X12_operator Sp_or (or_Q (B, (o, i, s0), c) w0) K_X12_operator (or_hd (B, (o, i, s0), c) w0) fu 78 L vs w := by
  rintro lg vs w ⟨hs, rfl, h⟩
  have e41 : (Int32.ofInt 41).toInt = 41 := by decide
  refine ⟨_, 60, hs, fun h1 => ?_, fun h1 => ?_⟩
  · have h1 : ¬ c.toInt = (Int32.ofInt 41).toInt := h1
    rw [e41] at h1
    obtain ⟨x, g1, ex⟩ := mX.gm h
    intro q e0 hq
    refine ⟨⟨rfl, trivial⟩, rfl, mX.w347 h (mX.g20 h) hq ?_, h1⟩
    show (iv (eG fl_X12 167 (hof w.1 (B 343)))).toInt.toNat = (bdS (lvl c) s0).1.1
    rw [g1]
    exact nat_i ex
  · have h1 : ¬ ¬ c.toInt = (Int32.ofInt 41).toInt := h1
    rw [e41] at h1
    have h1 : c.toInt = 41 := Classical.not_not.mp h1
    have el : lvl c = 1 := if_pos h1
    rw [el] at h
    have ho : 0 < o := by
      rcases hc with y | y
      · have y2 := rk_b.mp y
        omega
      · exact y.2
    obtain ⟨hp, -⟩ := bd_close hok ho
    have h : mX B (bdS 1 s0) (bdS 1 s0).1.1 (bdS 1 s0).2.1 w := h
    show ∀ (q : Nat) (e0 : va_E), _ → in_o94 B s0 c _ _ _
    generalize eT : bdS 1 s0 = T at h hp
    obtain ⟨x, g1, ex⟩ := mX.gm h
    obtain ⟨k, ek⟩ : ∃ k, T.1.1 = k + 1 := ⟨T.1.1 - 1, by omega⟩
    have em : (x - 1).toInt = ((T.1.1 - 1 : Nat) : Int) := by
      rw [ek, Nat.add_sub_cancel]
      exact i_m1 (by rw [ex, ek])
    intro q e0 hq
    have hq : w.1[q]? = some (B 343, e0) := hq
    refine ⟨⟨rfl, trivial⟩, rfl, ?_, h1⟩
    rw [eT]
    have y := h.pm hq (x := x - 1) (show Value.int (iv (eG fl_X12 167 (hof w.1 (B 343))) - 1) = .int (x - 1) by rw [g1]; rfl) em
    exact y.cut (by show T.1.1 - 1 ≤ T.1.1; omega) rfl (Nat.le_refl _) rfl
set_option maxHeartbeats 4000000 in
theorem or_h94 (hok : okS false o i s0) (hi : i ≤ 60) : ∀ (lg : fL_) (vs : List Value) (w : lW), in_o94 B s0 c lg vs w → ∃ (L : fL_) (fu : Nat), f_sub L lg ∧ wh oW T_X12_operator Sp_or (or_Q (B, (o, i, s0), c) w0) K_X12_operator (or_hd (B, (o, i, s0), c) w0) fu 94 L vs w := by
  rintro lg vs w ⟨hs, rfl, h, hc⟩
  have hvc : s0.2.1 = cnA isB s0.1.1 s0.1.2 + 1 := hok.1
  obtain ⟨v30, -⟩ := okS_vc hok hi
  obtain ⟨-, b2, b3, -, -⟩ := bdA_ok (Int.le_refl 1) (k := s0.1.1) (m := s0.1.2) (v := s0.2.2) (vc := s0.2.1) hvc
  refine ⟨_, 40, hs, ?_⟩
  intro rv w1 hx
  have hx : fLr r_X12_turned [.ref (B 343)] w rv w1 := hx
  obtain ⟨rfl, a1⟩ := s_X12_turned (B, popS (bdS 1 s0)) w w1 rv hx ⟨h, (show 0 < (bdA 1 s0.1.1 s0.1.2 s0.2.2 s0.2.1).2.1 by omega), (show (bdA 1 s0.1.1 s0.1.2 s0.2.2 s0.2.1).2.1 ≤ 60 by omega)⟩
  refine ⟨rfl, ?_⟩
  show mS B (chA c s0) w1
  rw [chA_cl hc]
  exact a1
set_option maxHeartbeats 4000000 in
theorem or_h111 (hok : okS false o i s0) (hi : i ≤ 60) (hc : 0 < (rkc c).toInt ∨ (c.toInt = 41 ∧ 0 < o)) : ∀ (lg : fL_) (vs : List Value) (w : lW), in_o111 B s0 c lg vs w → ∃ (L : fL_) (fu : Nat), f_sub L lg ∧ wh oW T_X12_operator Sp_or (or_Q (B, (o, i, s0), c) w0) K_X12_operator (or_hd (B, (o, i, s0), c) w0) fu 111 L vs w := by
  rintro lg vs w ⟨hs, rfl, h, h41⟩
  have h41 : ¬ c.toInt = 41 := h41
  have hr : 0 < (rkc c).toInt := hc.resolve_right (fun z => h41 z.1)
  have el : lvl c = if (rkc c).toInt ≤ 2 then (2 : Int) else 3 := if_neg h41
  obtain ⟨-, m60⟩ := okS_vc hok hi
  obtain ⟨b1, -⟩ := bdA_ok (lvl_1 (c := c)) (k := s0.1.1) (m := s0.1.2) (v := s0.2.2) (vc := s0.2.1) hok.1
  have b1 : (bdS (lvl c) s0).1.1 ≤ s0.1.1 := b1
  have h : mX B (psh c (bdS (lvl c) s0)) (bdS (lvl c) s0).1.1 (bdS (lvl c) s0).2.1 w := h
  obtain ⟨x, g1, ex⟩ := h.gm
  refine ⟨_, 40, hs, ?_⟩
  intro q e0 hq
  have hq : w.1[q]? = some (B 343, e0) := hq
  refine ⟨rfl, ?_⟩
  have y := h.pm hq (x := x + 1) (show Value.int (iv (eG fl_X12 167 (hof w.1 (B 343))) + 1) = .int (x + 1) by rw [g1]; rfl) (i_p1 ex (by omega))
  show mS B (chA c s0) _
  rw [chA_op hr, ← el]
  exact y
end
theorem s_X12_operator : ∀ (a : orA) (w w' : lW) (rv : Option Value), fLr r_X12_operator (or_F a) w rv w' → or_P a w → or_Q a w rv w' := by
  refine do_ofW or_F or_P or_Q Sp_or or_hd 40 fo_X12 Sp_or_ok k_X12_operator (fun a w0 hp => ?_) (fun a w0 hp hd0 => ?_)
  · obtain ⟨B, ⟨o, i, s⟩, c⟩ := a
    obtain ⟨h, hok, hi, hc⟩ := hp
    exact List.forall_mem_cons.mpr ⟨or_h0 (hc.imp id (fun z => z.1)), List.forall_mem_cons.mpr ⟨or_h44 (hc.imp id (fun z => z.1)), List.forall_mem_cons.mpr ⟨or_h71 hi, List.forall_mem_cons.mpr ⟨or_h78 hok hi hc, List.forall_mem_cons.mpr ⟨or_h94 hok hi, List.forall_mem_cons.mpr ⟨or_h111 hok hi hc, fun _ h => absurd h List.not_mem_nil⟩⟩⟩⟩⟩⟩
  · obtain ⟨B, ⟨o, i, s⟩, c⟩ := a
    obtain ⟨h, hok, hi, hc⟩ := hp
    refine ⟨s, ⟨rfl, rfl, trivial⟩, rfl, h, ⟨hok, rfl, Nat.le_refl _, fun j g1 g2 => absurd g2 (Nat.not_lt.mpr g1), Nat.le_refl _⟩, rfl, bdK_of lvl_1 hok.1⟩
end
section
/-! texts: the reference's parse, with what it leaves -/
theorem chA_mp {c : Int32} {s : pS} (h : c.toInt = 45 ∨ c.toInt = 40 ∨ okc c) : mpA c s = chA c s := by
  unfold mpA
  by_cases e : c.toInt = 45 ∨ c.toInt = 40
  · rw [if_pos e, chA_ps (by omega)]
  · rw [if_neg e, chA_vl (by rcases h with h | h | h; exact absurd (Or.inl h) e; exact absurd (Or.inr h) e; exact h)]
abbrev qaA : Type := (Nat → Nat) × Int32 × Int32 × (Nat → Int32)
def qa_F : qaA → List Value := fun (B, fr, n, _) => [.ref (B 343), .int fr, .int n]
def qa_P : qaA → lW → Prop := fun (B, fr, n, f) w => (∃ km kv, mX B (runA (vo_g fr f) 0) km kv w) ∧ aI B 383 240 f w ∧ (0 ≤ fr.toInt ∧ 0 ≤ n.toInt ∧ n.toInt ≤ 60 ∧ fr.toInt + n.toInt ≤ 240) ∧ acA (vo_g fr f) n.toInt.toNat 0 (true, 0) = -1
def qa_Q : qaA → lW → Option Value → lW → Prop := fun (B, fr, n, f) _ rv w' => rv = some (.int (-1)) ∧ ∃ g, aJ B 346 256 g w' ∧ ∀ x, x < 4 → g x = txtW (vo_g fr f) n.toInt.toNat x
def q_st (B : Nat → Nat) (fr n : Int32) (f : Nat → Int32) (i o : Int32) (b : Bool) (w : lW) : Prop := mS B (runA (vo_g fr f) i.toInt.toNat) w ∧ aI B 383 240 f w ∧ (0 ≤ i.toInt ∧ i.toInt ≤ n.toInt) ∧ (0 ≤ o.toInt ∧ o.toInt ≤ i.toInt) ∧ okS b o.toInt.toNat i.toInt.toNat (runA (vo_g fr f) i.toInt.toNat) ∧ acA (vo_g fr f) (n.toInt.toNat - i.toInt.toNat) i.toInt.toNat (b, o.toInt.toNat) = -1
def in_qa (B : Nat → Nat) (fr n : Int32) (f : Nat → Int32) : fL_ → List Value → lW → Prop := fun lg vs w => ∃ (i o : Int32) (b : Bool), f_sub [(5, false, .int i), (3, false, .int o), (4, false, .int (wv b)), (0, false, .ref (B 343)), (1, false, .int fr), (2, false, .int n)] lg ∧ vs = [] ∧ q_st B fr n f i o b w
def q_in (fr n : Int32) (f : Nat → Int32) (i o : Int32) (b b' : Bool) (M : Nat) (c : Int32) : Prop := i.toInt < n.toInt ∧ vo_g fr f i.toInt.toNat = c ∧ stA (b, o.toInt.toNat) c = some (b', M) ∧ acA (vo_g fr f) (n.toInt.toNat - (i.toInt.toNat + 1)) (i.toInt.toNat + 1) (b', M) = -1
def in_qo (B : Nat → Nat) (fr n : Int32) (f : Nat → Int32) (b : Bool) : fL_ → List Value → lW → Prop := fun lg vs w => ∃ (i o c : Int32) (b' : Bool) (M : Nat), f_sub [(6, false, .int c), (5, false, .int i), (3, false, .int o), (0, false, .ref (B 343)), (1, false, .int fr), (2, false, .int n)] lg ∧ vs = [] ∧ q_st B fr n f i o b w ∧ q_in fr n f i o b b' M c
def in_qb (B : Nat → Nat) (fr n : Int32) (f : Nat → Int32) : fL_ → List Value → lW → Prop := fun lg vs w => ∃ s : pS, f_sub [(0, false, .ref (B 343))] lg ∧ vs = [] ∧ mS B s w ∧ bdS 1 s = bdS 1 (runA (vo_g fr f) n.toInt.toNat) ∧ (bdS 1 s).1.1 = 0 ∧ bdK 1 s.1.1 s.1.2 s.2.1 ∧ s.2.1 ≤ 60 ∧ 0 < (bdS 1 s).2.1
def qa_hd : qaA → lW → fI lW := fun (B, fr, n, f) _ => [(18, in_qa B fr n f), (86, in_qo B fr n f true), (166, in_qo B fr n f false), (218, in_qb B fr n f)]
theorem q_nxt {B : Nat → Nat} {fr n : Int32} {f : Nat → Int32} {i o o' c : Int32} {b b' : Bool} {M : Nat} {w w1 : lW} {L : fL_} (hs : f_sub [(5, false, .int (i + 1)), (3, false, .int o'), (4, false, .int (wv b')), (0, false, .ref (B 343)), (1, false, .int fr), (2, false, .int n)] L) (h : q_st B fr n f i o b w) (hq : q_in fr n f i o b b' M c) (h1 : mS B (chA c (runA (vo_g fr f) i.toInt.toNat)) w1) (h2 : aI B 383 240 f w1) (ho : o'.toInt = (M : Int)) (hM : M ≤ i.toInt.toNat + 1) : in_qa B fr n f L [] w1 := by
  obtain ⟨-, -, ⟨i0, -⟩, -, hok, -⟩ := h
  obtain ⟨i1, hc, hst, hac⟩ := hq
  have hn := Int32.toInt_lt n
  have m3 : (i + 1).toInt = i.toInt + 1 := i_inc i0 (by omega)
  have g : o'.toInt.toNat = M := by
    rw [ho]
    rfl
  have hok' := ch_ok hok hst
  rw [← hc] at h1 hok'
  generalize i + 1 = i' at hs m3
  have hI1 : i'.toInt.toNat = i.toInt.toNat + 1 := by omega
  refine ⟨i', o', b', hs, rfl, ?_, h2, ⟨by omega, by omega⟩, ⟨by omega, by omega⟩, ?_, ?_⟩
  · rw [hI1]
    exact h1
  · rw [hI1, g]
    exact hok'
  · rw [hI1, g]
    exact hac
section
variable {B : Nat → Nat} {fr n : Int32} {f : Nat → Int32} {w0 : lW}
set_option maxHeartbeats 8000000 in
theorem qa_h18 (fr0 : 0 ≤ fr.toInt) (n60 : n.toInt ≤ 60) (f240 : fr.toInt + n.toInt ≤ 240) : ∀ (lg : fL_) (vs : List Value) (w : lW), in_qa B fr n f lg vs w → ∃ (L : fL_) (fu : Nat), f_sub L lg ∧ wh oW T_X12_parse Sp_pa (qa_Q (B, fr, n, f) w0) K_X12_parse (qa_hd (B, fr, n, f) w0) fu 18 L vs w := by
  rintro lg vs w ⟨i, o, b, hs, rfl, hq⟩
  obtain ⟨h, haf, ⟨i0, i1⟩, ⟨o0, o1⟩, hok, hac⟩ := id hq
  have e40 : (40 : Int32).toInt = 40 := by decide
  have e41 : (41 : Int32).toInt = 41 := by decide
  have e45 : (45 : Int32).toInt = 45 := by decide
  have e48 : (48 : Int32).toInt = 48 := by decide
  have e49 : (49 : Int32).toInt = 49 := by decide
  have e62 : (62 : Int32).toInt = 62 := by decide
  have e124 : (124 : Int32).toInt = 124 := by decide
  have e38 : (38 : Int32).toInt = 38 := by decide
  refine ⟨_, 120, hs, fun hc => ?_, fun hc => ?_⟩
  · have hc : n.toInt ≤ i.toInt := hc
    have ei : i.toInt = n.toInt := by omega
    rw [ei, Nat.sub_self] at hac
    obtain ⟨rfl, hO⟩ := acA_e1 hac
    refine ⟨fun hz => absurd rfl (show ¬ (0 : Int32).toInt = 0 from hz), fun _ => ⟨fun hz => ?_, fun hz => ?_⟩⟩
    · rw [ei] at h hok
      obtain ⟨v30, -⟩ := okS_vc hok (by omega)
      obtain ⟨a1, a2, a3, a4, a5⟩ := bdA_ok (Int.le_refl 1) (k := (runA (vo_g fr f) n.toInt.toNat).1.1) (m := (runA (vo_g fr f) n.toInt.toNat).1.2) (v := (runA (vo_g fr f) n.toInt.toNat).2.2) (vc := (runA (vo_g fr f) n.toInt.toNat).2.1) hok.1
      refine ⟨runA (vo_g fr f) n.toInt.toNat, ⟨rfl, trivial⟩, rfl, h, rfl, ?_, bdK_of (Int.le_refl 1) hok.1, by omega, ?_⟩
      · refine Classical.byContradiction (fun z => ?_)
        have hp : 0 < (bdA 1 (runA (vo_g fr f) n.toInt.toNat).1.1 (runA (vo_g fr f) n.toInt.toNat).1.2 (runA (vo_g fr f) n.toInt.toNat).2.2 (runA (vo_g fr f) n.toInt.toNat).2.1).1 := Nat.pos_of_ne_zero z
        have y := tp_ok hok hp a1 (fun j g1 g2 => by have y := a4 j g1 g2; omega)
        have y2 := a5.resolve_left (by omega)
        have y3 := y.resolve_right (by omega)
        have np := cnA_cut (p := isP) (m := (runA (vo_g fr f) n.toInt.toNat).1.2) a1 (fun j g1 g2 => isP_f.mpr (fun z => by have y := a4 j g1 g2; have y2 := rk_b.mp (show 0 < (rkc ((runA (vo_g fr f) n.toInt.toNat).1.2 j)).toInt by omega); omega))
        have np2 := hok.2.1
        rw [np] at np2
        obtain ⟨k, ek⟩ : ∃ k, (bdA 1 (runA (vo_g fr f) n.toInt.toNat).1.1 (runA (vo_g fr f) n.toInt.toNat).1.2 (runA (vo_g fr f) n.toInt.toNat).2.2 (runA (vo_g fr f) n.toInt.toNat).2.1).1 = k + 1 := ⟨_ - 1, (Nat.sub_add_cancel hp).symm⟩
        rw [ek] at np2 y3
        have y3 : ((runA (vo_g fr f) n.toInt.toNat).1.2 k).toInt = 40 := y3
        have np2 : cnA isP k (runA (vo_g fr f) n.toInt.toNat).1.2 + (if isP ((runA (vo_g fr f) n.toInt.toNat).1.2 k) = true then 1 else 0) = o.toInt.toNat := np2
        rw [if_pos (isP_t.mpr y3), hO] at np2
        omega
      · show 0 < (bdA 1 (runA (vo_g fr f) n.toInt.toNat).1.1 (runA (vo_g fr f) n.toInt.toNat).1.2 (runA (vo_g fr f) n.toInt.toNat).2.2 (runA (vo_g fr f) n.toInt.toNat).2.1).2.1
        omega
    · have hz : ¬ o.toInt ≤ 0 := hz
      omega
  · have hc : ¬ n.toInt ≤ i.toInt := hc
    have hin : i.toInt < n.toInt := by omega
    have ec : (eI (hof w.1 (rv_ (eG fl_X12 130 (hof w.1 (B 343))))) (fr + i).toNatClampNeg) = vo_g fr f i.toInt.toNat := by
      have m1 : (fr + i).toInt = fr.toInt + i.toInt := i_add (by omega) (by omega)
      obtain ⟨x, o1, -⟩ := h.2.1
      rw [bR (fl := fl_X12) (i := 130) (k2 := 66) (r := 383) o1 h.1 bl_343 rfl rfl]
      obtain ⟨cA, hf⟩ := haf
      show eI (hof w.1 (B 383)) _ = _
      rw [hf]
      show f (fr + i).toInt.toNat = f (fr.toInt.toNat + i.toInt.toNat)
      rw [m1]
      congr 1
      omega
    rw [show n.toInt.toNat - i.toInt.toNat = (n.toInt.toNat - (i.toInt.toNat + 1)) + 1 by omega] at hac
    obtain ⟨⟨b', M⟩, hst, hac2⟩ := acA_m1 hac
    obtain ⟨c, ec2⟩ : ∃ c : Int32, vo_g fr f i.toInt.toNat = c := ⟨_, rfl⟩
    have hqi : q_in fr n f i o b b' M c := ⟨hin, ec2, by rw [← ec2]; exact hst, hac2⟩
    rw [ec2] at ec hst
    have cs := st_case hst
    have go : ∀ (L : fL_) (w1 : lW), q_st B fr n f i o b w1 → f_sub [(6, false, .int (eI (hof w.1 (rv_ (eG fl_X12 130 (hof w.1 (B 343))))) (fr + i).toNatClampNeg)), (5, false, .int i), (3, false, .int o), (0, false, .ref (B 343)), (1, false, .int fr), (2, false, .int n)] L → in_qo B fr n f b L [] w1 := fun L w1 hI1 hL => ⟨i, o, c, b', M, by rw [ec] at hL; exact hL, rfl, hI1, hqi⟩
    cases b with
    | true =>
      refine ⟨fun hz => absurd (show (1 : Int32).toInt = 0 from hz) (by decide), fun _ => ⟨fun ha => ?_, fun ha => ⟨fun hb => ?_, fun hb => ⟨fun hd => ?_, fun hd => ⟨fun he => ?_, fun he => ?_⟩⟩⟩⟩⟩
      · exact go _ _ hq ⟨rfl, rfl, rfl, rfl, rfl, rfl, trivial⟩
      · exact go _ _ hq ⟨rfl, rfl, rfl, rfl, rfl, rfl, trivial⟩
      · exact go _ _ hq ⟨rfl, rfl, rfl, rfl, rfl, rfl, trivial⟩
      · exact go _ _ hq ⟨rfl, rfl, rfl, rfl, rfl, rfl, trivial⟩
      · have ha2 : ¬ (eI (hof w.1 (rv_ (eG fl_X12 130 (hof w.1 (B 343))))) (fr + i).toNatClampNeg).toInt = (45 : Int32).toInt := ha
        rw [ec, e45] at ha2
        have hb : ¬ (eI (hof w.1 (rv_ (eG fl_X12 130 (hof w.1 (B 343))))) (fr + i).toNatClampNeg).toInt = (40 : Int32).toInt := hb
        rw [ec, e40] at hb
        have hd : ¬ (eI (hof w.1 (rv_ (eG fl_X12 130 (hof w.1 (B 343))))) (fr + i).toNatClampNeg).toInt = (48 : Int32).toInt := hd
        rw [ec, e48] at hd
        have he : ¬ (eI (hof w.1 (rv_ (eG fl_X12 130 (hof w.1 (B 343))))) (fr + i).toNatClampNeg).toInt = (49 : Int32).toInt := he
        rw [ec, e49] at he
        intro rv w1 hx
        have hx : fLr r_X12_in [.long (eI (hof w.1 (rv_ (eG fl_X12 130 (hof w.1 (B 343))))) (fr + i).toNatClampNeg).toInt64, .long 97, .long 104] w rv w1 := hx
        obtain ⟨-, er⟩ := (s_X12_in _ _ _ _ _ _ hx).2 ((eI (hof w.1 (rv_ (eG fl_X12 130 (hof w.1 (B 343))))) (fr + i).toNatClampNeg).toInt64, 97, 104) rfl trivial
        have er : rv = some (.int (if (97 : Int64).toInt ≤ (eI (hof w.1 (rv_ (eG fl_X12 130 (hof w.1 (B 343))))) (fr + i).toNatClampNeg).toInt64.toInt ∧ (eI (hof w.1 (rv_ (eG fl_X12 130 (hof w.1 (B 343))))) (fr + i).toNatClampNeg).toInt64.toInt ≤ (104 : Int64).toInt then 1 else 0)) := er
        have e97 : (97 : Int64).toInt = 97 := by decide
        have e104 : (104 : Int64).toInt = 104 := by decide
        rw [ec, e97, e104, Int32.toInt_toInt64] at er
        have hok2 : okc c := by
          rcases cs with ⟨-, ⟨y, -⟩ | ⟨y, -⟩ | ⟨y, -⟩⟩ | ⟨y, -⟩
          · exact absurd y hb
          · exact absurd y ha2
          · exact y
          · cases y
        rw [if_pos (by unfold okc at hok2; omega)] at er
        subst er
        refine ⟨fun _ => ?_, fun hy => absurd (fun z => absurd (show (1 : Int32).toInt = 0 from z) (by decide)) (show ¬ ¬ (1 : Int32).toInt = 0 from hy)⟩
        have q1 : q_st B fr n f i o true w1 := ⟨mX.keep h hx (by decide) (by decide), haf.keep h.1 hx bl_383 bt_383 (by decide) (by decide), ⟨i0, i1⟩, ⟨o0, o1⟩, hok, hq.2.2.2.2.2⟩
        exact go _ _ q1 ⟨rfl, rfl, rfl, rfl, rfl, rfl, trivial⟩
    | false =>
      refine ⟨fun _ => ⟨fun ha => ?_, fun ha => ⟨fun hb => ?_, fun hb => ⟨fun hd => ?_, fun hd => ⟨fun he => ?_, fun he => ⟨fun hg => ?_, fun hg => ?_⟩⟩⟩⟩⟩, fun hz => absurd rfl (show ¬ (0 : Int32).toInt = 0 from hz)⟩
      · exact go _ _ hq ⟨rfl, rfl, rfl, rfl, rfl, rfl, trivial⟩
      · exact go _ _ hq ⟨rfl, rfl, rfl, rfl, rfl, rfl, trivial⟩
      · exact go _ _ hq ⟨rfl, rfl, rfl, rfl, rfl, rfl, trivial⟩
      · have ha : ¬ (eI (hof w.1 (rv_ (eG fl_X12 130 (hof w.1 (B 343))))) (fr + i).toNatClampNeg).toInt = (62 : Int32).toInt := ha
        rw [ec, e62] at ha
        have hb : ¬ (eI (hof w.1 (rv_ (eG fl_X12 130 (hof w.1 (B 343))))) (fr + i).toNatClampNeg).toInt = (124 : Int32).toInt := hb
        rw [ec, e124] at hb
        have hd : ¬ (eI (hof w.1 (rv_ (eG fl_X12 130 (hof w.1 (B 343))))) (fr + i).toNatClampNeg).toInt = (38 : Int32).toInt := hd
        rw [ec, e38] at hd
        have he : ¬ (eI (hof w.1 (rv_ (eG fl_X12 130 (hof w.1 (B 343))))) (fr + i).toNatClampNeg).toInt = (41 : Int32).toInt := he
        rw [ec, e41] at he
        exfalso
        rcases cs with ⟨y, -⟩ | ⟨-, ⟨y, -⟩ | ⟨y, -⟩⟩
        · cases y
        · have y := rk_b.mp y
          omega
        · exact he y
      · exact go _ _ hq ⟨rfl, rfl, rfl, rfl, rfl, rfl, trivial⟩
      · have ha : ¬ (eI (hof w.1 (rv_ (eG fl_X12 130 (hof w.1 (B 343))))) (fr + i).toNatClampNeg).toInt = (62 : Int32).toInt := ha
        rw [ec, e62] at ha
        have hb : ¬ (eI (hof w.1 (rv_ (eG fl_X12 130 (hof w.1 (B 343))))) (fr + i).toNatClampNeg).toInt = (124 : Int32).toInt := hb
        rw [ec, e124] at hb
        have hd : ¬ (eI (hof w.1 (rv_ (eG fl_X12 130 (hof w.1 (B 343))))) (fr + i).toNatClampNeg).toInt = (38 : Int32).toInt := hd
        rw [ec, e38] at hd
        have hg : ¬ 0 < o.toInt := hg
        exfalso
        rcases cs with ⟨y, -⟩ | ⟨-, ⟨y, -⟩ | ⟨-, y, -⟩⟩
        · cases y
        · have y := rk_b.mp y
          omega
        · omega
set_option maxHeartbeats 8000000 in
theorem qa_h86 (n60 : n.toInt ≤ 60) : ∀ (lg : fL_) (vs : List Value) (w : lW), in_qo B fr n f true lg vs w → ∃ (L : fL_) (fu : Nat), f_sub L lg ∧ wh oW T_X12_parse Sp_pa (qa_Q (B, fr, n, f) w0) K_X12_parse (qa_hd (B, fr, n, f) w0) fu 86 L vs w := by
  rintro lg vs w ⟨i, o, c, b', M, hs, rfl, hq, hqi⟩
  obtain ⟨h, ha, ⟨i0, i1⟩, ⟨o0, o1⟩, hok, hac⟩ := id hq
  obtain ⟨hin, hc, hst, -⟩ := id hqi
  have e40 : (40 : Int32).toInt = 40 := by decide
  have e45 : (45 : Int32).toInt = 45 := by decide
  have oN : o.toInt.toNat ≤ i.toInt.toNat + 1 := by omega
  have oN1 : o.toInt.toNat + 1 ≤ i.toInt.toNat + 1 := by omega
  obtain ⟨v30, m60⟩ := okS_vc hok (by omega)
  have cs : (c.toInt = 40 ∧ b' = true ∧ M = o.toInt.toNat + 1) ∨ (c.toInt = 45 ∧ b' = true ∧ M = o.toInt.toNat) ∨ (okc c ∧ b' = false ∧ M = o.toInt.toNat) := by
    rcases st_case hst with ⟨-, y⟩ | ⟨y, -⟩
    · exact y
    · cases y
  have hcs : c.toInt = 45 ∨ c.toInt = 40 ∨ okc c := by
    rcases cs with y | y | y
    · exact Or.inr (Or.inl y.1)
    · exact Or.inl y.1
    · exact Or.inr (Or.inr y.1)
  refine ⟨_, 60, hs, ?_⟩
  intro rv w1 hx
  have hx : fLr r_X12_operand [.ref (B 343), .int c] w rv w1 := hx
  have ha1 := ha.keep h.1 hx bl_383 bt_383 (by decide) (by decide)
  obtain ⟨rfl, a1⟩ := s_X12_operand (B, runA (vo_g fr f) i.toInt.toNat, c) w w1 rv hx ⟨h, ⟨(show (runA (vo_g fr f) i.toInt.toNat).2.1 < 59 by omega), (show (runA (vo_g fr f) i.toInt.toNat).1.1 < 60 by omega)⟩, hcs⟩
  have a1 : mS B (mpA c (runA (vo_g fr f) i.toInt.toNat)) w1 := a1
  rw [chA_mp hcs] at a1
  refine ⟨fun hA => ⟨fun hB => ?_, fun hB => ⟨fun hC => ?_, fun hC => ?_⟩⟩, fun hA => ⟨fun hB => ?_, fun hB => ⟨fun hC => ?_, fun hC => ?_⟩⟩⟩
  · have hB : c.toInt = (45 : Int32).toInt := hB
    rw [e45] at hB
    obtain ⟨rfl, rfl⟩ : b' = true ∧ M = o.toInt.toNat := by
      rcases cs with y | y | y
      · omega
      · exact y.2
      · have y1 := y.1
        unfold okc at y1
        omega
    exact q_nxt (i := i) (o := o) (o' := o + 0) (b' := true) ⟨rfl, rfl, rfl, rfl, rfl, rfl, trivial⟩ hq hqi a1 ha1 (z_add o0) oN
  · have hA : ¬ c.toInt = (40 : Int32).toInt := hA
    rw [e40] at hA
    have hB : ¬ c.toInt = (45 : Int32).toInt := hB
    rw [e45] at hB
    obtain ⟨rfl, rfl⟩ : b' = false ∧ M = o.toInt.toNat := by
      rcases cs with y | y | y
      · exact absurd y.1 hA
      · exact absurd y.1 hB
      · exact y.2
    exact q_nxt (i := i) (o := o) (o' := o + 0) (b' := false) ⟨rfl, rfl, rfl, rfl, rfl, rfl, trivial⟩ hq hqi a1 ha1 (z_add o0) oN
  · have hA : ¬ c.toInt = (40 : Int32).toInt := hA
    have hC : ¬ ¬ c.toInt = (40 : Int32).toInt := hC
    exact absurd hA hC
  · have hA : ¬ ¬ c.toInt = (40 : Int32).toInt := hA
    rw [e40] at hA
    have hB : c.toInt = (45 : Int32).toInt := hB
    rw [e45] at hB
    exact absurd (fun z : c.toInt = 40 => absurd (z.symm.trans hB) (by decide)) hA
  · have hA : ¬ ¬ c.toInt = (40 : Int32).toInt := hA
    have hC : ¬ c.toInt = (40 : Int32).toInt := hC
    exact absurd hC hA
  · have hA : ¬ ¬ c.toInt = (40 : Int32).toInt := hA
    rw [e40] at hA
    have hA : c.toInt = 40 := Classical.not_not.mp hA
    obtain ⟨rfl, rfl⟩ : b' = true ∧ M = o.toInt.toNat + 1 := by
      rcases cs with y | y | y
      · exact y.2
      · omega
      · have y1 := y.1
        unfold okc at y1
        omega
    have ho : (o + 1).toInt = ((o.toInt.toNat + 1 : Nat) : Int) := i_incN o0 (by omega)
    exact q_nxt (i := i) (o := o) (o' := o + 1) (b' := true) ⟨rfl, rfl, rfl, rfl, rfl, rfl, trivial⟩ hq hqi a1 ha1 ho oN1
set_option maxHeartbeats 8000000 in
theorem qa_h166 (n60 : n.toInt ≤ 60) : ∀ (lg : fL_) (vs : List Value) (w : lW), in_qo B fr n f false lg vs w → ∃ (L : fL_) (fu : Nat), f_sub L lg ∧ wh oW T_X12_parse Sp_pa (qa_Q (B, fr, n, f) w0) K_X12_parse (qa_hd (B, fr, n, f) w0) fu 166 L vs w := by
  rintro lg vs w ⟨i, o, c, b', M, hs, rfl, hq, hqi⟩
  obtain ⟨h, ha, ⟨i0, i1⟩, ⟨o0, o1⟩, hok, hac⟩ := id hq
  obtain ⟨hin, hc, hst, -⟩ := id hqi
  have e41 : (41 : Int32).toInt = 41 := by decide
  have oN : o.toInt.toNat ≤ i.toInt.toNat + 1 := by omega
  have oN2 : o.toInt.toNat - 1 ≤ i.toInt.toNat + 1 := by omega
  have cs : (0 < (rkc c).toInt ∧ b' = true ∧ M = o.toInt.toNat) ∨ (c.toInt = 41 ∧ 0 < o.toInt.toNat ∧ b' = false ∧ M = o.toInt.toNat - 1) := by
    rcases st_case hst with ⟨y, -⟩ | ⟨-, y⟩
    · cases y
    · exact y
  have hcs : 0 < (rkc c).toInt ∨ (c.toInt = 41 ∧ 0 < o.toInt.toNat) := cs.imp (fun y => y.1) (fun y => ⟨y.1, y.2.1⟩)
  refine ⟨_, 60, hs, ?_⟩
  intro rv w1 hx
  have hx : fLr r_X12_operator [.ref (B 343), .int c] w rv w1 := hx
  have ha1 := ha.keep h.1 hx bl_383 bt_383 (by decide) (by decide)
  obtain ⟨rfl, a1⟩ := s_X12_operator (B, (o.toInt.toNat, i.toInt.toNat, runA (vo_g fr f) i.toInt.toNat), c) w w1 rv hx ⟨h, hok, (show i.toInt.toNat ≤ 60 by omega), hcs⟩
  have a1 : mS B (chA c (runA (vo_g fr f) i.toInt.toNat)) w1 := a1
  refine ⟨fun hA => ⟨fun hB => ?_, fun hB => ?_⟩, fun hA => ⟨fun hB => ?_, fun hB => ?_⟩⟩
  · have hA : ¬ c.toInt = (41 : Int32).toInt := hA
    have hB : c.toInt = (41 : Int32).toInt := hB
    exact absurd hB hA
  · have hA : ¬ c.toInt = (41 : Int32).toInt := hA
    rw [e41] at hA
    obtain ⟨rfl, rfl⟩ : b' = true ∧ M = o.toInt.toNat := (cs.resolve_right (fun y => hA y.1)).2
    exact q_nxt (i := i) (o := o) (o' := o - 0) (b' := true) ⟨rfl, rfl, rfl, rfl, rfl, rfl, trivial⟩ hq hqi a1 ha1 (z_sub o0) oN
  · have hA : ¬ ¬ c.toInt = (41 : Int32).toInt := hA
    rw [e41] at hA
    have hA : c.toInt = 41 := Classical.not_not.mp hA
    obtain ⟨hg, rfl, rfl⟩ : 0 < o.toInt.toNat ∧ b' = false ∧ M = o.toInt.toNat - 1 := (cs.resolve_left (fun y => by have y := rk_b.mp y.1; omega)).2
    exact q_nxt (i := i) (o := o) (o' := o - 1) (b' := false) ⟨rfl, rfl, rfl, rfl, rfl, rfl, trivial⟩ hq hqi a1 ha1 (z_dec (by omega)) oN2
  · have hA : ¬ ¬ c.toInt = (41 : Int32).toInt := hA
    have hB : ¬ c.toInt = (41 : Int32).toInt := hB
    exact absurd hB hA
set_option maxHeartbeats 8000000 in
theorem qa_h218 : ∀ (lg : fL_) (vs : List Value) (w : lW), in_qb B fr n f lg vs w → ∃ (L : fL_) (fu : Nat), f_sub L lg ∧ wh oW T_X12_parse Sp_pa (qa_Q (B, fr, n, f) w0) K_X12_parse (qa_hd (B, fr, n, f) w0) fu 218 L vs w := by
  rintro lg vs w ⟨s, hs, rfl, h, eT, e0, hK, v60, vp⟩
  obtain ⟨x, g1, ex⟩ := mX.gm h
  refine ⟨_, 40, hs, fun hc => ?_, fun hc => ?_⟩
  · have hc : (iv (eG fl_X12 167 (hof w.1 (B 343)))).toInt ≤ 0 := hc
    rw [g1] at hc
    have hc : x.toInt ≤ 0 := hc
    have es := bdS_no (L := 1) (s := s) (Or.inl (by omega))
    rw [es] at eT vp
    obtain ⟨g, hg, hg2⟩ := h.2.2.2.2
    refine ⟨rfl, g, hg, fun y hy => ?_⟩
    have z := hg2 0 vp y hy
    rw [show 4 * 0 + y = y by omega, eT] at z
    exact z
  · have hc : ¬ (iv (eG fl_X12 167 (hof w.1 (B 343)))).toInt ≤ 0 := hc
    rw [g1] at hc
    have hc : ¬ x.toInt ≤ 0 := hc
    have m0 : 0 < s.1.1 := by omega
    have hr : 1 ≤ (rkc (s.1.2 (s.1.1 - 1))).toInt := by
      refine Classical.byContradiction (fun z => ?_)
      rw [bdS_no (Or.inr z)] at e0
      omega
    obtain ⟨k2, hK2⟩ := bdK_yes hK m0 hr
    have ey := bdS_yes m0 hr
    intro rv w1 hx
    have hx : fLr r_X12_reduce [.ref (B 343)] w rv w1 := hx
    obtain ⟨rfl, a1⟩ := s_X12_reduce (B, s) w w1 rv hx ⟨h, m0, k2, v60⟩
    rw [ey] at eT e0 vp
    exact ⟨redS s, ⟨rfl, trivial⟩, rfl, a1, eT, e0, hK2, (show s.2.1 - 1 ≤ 60 by omega), vp⟩
end
set_option maxHeartbeats 4000000 in
theorem s7_X12_parse : ∀ (a : qaA) (w w' : lW) (rv : Option Value), fLr r_X12_parse (qa_F a) w rv w' → qa_P a w → qa_Q a w rv w' := by
  refine do_ofW qa_F qa_P qa_Q Sp_pa qa_hd 60 fo_X12 Sp_pa_ok k_X12_parse (fun a w0 hp => ?_) (fun a w0 hp hd0 => ?_)
  · obtain ⟨B, fr, n, f⟩ := a
    obtain ⟨-, -, ⟨fr0, n0, n60, f240⟩, -⟩ := hp
    exact List.forall_mem_cons.mpr ⟨qa_h18 fr0 n60 f240, List.forall_mem_cons.mpr ⟨qa_h86 n60, List.forall_mem_cons.mpr ⟨qa_h166 n60, List.forall_mem_cons.mpr ⟨qa_h218, fun _ h => absurd h List.not_mem_nil⟩⟩⟩⟩
  · obtain ⟨B, fr, n, f⟩ := a
    obtain ⟨⟨km, kv, h⟩, ha, ⟨fr0, n0, n60, f240⟩, hac⟩ := hp
    have n0 : 0 ≤ n.toInt := n0
    have z0 : (Int32.ofInt 0).toInt = ((0 : Nat) : Int) := by decide
    have e0 : (0 : Int32).toInt = 0 := by decide
    intro q e1 hq
    have hq : w0.1[q]? = some (B 343, e1) := hq
    have h1 := h.pv hq (E := .int (Int32.ofInt 0)) rfl z0
    have u1 : aI B 383 240 f (w0.1.set q (B 343, sG pl_X12 162 (.int (Int32.ofInt 0)) (hof w0.1 (B 343))), w0.2) := by
      obtain ⟨x, ox, -⟩ := h.2.2.1
      obtain ⟨-, b2, -, -⟩ := oF.put (v' := .int (Int32.ofInt 0)) (i := 162) (pl := pl_X12) h.1 ox bl_343 hq rfl (fun r h => by have h : some ((1, 0, 0) : mk_V) = some (2, 0, r) := h; cases h)
      exact ha.upd h.1 bl_383 bl_343 (by decide) b2
    intro q2 e2 hq2
    have hq2 : (w0.1.set q (B 343, sG pl_X12 162 (.int (Int32.ofInt 0)) (hof w0.1 (B 343))))[q2]? = some (B 343, e2) := hq2
    have h2 := h1.pm hq2 (E := .int (Int32.ofInt 0)) rfl z0
    have u2 : aI B 383 240 f ((w0.1.set q (B 343, sG pl_X12 162 (.int (Int32.ofInt 0)) (hof w0.1 (B 343)))).set q2 (B 343, sG pl_X12 167 (.int (Int32.ofInt 0)) (hof (w0.1.set q (B 343, sG pl_X12 162 (.int (Int32.ofInt 0)) (hof w0.1 (B 343)))) (B 343))), w0.2) := by
      obtain ⟨x, ox, -⟩ := h1.2.1
      obtain ⟨-, b2, -, -⟩ := oF.put (v' := .int (Int32.ofInt 0)) (i := 167) (pl := pl_X12) h1.1 ox bl_343 hq2 rfl (fun r h => by have h : some ((1, 0, 0) : mk_V) = some (2, 0, r) := h; cases h)
      exact u1.upd h1.1 bl_383 bl_343 (by decide) b2
    exact ⟨0, 0, true, ⟨rfl, rfl, rfl, rfl, rfl, rfl, trivial⟩, rfl, h2, u2, ⟨by decide, (show (0 : Int32).toInt ≤ n.toInt by rw [e0]; exact n0)⟩, ⟨by decide, by decide⟩, okS_0, hac⟩
end
section
/-! read, with the sentences' worlds -/
theorem aJ.of {B : Nat → Nat} {w : lW} (hb : bI B w) {tys : List (ClassId × FieldType)} (hw : ck_wo tys cw_TT cw_SG w.1 w.2) {q n t k0 : Nat} {l : List ck_T} {c : mk_C} (hc : lp_L2[q]? = some c) (ht : lp_sh[q]? = some t) (hT : cw_TT[t]? = some (2, n, k0, l)) : ∃ g, aJ B q n g w := by
  obtain ⟨e, h1, h2, -⟩ := hb.2.h hb.1 hc
  obtain ⟨td, d1, d2⟩ := hw.2.1 q _ e t h1 (hb.2.1 q t ht)
  have e1 : td = _ := Option.some.inj (d1.symm.trans hT)
  subst e1
  obtain ⟨cA, f, -, rfl⟩ := d2
  exact ⟨f, cA, h2⟩
theorem oF.of {B : Nat → Nat} {w : lW} (hb : bI B w) {tys : List (ClassId × FieldType)} (hw : ck_wo tys cw_TT cw_SG w.1 w.2) {q ci k t k0 : Nat} {lo hi : Int} {l : List ck_T} {c : mk_C} (hc : lp_L2[q]? = some c) (ht : lp_sh[q]? = some t) (hT : cw_TT[t]? = some (0, ci, k0, l)) (hk : l[k]? = some (0, lo, hi, [])) : ∃ x : Int32, oF B q ci k (.int x) w ∧ lo ≤ x.toInt ∧ x.toInt ≤ hi := by
  obtain ⟨e, h1, h2, -⟩ := hb.2.h hb.1 hc
  obtain ⟨td, d1, d2⟩ := hw.2.1 q _ e t h1 (hb.2.1 q t ht)
  have e1 : td = _ := Option.some.inj (d1.symm.trans hT)
  subst e1
  obtain ⟨vs, rfl, hl, hf⟩ := d2
  obtain ⟨v, g1, g2⟩ := hf k (0, lo, hi, []) hk
  obtain ⟨y, rfl, y0, y1⟩ := (show ∃ y : Int32, v = .int y ∧ lo ≤ y.toInt ∧ y.toInt ≤ hi from g2)
  refine ⟨y, ⟨vs, h2, (List.getElem?_eq_some_iff.mp g1).1, ?_⟩, y0, y1⟩
  rw [List.getD_eq_getElem?_getD, g1]
  rfl
theorem wS.of {B : Nat → Nat} {w : lW} (hb : bI B w) {tys : List (ClassId × FieldType)} (hw : ck_wo tys cw_TT cw_SG w.1 w.2) : ∃ W, wS B W w := by
  refine ⟨fun i => eJ (hof w.1 (B (3 + 2 * i))), fun i hi => ?_⟩
  obtain ⟨g, cA, h⟩ := aJ.of hb hw (bl_W i hi) (bt_W i hi) (show cw_TT[87]? = some (2, 4, _, _) from rfl)
  refine ⟨cA, ?_⟩
  show hof w.1 (B (3 + 2 * i)) = some (.inl (cA, 4, .inr (.inl (eJ (hof w.1 (B (3 + 2 * i)))))))
  rw [h]
  rfl
theorem rX.of {B : Nat → Nat} {w : lW} (hb : bI B w) {tys : List (ClassId × FieldType)} (hw : ck_wo tys cw_TT cw_SG w.1 w.2) (g : Nat → Int32) : ∃ km kv, rX B (runA g 0) km kv w := by
  obtain ⟨x, x1, x2, -⟩ := oF.of hb hw bl_126 bt_126 (show cw_TT[12]? = some (0, 7, _, _) from rfl) (k := 2) (show _ = some (0, 0, 60, []) from rfl)
  obtain ⟨y, y1, y2, -⟩ := oF.of hb hw bl_126 bt_126 (show cw_TT[12]? = some (0, 7, _, _) from rfl) (k := 3) (show _ = some (0, 0, 32, []) from rfl)
  obtain ⟨f, hf⟩ := aI.of hb hw bl_127 bt_127 (show cw_TT[25]? = some (1, 60, _, _) from rfl)
  refine ⟨x.toInt.toNat, y.toInt.toNat, hb, ⟨x, x1, by omega⟩, ⟨y, y1, by omega⟩, ⟨f, hf, fun j hj => absurd hj (Nat.not_lt_zero j)⟩, ⟨fun i => eJ (hof w.1 (B (130 + 2 * i))), fun i hi => ?_, fun i hi => absurd hi (Nat.not_lt_zero i)⟩, vR.of hb hw⟩
  obtain ⟨g, cA, h⟩ := aJ.of hb hw (bl_VW i hi) (bt_VW i hi) (show cw_TT[93]? = some (2, 4, _, _) from rfl)
  refine ⟨cA, ?_⟩
  show hof w.1 (B (130 + 2 * i)) = some (.inl (cA, 4, .inr (.inl (eJ (hof w.1 (B (130 + 2 * i)))))))
  rw [h]
  rfl
theorem mX.of {B : Nat → Nat} {w : lW} (hb : bI B w) {tys : List (ClassId × FieldType)} (hw : ck_wo tys cw_TT cw_SG w.1 w.2) (g : Nat → Int32) : ∃ km kv, mX B (runA g 0) km kv w := by
  obtain ⟨x, x1, x2, -⟩ := oF.of hb hw bl_343 bt_343 (show cw_TT[17]? = some (0, 12, _, _) from rfl) (k := 7) (show _ = some (0, 0, 64, []) from rfl)
  obtain ⟨y, y1, y2, -⟩ := oF.of hb hw bl_343 bt_343 (show cw_TT[17]? = some (0, 12, _, _) from rfl) (k := 5) (show _ = some (0, 0, 64, []) from rfl)
  obtain ⟨f, hf⟩ := aI.of hb hw bl_347 bt_347 (show cw_TT[48]? = some (1, 64, _, _) from rfl)
  obtain ⟨v, hv⟩ := aJ.of hb hw bl_346 bt_346 (show cw_TT[47]? = some (2, 256, _, _) from rfl)
  exact ⟨x.toInt.toNat, y.toInt.toNat, hb, ⟨x, x1, by omega⟩, ⟨y, y1, by omega⟩, ⟨f, hf, fun j hj => absurd hj (Nat.not_lt_zero j)⟩, ⟨v, hv, fun i hi => absurd hi (Nat.not_lt_zero i)⟩⟩
theorem acA_ge {g : Nat → Int32} : ∀ {m i : Nat} {s : Bool × Nat}, -1 ≤ acA g m i s
  | 0, i, s => by
    unfold acA
    split <;> omega
  | m + 1, i, s => by
    unfold acA
    split
    · exact acA_ge
    · omega
def r6O (B : Nat → Nat) (c : Int32) (W : Nat → Nat → Int64) (V : Nat → Int64) (w' : lW) : Prop := ∃ (c' : Int32) (W' : Nat → Nat → Int64), oF B 0 11 1 (.int c') w' ∧ wS B W' w' ∧ ((c'.toInt = c.toInt ∧ ∀ i x, W' i x = W i x) ∨ (c'.toInt = c.toInt + 1 ∧ (∀ i, i ≠ c.toInt.toNat → W' i = W i) ∧ ∀ x, x < 4 → W' c.toInt.toNat x = V x))
abbrev r6A : Type := rdA × (Nat → Nat → Int64)
def r6_F (a : r6A) : List Value := rd_F a.1
def r6_P : r6A → lW → Prop := fun ((B, c, l, z, r, k, lane, i, n), W) w => rd_P (B, c, l, z, r, k, lane, i, n) w ∧ wS B W w
def r6_V (r : Nat → Nat → Int32) (k i n : Int32) : Nat → Int64 := txtW (vo_g i (r k.toInt.toNat)) n.toInt.toNat
def r6_Q : r6A → lW → Option Value → lW → Prop := fun ((B, c, _, _, r, k, _, i, n), W) _ _ w' => r6O B c W (r6_V r k i n) w'
def in_65 (B : Nat → Nat) (c : Int32) (l z : Nat → Int32) (r : Nat → Nat → Int32) (k lane i n : Int32) (W : Nat → Nat → Int64) : fL_ → List Value → lW → Prop := fun lg vs w => in_r5 B c l z r k lane i n lg vs w ∧ wS B W w
def in_666 (B : Nat → Nat) (c : Int32) (l z : Nat → Int32) (r : Nat → Nat → Int32) (k lane i n : Int32) (W : Nat → Nat → Int64) : fL_ → List Value → lW → Prop := fun lg vs w => in_r66 B c l z r k lane i n lg vs w ∧ wS B W w
def in_6100 (B : Nat → Nat) (c : Int32) (l z : Nat → Int32) (r : Nat → Nat → Int32) (k lane i n : Int32) (W : Nat → Nat → Int64) : fL_ → List Value → lW → Prop := fun lg vs w => in_r100 B c l z r k lane i n lg vs w ∧ wS B W w
def r6_hd : r6A → lW → fI lW := fun ((B, c, l, z, r, k, lane, i, n), W) _ => [(5, in_65 B c l z r k lane i n W), (66, in_666 B c l z r k lane i n W), (100, in_6100 B c l z r k lane i n W)]
section
variable {B : Nat → Nat} {c : Int32} {l z : Nat → Int32} {r : Nat → Nat → Int32} {k lane i n : Int32} {W : Nat → Nat → Int64} {w0 : lW}
theorem r6_no {w : lW} {V : Nat → Int64} (h1 : oF B 0 11 1 (.int c) w) (h2 : wS B W w) : r6O B c W V w := ⟨c, W, h1, h2, Or.inl ⟨rfl, fun _ _ => rfl⟩⟩
theorem r6_flt {x : Int32} {w w3 : lW} {rv : Option Value} {V : Nat → Int64} (hI : dI B c l z r w) (hW : wS B W w) (hx : fLr r_X11_faulted [.ref (B 0), .int x] w rv w3) : ∃ y : Int32, rv = some (.int y) ∧ r6O B c W V w3 := by
  obtain ⟨rfl, a1, -⟩ := cl_flt hI.1 hI.2.2.2.1 hx
  exact ⟨_, rfl, r6_no a1 (hW.keep hI.1 hx (by decide))⟩
set_option maxHeartbeats 4000000 in
theorem r6_h5 : ∀ (lg : fL_) (vs : List Value) (w : lW), in_65 B c l z r k lane i n W lg vs w → ∃ (L : fL_) (f : Nat), f_sub L lg ∧ wh oW T_X11_read Sp_rd (r6_Q ((B, c, l, z, r, k, lane, i, n), W) w0) K_X11_read (r6_hd ((B, c, l, z, r, k, lane, i, n), W) w0) f 5 L vs w := by
  rintro lg vs w ⟨⟨hs, rfl, hI, hF⟩, hW⟩
  refine ⟨_, 60, hs, ?_⟩
  intro rv w1 hx
  have hx : fLr r_X11_isSheet [.int k] w rv w1 := hx
  have hI1 := hI.keep hx (by decide) (by decide)
  have hF1 := hF.keep hI.1 hx bl_0 bt_0 (by decide)
  have hW1 := hW.keep hI.1 hx (by decide)
  obtain ⟨-, rfl⟩ := (s_X11_isSheet _ _ _ _ _ _ hx).2 k rfl trivial
  refine ⟨fun hk => ?_, fun hk => ?_⟩
  rotate_left
  · exact r6_no hI1.2.2.2.1 hW1
  have hk : ¬ (if 0 ≤ k.toInt ∧ k.toInt < 4 then (1 : Int32) else 0).toInt = 0 := hk
  have hk : 0 ≤ k.toInt ∧ k.toInt < 4 := by
    by_cases h : 0 ≤ k.toInt ∧ k.toInt < 4
    · exact h
    · rw [if_neg h] at hk
      exact absurd rfl hk
  intro rv w2 hx2
  have hx2 : fLr r_X11_isLane [.int lane] w1 rv w2 := hx2
  have hI2 := hI1.keep hx2 (by decide) (by decide)
  have hF2 := hF1.keep hI1.1 hx2 bl_0 bt_0 (by decide)
  have hW2 := hW1.keep hI1.1 hx2 (by decide)
  obtain ⟨-, rfl⟩ := (s_X11_isLane _ _ _ _ _ _ hx2).2 lane rfl trivial
  refine ⟨fun hl => ?_, fun hl => ?_⟩
  rotate_left
  · exact r6_no hI2.2.2.2.1 hW2
  have hl : ¬ (if 0 ≤ lane.toInt ∧ lane.toInt < 3 then (1 : Int32) else 0).toInt = 0 := hl
  have hl : 0 ≤ lane.toInt ∧ lane.toInt < 3 := by
    by_cases h : 0 ≤ lane.toInt ∧ lane.toInt < 3
    · exact h
    · rw [if_neg h] at hl
      exact absurd rfl hl
  have em : (Int32.ofInt (-1)).toInt = -1 := by decide
  refine ⟨fun ha => ⟨fun hb => ?_, fun hb => ?_⟩, fun ha => ⟨fun hb => ⟨fun hd => ?_, fun hd => ?_⟩, fun hb => ?_⟩⟩
  · have ha : (eI (hof w2.1 (rv_ (eG fl_X11 77 (hof w2.1 (B 0))))) k.toNatClampNeg).toInt = (Int32.ofInt (-1)).toInt := ha
    have hb : ¬ (eI (hof w2.1 (rv_ (eG fl_X11 77 (hof w2.1 (B 0))))) k.toNatClampNeg).toInt = (Int32.ofInt (-1)).toInt := hb
    exact absurd ha hb
  · intro rv w3 hx3
    obtain ⟨x, rfl, h⟩ := r6_flt (x := 1) hI2 hW2 hx3
    exact h
  · have ha : ¬ (eI (hof w2.1 (rv_ (eG fl_X11 77 (hof w2.1 (B 0))))) k.toNatClampNeg).toInt = (Int32.ofInt (-1)).toInt := ha
    rw [g_lan hI2, em] at ha
    have hb : (eI (hof w2.1 (rv_ (eG fl_X11 77 (hof w2.1 (B 0))))) k.toNatClampNeg).toInt = lane.toInt := hb
    rw [g_lan hI2] at hb
    exact ⟨⟨⟨⟨rfl, rfl, rfl, rfl, rfl, trivial⟩, rfl, hI2, hF2⟩, hk, hl, ha, hb⟩, hW2⟩
  · have ha : ¬ (eI (hof w2.1 (rv_ (eG fl_X11 77 (hof w2.1 (B 0))))) k.toNatClampNeg).toInt = (Int32.ofInt (-1)).toInt := ha
    have hd : ¬ ¬ (eI (hof w2.1 (rv_ (eG fl_X11 77 (hof w2.1 (B 0))))) k.toNatClampNeg).toInt = (Int32.ofInt (-1)).toInt := hd
    exact absurd ha hd
  · intro rv w3 hx3
    obtain ⟨x, rfl, h⟩ := r6_flt (x := 2) hI2 hW2 hx3
    exact h
set_option maxHeartbeats 4000000 in
theorem r6_h66 (hz : ∀ k, k < 4 → (l k).toInt = -1 ∨ (0 ≤ (z k).toInt ∧ (z k).toInt ≤ 60)) : ∀ (lg : fL_) (vs : List Value) (w : lW), in_666 B c l z r k lane i n W lg vs w → ∃ (L : fL_) (f : Nat), f_sub L lg ∧ wh oW T_X11_read Sp_rd (r6_Q ((B, c, l, z, r, k, lane, i, n), W) w0) K_X11_read (r6_hd ((B, c, l, z, r, k, lane, i, n), W) w0) f 66 L vs w := by
  rintro lg vs w ⟨⟨⟨hs, rfl, hI, hF⟩, hk, hl, ha, hb⟩, hW⟩
  obtain ⟨z0, z60⟩ := (hz k.toInt.toNat (by omega)).resolve_left ha
  have hN := Int32.toInt_lt n
  refine ⟨_, 60, hs, fun hn => ?_, fun hn => ?_⟩
  rotate_left
  · intro rv w3 hx3
    obtain ⟨x, rfl, h⟩ := r6_flt (x := 4) hI hW hx3
    exact h
  have hn : 0 ≤ n.toInt := hn
  refine ⟨fun hi => ?_, fun hi => ⟨fun hj => ?_, fun hj => ?_⟩⟩
  · intro rv w3 hx3
    obtain ⟨x, rfl, h⟩ := r6_flt (x := 3) hI hW hx3
    exact h
  · have hi : ¬ i.toInt < 0 := hi
    have hj : i.toInt ≤ (eI (hof w.1 (rv_ (eG fl_X11 87 (hof w.1 (B 0))))) k.toNatClampNeg - n).toInt := hj
    rw [g_siz hI, i_sub (by omega) (by omega)] at hj
    exact ⟨⟨⟨⟨⟨rfl, rfl, rfl, rfl, rfl, trivial⟩, rfl, hI, hF⟩, hk, hl, ha, hb⟩, hn, (show 0 ≤ i.toInt by omega), (show i.toInt + n.toInt ≤ (z k.toInt.toNat).toInt by omega)⟩, hW⟩
  · intro rv w3 hx3
    obtain ⟨x, rfl, h⟩ := r6_flt (x := 3) hI hW hx3
    exact h
set_option maxHeartbeats 4000000 in
theorem r6_h100 (hc60 : 0 ≤ c.toInt ∧ c.toInt ≤ 60) (hz : ∀ k, k < 4 → (l k).toInt = -1 ∨ (0 ≤ (z k).toInt ∧ (z k).toInt ≤ 60)) : ∀ (lg : fL_) (vs : List Value) (w : lW), in_6100 B c l z r k lane i n W lg vs w → ∃ (L : fL_) (f : Nat), f_sub L lg ∧ wh oW T_X11_read Sp_rd (r6_Q ((B, c, l, z, r, k, lane, i, n), W) w0) K_X11_read (r6_hd ((B, c, l, z, r, k, lane, i, n), W) w0) f 100 L vs w := by
  rintro lg vs w ⟨⟨⟨⟨hs, rfl, hI, hF⟩, hk, hl, ha, hb⟩, hn, hi, hj⟩, hW⟩
  obtain ⟨z0, z60⟩ := (hz k.toInt.toNat (by omega)).resolve_left ha
  have e60 : (Int32.ofNat 60).toInt = 60 := by decide
  refine ⟨_, 60, hs, fun hf => ?_, fun hf => ?_⟩
  rotate_left
  · exact r6_no hI.2.2.2.1 hW
  have hf : (iv (eG fl_X11 108 (hof w.1 (B 0)))).toInt < (Int32.ofNat (eL (hof w.1 (rv_ (eG fl_X11 15 (hof w.1 (B 0))))))).toInt := hf
  rw [g_cnt hI.2.2.2.1, g_len hI.1 hI.2.2.2.1 hI.2.1, e60] at hf
  have hf : c.toInt < 60 := hf
  have er : eG fl_X11 34 (hof w.1 (B 0)) = .ref (B 126) := (hI.2.2.2.1.ref hI.1 bl_0 (show _ = some (2, 0, 126) from rfl)).get rfl
  intro rv w1 hx
  have hx : fLr r_X7_firstFault [eG fl_X11 34 (hof w.1 (B 0)), eR (hof w.1 (rv_ (eG fl_X11 74 (hof w.1 (B 0))))) k.toNatClampNeg, .int i, .int n] w rv w1 := hx
  rw [er, g_row hI hk] at hx
  have hI1 := hI.keep hx (by decide) (by decide)
  have hW1 := hW.keep hI.1 hx (by decide)
  obtain ⟨cA, hr⟩ := hI.2.2.2.2.2.2 k.toInt.toNat (by omega)
  obtain ⟨-, x, rfl, ex⟩ := (s_X7_firstFault _ _ _ _ _ _ hx).2 (B 126, B (336 + k.toInt.toNat), i, n, cA, r k.toInt.toNat) rfl ⟨hr, hi, hn, (show i.toInt + n.toInt ≤ 60 by omega)⟩
  have ex : x.toInt = acA (vo_g i (r k.toInt.toNat)) n.toInt.toNat 0 (true, 0) := ex
  have ge := acA_ge (g := vo_g i (r k.toInt.toNat)) (m := n.toInt.toNat) (i := 0) (s := (true, 0))
  refine ⟨fun hw => ?_, fun hw => ?_⟩
  rotate_left
  · exact r6_no hI1.2.2.2.1 hW1
  have hw : x.toInt < 0 := hw
  have hacc : acA (vo_g i (r k.toInt.toNat)) n.toInt.toNat 0 (true, 0) = -1 := by omega
  have er1 : eG fl_X11 34 (hof w1.1 (B 0)) = .ref (B 126) := (hI1.2.2.2.1.ref hI1.1 bl_0 (show _ = some (2, 0, 126) from rfl)).get rfl
  intro rv w2 hx2
  have hx2 : fLr r_X7_valueOf [eG fl_X11 34 (hof w1.1 (B 0)), eR (hof w1.1 (rv_ (eG fl_X11 74 (hof w1.1 (B 0))))) k.toNatClampNeg, .int i, .int n] w1 rv w2 := hx2
  rw [er1, g_row hI1 hk] at hx2
  have hI2 := hI1.keep hx2 (by decide) (by decide)
  have hW2 := hW1.keep hI1.1 hx2 (by decide)
  obtain ⟨tys, hwo1, -⟩ := hx2.2.2.2.2.1
  obtain ⟨rfl, V, hV, hV2⟩ := s_X7_valueOf (B, k.toInt.toNat, i, n, r k.toInt.toNat) w1 w2 rv hx2 ⟨by omega, rX.of hI1.1 hwo1 _, hI1.2.2.2.2.2.2 k.toInt.toNat (by omega), ⟨hi, hn, by omega⟩, hacc⟩
  have gs : eR (hof w1.1 (rv_ (eG fl_X11 15 (hof w1.1 (B 0))))) (iv (eG fl_X11 108 (hof w1.1 (B 0)))).toNatClampNeg = .ref (B (2 + 2 * c.toInt.toNat)) := g_sent ⟨hI1.1, hI1.2.1, hI1.2.2.2.1⟩ hc60.1 hf
  intro rv w3 hx3
  have hx3 : fLr r_X1_become [eR (hof w1.1 (rv_ (eG fl_X11 15 (hof w1.1 (B 0))))) (iv (eG fl_X11 108 (hof w1.1 (B 0)))).toNatClampNeg, .ref (B 129)] w2 rv w3 := hx3
  rw [gs] at hx3
  have hI3 := hI2.keep hx3 (by decide) (by decide)
  obtain ⟨tys2, hwo2, -⟩ := hx3.2.2.2.2.1
  obtain ⟨fs1, c1, b1⟩ := hW2.bx hI2.1 hwo2 (i := c.toInt.toNat) (by omega)
  obtain ⟨fs2, c2, b2⟩ := hV.bx hI2.1 hwo2 (i := 0) (by decide)
  obtain ⟨rfl, g, e, hg⟩ := (s_X1_become _ _ _ _ _ _ hx3).2 (_, _) rfl ⟨b1, b2⟩
  have hW3 := hW2.upd (w' := w3) hI2.1 (C := c.toInt.toNat) (by omega) e
  intro rv w4 hx4
  have hx4 : fLr r_X11_newSentence [.ref (B 0)] w3 rv w4 := hx4
  obtain ⟨rfl, a1⟩ := cl_new hI3.1 hI3.2.2.2.1 hx4
  refine ⟨c + 1, _, a1, hW3.keep hI3.1 hx4 (by decide), Or.inr ⟨i_inc hc60.1 (by omega), fun j hj => ?_, fun y hy => ?_⟩⟩
  · show (if j = c.toInt.toNat then g else W j) = W j
    rw [if_neg hj]
  · show (if c.toInt.toNat = c.toInt.toNat then g else W c.toInt.toNat) y = r6_V r k i n y
    rw [if_pos rfl, hg y hy]
    exact hV2 y hy
end
theorem s6_X11_read : ∀ (a : r6A) (w w' : lW) (rv : Option Value), fLr r_X11_read (r6_F a) w rv w' → r6_P a w → r6_Q a w rv w' := by
  refine do_ofW r6_F r6_P r6_Q Sp_rd r6_hd 40 fo_X11 Sp_rd_ok k_X11_read (fun a w0 hp => ?_) (fun a w0 hp hd0 => ?_)
  · obtain ⟨⟨B, c, l, z, r, k, lane, i, n⟩, W⟩ := a
    obtain ⟨⟨-, -, hc60, hz⟩, -⟩ := hp
    exact List.forall_mem_cons.mpr ⟨r6_h5, List.forall_mem_cons.mpr ⟨r6_h66 hz, List.forall_mem_cons.mpr ⟨r6_h100 hc60 hz, fun _ h => absurd h List.not_mem_nil⟩⟩⟩
  · obtain ⟨⟨B, c, l, z, r, k, lane, i, n⟩, W⟩ := a
    obtain ⟨⟨hI, ⟨u, hu⟩, -, -⟩, hW⟩ := hp
    have hI : dI B c l z r w0 := hI
    have hu : oF B 0 11 14 u w0 := hu
    have hW : wS B W w0 := hW
    intro q e0 hq
    have hq : w0.1[q]? = some (B 0, e0) := hq
    obtain ⟨a1, a2⟩ := hI.put (x := 0) hu hq
    obtain ⟨-, b2, -, -⟩ := oF.put (v' := .int 0) (i := 93) (pl := pl_X11) hI.1 hu bl_0 hq rfl (fun r h => by have h : some ((1, 0, 0) : mk_V) = some (2, 0, r) := h; cases h)
    exact ⟨⟨⟨rfl, rfl, rfl, rfl, rfl, trivial⟩, rfl, a1, a2⟩, fun j hj => (hW j hj).upd hI.1 (bl_W j hj) bl_0 (by omega) b2⟩
end
section
/-! read, with the sentences' worlds: the reference's -/
def r7O (B : Nat → Nat) (c : Int32) (g : Nat → Int64) (V : Nat → Int64) (w' : lW) : Prop := ∃ (c' : Int32) (g' : Nat → Int64), oF B 343 12 1 (.int c') w' ∧ aJ B 344 240 g' w' ∧ ((c'.toInt = c.toInt ∧ ∀ u, g' u = g u) ∨ (c'.toInt = c.toInt + 1 ∧ (∀ u, (u < 4 * c.toInt.toNat ∨ 4 * c.toInt.toNat + 4 ≤ u) → g' u = g u) ∧ ∀ u, u < 4 → g' (4 * c.toInt.toNat + u) = V u))
abbrev r7A : Type := rmA × (Nat → Int64)
def r7_F (a : r7A) : List Value := rm_F a.1
def r7_P : r7A → lW → Prop := fun ((B, c, y, z, f, k, lane, i, n), g) w => rm_P (B, c, y, z, f, k, lane, i, n) w ∧ aJ B 344 240 g w
def r7_V (f : Nat → Int32) (k i n : Int32) : Nat → Int64 := txtW (vo_g (60 * k + i) f) n.toInt.toNat
def r7_Q : r7A → lW → Option Value → lW → Prop := fun ((B, c, _, _, f, k, _, i, n), g) _ _ w' => r7O B c g (r7_V f k i n) w'
def w7 (c : Int32) (V : Nat → Int64) (t : Nat) (g g' : Nat → Int64) : Prop := ∀ u, g' u = if 4 * c.toInt.toNat ≤ u ∧ u < 4 * c.toInt.toNat + t then V (u - 4 * c.toInt.toNat) else g u
def in_732 (B : Nat → Nat) (c : Int32) (y z f : Nat → Int32) (k lane i n : Int32) (g : Nat → Int64) : fL_ → List Value → lW → Prop := fun lg vs w => in_m32 B c y z f k lane i n lg vs w ∧ aJ B 344 240 g w
def in_772 (B : Nat → Nat) (c : Int32) (y z f : Nat → Int32) (k lane i n : Int32) (g : Nat → Int64) : fL_ → List Value → lW → Prop := fun lg vs w => in_m72 B c y z f k lane i n lg vs w ∧ aJ B 344 240 g w
def in_7105 (B : Nat → Nat) (c : Int32) (y z f : Nat → Int32) (k lane i n : Int32) (g : Nat → Int64) : fL_ → List Value → lW → Prop := fun lg vs w => in_m105 B c y z f k lane i n lg vs w ∧ aJ B 344 240 g w
def in_7153 (B : Nat → Nat) (c : Int32) (y z f : Nat → Int32) (g : Nat → Int64) (V : Nat → Int64) : fL_ → List Value → lW → Prop := fun lg vs w => ∃ (t : Int32) (g' gv : Nat → Int64), f_sub [(6, false, .int t), (0, false, .ref (B 343))] lg ∧ vs = [] ∧ mI B c y z f w ∧ aJ B 344 240 g' w ∧ (aJ B 346 256 gv w ∧ ∀ x, x < 4 → gv x = V x) ∧ (0 ≤ t.toInt ∧ t.toInt ≤ 4) ∧ w7 c V t.toInt.toNat g g' ∧ 0 ≤ c.toInt ∧ c.toInt < 60
def in_7196 (B : Nat → Nat) (c : Int32) (y z f : Nat → Int32) (g : Nat → Int64) (V : Nat → Int64) : fL_ → List Value → lW → Prop := fun lg vs w => f_sub [(0, false, .ref (B 343))] lg ∧ vs = [] ∧ mI B (c + 1) y z f w ∧ (∃ g', aJ B 344 240 g' w ∧ w7 c V 4 g g') ∧ 0 ≤ c.toInt ∧ c.toInt < 60
def r7_hd : r7A → lW → fI lW := fun ((B, c, y, z, f, k, lane, i, n), g) _ => [(32, in_732 B c y z f k lane i n g), (72, in_772 B c y z f k lane i n g), (105, in_7105 B c y z f k lane i n g), (153, in_7153 B c y z f g (r7_V f k i n)), (196, in_7196 B c y z f g (r7_V f k i n))]
section
variable {B : Nat → Nat} {c : Int32} {y z f : Nat → Int32} {k lane i n : Int32} {g : Nat → Int64} {w0 : lW}
theorem r7_no {w : lW} {V : Nat → Int64} (h1 : oF B 343 12 1 (.int c) w) (h2 : aJ B 344 240 g w) : r7O B c g V w := ⟨c, g, h1, h2, Or.inl ⟨rfl, fun _ => rfl⟩⟩
theorem r7_ref {x : Int32} {w w3 : lW} {rv : Option Value} {V : Nat → Int64} (hI : mI B c y z f w) (hg : aJ B 344 240 g w) (hx : fLr r_X12_refused [.ref (B 343), .int x] w rv w3) : ∃ u : Int32, rv = some (.int u) ∧ r7O B c g V w3 := by
  obtain ⟨rfl, a1, -⟩ := cl_ref hI hx
  exact ⟨_, rfl, r7_no a1 (hg.keep hI.1 hx bl_344 bt_344 (by decide) (by decide))⟩
theorem r7_fld {x : Int32} {w w3 : lW} {rv : Option Value} {V : Nat → Int64} (hI : mI B c y z f w) (hg : aJ B 344 240 g w) (hx : fLr r_X12_failed [.ref (B 343), .int x] w rv w3) : ∃ u : Int32, rv = some (.int u) ∧ r7O B c g V w3 := by
  obtain ⟨rfl, a1, -⟩ := cl_fld hI hx
  exact ⟨_, rfl, r7_no a1 (hg.keep hI.1 hx bl_344 bt_344 (by decide) (by decide))⟩
set_option maxHeartbeats 4000000 in
theorem r7_en {w : lW} (hI : mI B c y z f w) (hg : aJ B 344 240 g w) : wl oW T_X12_read Sp_rm (r7_Q ((B, c, y, z, f, k, lane, i, n), g) w0) K_X12_read (r7_hd ((B, c, y, z, f, k, lane, i, n), g) w0) 40 K_X12_read 0 (la 0 (r7_F ((B, c, y, z, f, k, lane, i, n), g))) [] w := by
  have e2 : (Int64.ofInt 2).toInt = 2 := by decide
  have e0 : (Int64.ofNat 0).toInt = 0 := by decide
  intro rv w1 hx
  have hx : fLr r_X12_noSheet [.int k] w rv w1 := hx
  have hI1 := hI.keep hx (by decide) (by decide)
  have hg1 := hg.keep hI.1 hx bl_344 bt_344 (by decide) (by decide)
  obtain ⟨-, rfl⟩ := (s_X12_noSheet _ _ _ _ _ _ hx).2 k rfl trivial
  refine ⟨fun hk => ?_, fun hk => ?_⟩
  rotate_left
  · intro rv w3 hx3
    obtain ⟨u, rfl, h⟩ := r7_ref (x := -1) hI1 hg1 hx3
    exact h
  have hk : (if 0 ≤ k.toInt ∧ k.toInt < 4 then (0 : Int32) else 1).toInt = 0 := hk
  have hk : 0 ≤ k.toInt ∧ k.toInt < 4 := by
    by_cases h : 0 ≤ k.toInt ∧ k.toInt < 4
    · exact h
    · rw [if_neg h] at hk
      exact absurd hk (by decide)
  intro rv w2 hx2
  have hx2 : fLr r_X12_in [.long lane.toInt64, .long (Int64.ofNat 0), .long (Int64.ofInt 2)] w1 rv w2 := hx2
  have hI2 := hI1.keep hx2 (by decide) (by decide)
  have hg2 := hg1.keep hI1.1 hx2 bl_344 bt_344 (by decide) (by decide)
  obtain ⟨-, er⟩ := (s_X12_in _ _ _ _ _ _ hx2).2 (lane.toInt64, Int64.ofNat 0, Int64.ofInt 2) rfl trivial
  have er : rv = some (.int (if (Int64.ofNat 0).toInt ≤ lane.toInt64.toInt ∧ lane.toInt64.toInt ≤ (Int64.ofInt 2).toInt then 1 else 0)) := er
  rw [Int32.toInt_toInt64, e0, e2] at er
  subst er
  refine ⟨fun hl => ?_, fun hl => ?_⟩
  rotate_left
  · intro rv w3 hx3
    obtain ⟨u, rfl, h⟩ := r7_ref (x := -2) hI2 hg2 hx3
    exact h
  have hl : ¬ (if 0 ≤ lane.toInt ∧ lane.toInt ≤ 2 then (1 : Int32) else 0).toInt = 0 := hl
  have hl : 0 ≤ lane.toInt ∧ lane.toInt ≤ 2 := by
    by_cases h : 0 ≤ lane.toInt ∧ lane.toInt ≤ 2
    · exact h
    · rw [if_neg h] at hl
      exact absurd rfl hl
  exact ⟨⟨⟨⟨rfl, rfl, rfl, rfl, rfl, trivial⟩, rfl, hI2⟩, hk, ⟨hl.1, by omega⟩⟩, hg2⟩
set_option maxHeartbeats 4000000 in
theorem r7_h32 : ∀ (lg : fL_) (vs : List Value) (w : lW), in_732 B c y z f k lane i n g lg vs w → ∃ (L : fL_) (fu : Nat), f_sub L lg ∧ wh oW T_X12_read Sp_rm (r7_Q ((B, c, y, z, f, k, lane, i, n), g) w0) K_X12_read (r7_hd ((B, c, y, z, f, k, lane, i, n), g) w0) fu 32 L vs w := by
  rintro lg vs w ⟨⟨⟨hs, rfl, hI⟩, hk, hl⟩, hg⟩
  refine ⟨_, 60, hs, fun ha => ⟨fun hb => ?_, fun hb => ?_⟩, fun ha => ⟨fun hb => ⟨fun hd => ?_, fun hd => ?_⟩, fun hb => ?_⟩⟩
  · have ha : (eI (hof w.1 (rv_ (eG fl_X12 124 (hof w.1 (B 343))))) k.toNatClampNeg).toInt < 0 := ha
    have hb : 0 ≤ (eI (hof w.1 (rv_ (eG fl_X12 124 (hof w.1 (B 343))))) k.toNatClampNeg).toInt := hb
    omega
  · intro rv w3 hx3
    obtain ⟨u, rfl, h⟩ := r7_fld (x := 1) hI hg hx3
    exact h
  · have hb : (eI (hof w.1 (rv_ (eG fl_X12 127 (hof w.1 (B 343))))) k.toNatClampNeg).toInt = lane.toInt := hb
    rw [g_my hI] at hb
    have hd : 0 ≤ (eI (hof w.1 (rv_ (eG fl_X12 124 (hof w.1 (B 343))))) k.toNatClampNeg).toInt := hd
    rw [g_mz hI] at hd
    exact ⟨⟨⟨⟨⟨rfl, rfl, rfl, rfl, rfl, trivial⟩, rfl, hI⟩, hk, hl⟩, hd, hb⟩, hg⟩
  · have ha : ¬ (eI (hof w.1 (rv_ (eG fl_X12 124 (hof w.1 (B 343))))) k.toNatClampNeg).toInt < 0 := ha
    have hd : ¬ 0 ≤ (eI (hof w.1 (rv_ (eG fl_X12 124 (hof w.1 (B 343))))) k.toNatClampNeg).toInt := hd
    omega
  · intro rv w3 hx3
    obtain ⟨u, rfl, h⟩ := r7_fld (x := 2) hI hg hx3
    exact h
set_option maxHeartbeats 4000000 in
theorem r7_h72 : ∀ (lg : fL_) (vs : List Value) (w : lW), in_772 B c y z f k lane i n g lg vs w → ∃ (L : fL_) (fu : Nat), f_sub L lg ∧ wh oW T_X12_read Sp_rm (r7_Q ((B, c, y, z, f, k, lane, i, n), g) w0) K_X12_read (r7_hd ((B, c, y, z, f, k, lane, i, n), g) w0) fu 72 L vs w := by
  rintro lg vs w ⟨⟨⟨⟨hs, rfl, hI⟩, hk, hl⟩, ha, hb⟩, hg⟩
  refine ⟨_, 60, hs, fun hn => ?_, fun hn => ?_⟩
  rotate_left
  · intro rv w3 hx3
    obtain ⟨u, rfl, h⟩ := r7_fld (x := 4) hI hg hx3
    exact h
  have hn : 0 ≤ n.toInt := hn
  intro rv w1 hx
  have hx : fLr r_X12_isBeyond [.int i, .long n.toInt64, .int (eI (hof w.1 (rv_ (eG fl_X12 124 (hof w.1 (B 343))))) k.toNatClampNeg)] w rv w1 := hx
  rw [g_mz hI] at hx
  have hI1 := hI.keep hx (by decide) (by decide)
  have hg1 := hg.keep hI.1 hx bl_344 bt_344 (by decide) (by decide)
  obtain ⟨-, rfl⟩ := (s_X12_isBeyond _ _ _ _ _ _ hx).2 (i, n, z k.toInt.toNat) rfl trivial
  refine ⟨fun hs => ?_, fun hs => ?_⟩
  · have hs : (if (0 ≤ i.toInt ∧ 0 ≤ n.toInt) ∧ i.toInt + n.toInt ≤ (z k.toInt.toNat).toInt then (0 : Int32) else 1).toInt = 0 := hs
    have hs : (0 ≤ i.toInt ∧ 0 ≤ n.toInt) ∧ i.toInt + n.toInt ≤ (z k.toInt.toNat).toInt := by
      by_cases hx : (0 ≤ i.toInt ∧ 0 ≤ n.toInt) ∧ i.toInt + n.toInt ≤ (z k.toInt.toNat).toInt
      · exact hx
      · rw [if_neg hx] at hs
        exact absurd hs (by decide)
    exact ⟨⟨⟨⟨⟨⟨rfl, rfl, rfl, rfl, rfl, trivial⟩, rfl, hI1⟩, hk, hl⟩, ha, hb⟩, hn, hs.1.1, hs.2⟩, hg1⟩
  · intro rv w3 hx3
    obtain ⟨u, rfl, h⟩ := r7_fld (x := 3) hI1 hg1 hx3
    exact h
set_option maxHeartbeats 4000000 in
theorem r7_h105 (hc60 : 0 ≤ c.toInt ∧ c.toInt ≤ 60) (hz : ∀ k, k < 4 → (z k).toInt ≤ 60) : ∀ (lg : fL_) (vs : List Value) (w : lW), in_7105 B c y z f k lane i n g lg vs w → ∃ (L : fL_) (fu : Nat), f_sub L lg ∧ wh oW T_X12_read Sp_rm (r7_Q ((B, c, y, z, f, k, lane, i, n), g) w0) K_X12_read (r7_hd ((B, c, y, z, f, k, lane, i, n), g) w0) fu 105 L vs w := by
  rintro lg vs w ⟨⟨⟨⟨⟨hs, rfl, hI⟩, hk, hl⟩, ha, hb⟩, hn, hi, hj⟩, hg⟩
  have z60 := hz k.toInt.toNat (by omega)
  have e60 : (Int32.ofInt 60).toInt = 60 := by decide
  refine ⟨_, 60, hs, fun hf => ?_, fun hf => ?_⟩
  rotate_left
  · intro rv w3 hx3
    obtain ⟨u, rfl, h⟩ := r7_ref (x := -4) hI hg hx3
    exact h
  have hf : ¬ (iv (eG fl_X12 149 (hof w.1 (B 343)))).toInt = (Int32.ofInt 60).toInt := hf
  rw [g_mc hI, e60] at hf
  have hf : ¬ c.toInt = 60 := hf
  intro rv w1 hx
  have hx : fLr r_X12_parse [.ref (B 343), .int (60 * k + i), .int n] w rv w1 := hx
  have hI1 := hI.keep hx (by decide) (by decide)
  have hg1 := hg.keep hI.1 hx bl_344 bt_344 (by decide) (by decide)
  have e6 : (60 : Int32).toInt = 60 := by decide
  have m1 : (60 * k).toInt = 60 * k.toInt := by
    rw [i_mul (by rw [e6]; omega) (by rw [e6]; omega), e6]
  have m2 : (60 * k + i).toInt = 60 * k.toInt + i.toInt := by
    rw [i_add (by rw [m1]; omega) (by rw [m1]; omega), m1]
  obtain ⟨cC, hC⟩ := id hI.2.2.2.2
  obtain ⟨fs, hp, -⟩ := id hI.2.1
  obtain ⟨tys, hwo, -⟩ := hx.2.2.2.2.1
  obtain ⟨-, x, rfl, ex⟩ := s_X12_parse (B, 60 * k + i, n, cC, f) w w1 rv hx ⟨⟨hI.1.1, hI.1.2, ⟨fs, hp⟩, hC⟩, (show 0 ≤ (60 * k + i).toInt by omega), hn, (show (60 * k + i).toInt + n.toInt ≤ 240 by omega)⟩
  have ex : x.toInt = acA (vo_g (60 * k + i) f) n.toInt.toNat 0 (true, 0) := ex
  have ge := acA_ge (g := vo_g (60 * k + i) f) (m := n.toInt.toNat) (i := 0) (s := (true, 0))
  refine ⟨fun hw => ?_, fun hw => ?_⟩
  · have hw : x.toInt < 0 := hw
    obtain ⟨-, gv, hgv, hgv2⟩ := s7_X12_parse (B, 60 * k + i, n, f) w w1 _ hx ⟨mX.of hI.1 hwo _, hI.2.2.2.2, ⟨by omega, hn, by omega, by omega⟩, by omega⟩
    refine ⟨0, g, gv, ⟨rfl, rfl, trivial⟩, rfl, hI1, hg1, ⟨hgv, hgv2⟩, by decide, fun u => ?_, hc60.1, (show c.toInt < 60 by omega)⟩
    rw [if_neg (by show ¬ (4 * c.toInt.toNat ≤ u ∧ u < 4 * c.toInt.toNat + 0); omega)]
  · intro rv w3 hx3
    obtain ⟨u, rfl, h⟩ := r7_ref (x := Int32.ofInt (-100) - x) hI1 hg1 hx3
    exact h
set_option maxHeartbeats 4000000 in
theorem r7_h153 : ∀ (lg : fL_) (vs : List Value) (w : lW), in_7153 B c y z f g (r7_V f k i n) lg vs w → ∃ (L : fL_) (fu : Nat), f_sub L lg ∧ wh oW T_X12_read Sp_rm (r7_Q ((B, c, y, z, f, k, lane, i, n), g) w0) K_X12_read (r7_hd ((B, c, y, z, f, k, lane, i, n), g) w0) fu 153 L vs w := by
  rintro lg vs w ⟨t, g', gv, hs, rfl, hI, hg, ⟨hgv, hV⟩, ⟨t0, t4⟩, hw7, c0, c60⟩
  have e4 : (Int32.ofInt 4).toInt = 4 := by decide
  refine ⟨_, 60, hs, fun hc => ?_, fun hc => ?_⟩
  · have hc : (Int32.ofInt 4).toInt ≤ t.toInt := hc
    rw [e4] at hc
    rw [t_end t4 hc] at hw7
    intro q e0 hq
    have hq : w.1[q]? = some (B 343, e0) := hq
    have ev : Value.int (iv (eG fl_X12 149 (hof w.1 (B 343))) + 1) = .int (c + 1) := by
      rw [g_mc hI]
      rfl
    obtain ⟨-, b2, -, -⟩ := oF.put (v' := .int (iv (eG fl_X12 149 (hof w.1 (B 343))) + 1)) (i := 149) (pl := pl_X12) hI.1 hI.2.1 bl_343 hq rfl (fun r h => by have h : some ((1, 0, 0) : mk_V) = some (2, 0, r) := h; cases h)
    exact ⟨⟨rfl, trivial⟩, rfl, mI.cnt (c' := c + 1) hI ev hq, ⟨g', hg.upd hI.1 bl_344 bl_343 (by decide) b2, hw7⟩, c0, c60⟩
  · have hc : ¬ (Int32.ofInt 4).toInt ≤ t.toInt := hc
    rw [e4] at hc
    obtain ⟨i1, i2, i3⟩ := t_inc t0 (show t.toInt < 4 by omega)
    intro q e0 hq
    have h17 : eG fl_X12 17 (hof w.1 (B 343)) = .ref (B 346) := bR hI.2.1 hI.1 bl_343 rfl rfl
    have ei : (Int32.ofInt 4 * iv (eG fl_X12 149 (hof w.1 (B 343))) + t).toNatClampNeg = 4 * c.toInt.toNat + t.toInt.toNat := by
      rw [g_mc hI]
      show (Int32.ofInt 4 * c + t).toInt.toNat = _
      rw [four_ix ⟨c0, c60⟩ t0 (by omega)]
    have eu : eJ (hof w.1 (rv_ (eG fl_X12 17 (hof w.1 (B 343))))) t.toNatClampNeg = r7_V f k i n t.toInt.toNat := by
      rw [h17]
      obtain ⟨cV, hv⟩ := hgv
      show eJ (hof w.1 (B 346)) t.toInt.toNat = _
      rw [hv]
      exact hV _ (by omega)
    obtain ⟨b1, b2⟩ := hI.1.wJ bl_344 (by decide) (fun k r h => by cases h) (g_mt hI) hq (i := (Int32.ofInt 4 * iv (eG fl_X12 149 (hof w.1 (B 343))) + t).toNatClampNeg) (v := eJ (hof w.1 (rv_ (eG fl_X12 17 (hof w.1 (B 343))))) t.toNatClampNeg)
    obtain ⟨cT, hT⟩ := hg
    refine ⟨t + 1, vp_updL g' (4 * c.toInt.toNat + t.toInt.toNat) (r7_V f k i n t.toInt.toNat), gv, ⟨rfl, rfl, trivial⟩, rfl, mI.lng hI (g_mt hI) hq, ⟨cT, ?_⟩, ⟨hgv.upd hI.1 bl_346 bl_344 (by decide) b2, hV⟩, ⟨i1, i2⟩, fun u => ?_, c0, c60⟩
    · show hof (w.1.set q (rv_ (eG fl_X12 7 (hof w.1 (B 343))), sJ (Int32.ofInt 4 * iv (eG fl_X12 149 (hof w.1 (B 343))) + t).toNatClampNeg (eJ (hof w.1 (rv_ (eG fl_X12 17 (hof w.1 (B 343))))) t.toNatClampNeg) (hof w.1 (rv_ (eG fl_X12 7 (hof w.1 (B 343))))))) (B 344) = _
      rw [b2, hset_at, g_mt hI]
      show some (sJ _ _ (hof w.1 (B 344))) = _
      rw [hT, ei, eu]
      rfl
    · rw [i3]
      unfold vp_updL
      by_cases e : u = 4 * c.toInt.toNat + t.toInt.toNat
      · rw [if_pos e, if_pos ⟨by omega, by omega⟩, show u - 4 * c.toInt.toNat = t.toInt.toNat by omega]
      · rw [if_neg e, hw7 u]
        by_cases hl : 4 * c.toInt.toNat ≤ u ∧ u < 4 * c.toInt.toNat + t.toInt.toNat
        · rw [if_pos hl, if_pos ⟨hl.1, by omega⟩]
        · rw [if_neg hl, if_neg (by omega)]
set_option maxHeartbeats 4000000 in
theorem r7_h196 : ∀ (lg : fL_) (vs : List Value) (w : lW), in_7196 B c y z f g (r7_V f k i n) lg vs w → ∃ (L : fL_) (fu : Nat), f_sub L lg ∧ wh oW T_X12_read Sp_rm (r7_Q ((B, c, y, z, f, k, lane, i, n), g) w0) K_X12_read (r7_hd ((B, c, y, z, f, k, lane, i, n), g) w0) fu 196 L vs w := by
  rintro lg vs w ⟨hs, rfl, hI, ⟨g', hg, hw7⟩, c0, c60⟩
  refine ⟨_, 60, hs, ?_⟩
  intro rv w3 hx3
  obtain ⟨rfl, a1, -⟩ := cl_ref (x := iv (eG fl_X12 149 (hof w.1 (B 343))) - 1) hI hx3
  refine ⟨c + 1, g', a1, hg.keep hI.1 hx3 bl_344 bt_344 (by decide) (by decide), Or.inr ⟨i_inc c0 (by omega), fun u hu => ?_, fun u hu => ?_⟩⟩
  · rw [hw7 u, if_neg (by omega)]
  · rw [hw7 (4 * c.toInt.toNat + u), if_pos ⟨by omega, by omega⟩, Nat.add_sub_cancel_left]
end
theorem s7_X12_read : ∀ (a : r7A) (w w' : lW) (rv : Option Value), fLr r_X12_read (r7_F a) w rv w' → r7_P a w → r7_Q a w rv w' := by
  refine do_ofW r7_F r7_P r7_Q Sp_rm r7_hd 40 fo_X12 Sp_rm_ok k_X12_read (fun a w0 hp => ?_) (fun a w0 hp hd0 => ?_)
  · obtain ⟨⟨B, c, y, z, f, k, lane, i, n⟩, g⟩ := a
    obtain ⟨⟨-, hc60, hz⟩, -⟩ := hp
    exact List.forall_mem_cons.mpr ⟨r7_h32, List.forall_mem_cons.mpr ⟨r7_h72, List.forall_mem_cons.mpr ⟨r7_h105 hc60 hz, List.forall_mem_cons.mpr ⟨r7_h153, List.forall_mem_cons.mpr ⟨r7_h196, fun _ h => absurd h List.not_mem_nil⟩⟩⟩⟩⟩
  · obtain ⟨⟨B, c, y, z, f, k, lane, i, n⟩, g⟩ := a
    exact r7_en hp.1.1 hp.2
/-! the two's sentences hold the same worlds -/
theorem runA_eq {g g' : Nat → Int32} : ∀ {n : Nat}, (∀ x, x < n → g x = g' x) → runA g n = runA g' n
  | 0, _ => rfl
  | n + 1, h => by
    show chA (g n) (runA g n) = chA (g' n) (runA g' n)
    rw [h n (by omega), runA_eq (fun x hx => h x (by omega))]
def j6 (B : Nat → Nat) (w : lW) : Prop := ∃ (c : Int32) (W : Nat → Nat → Int64) (g : Nat → Int64), oF B 0 11 1 (.int c) w ∧ wS B W w ∧ aJ B 344 240 g w ∧ ∀ i : Nat, (i : Int) < c.toInt → ∀ x, x < 4 → W i x = g (4 * i + x)
def J6 (B : Nat → Nat) : lW → Prop := fun w => J4 B w ∧ j6 B w
theorem oF.uni {B : Nat → Nat} {q ci k : Nat} {x y : Int32} {w : lW} (h1 : oF B q ci k (.int x) w) (h2 : oF B q ci k (.int y) w) : x = y := by
  obtain ⟨fs, a1, -, a3⟩ := h1
  obtain ⟨fs2, b1, -, b3⟩ := h2
  have e : fs = fs2 := congrArg Prod.snd (Sum.inr.inj (Option.some.inj (a1.symm.trans b1)))
  subst e
  rw [a3] at b3
  injection b3
section
variable {B : Nat → Nat} {rt : Nat} {Wr : List (Nat × Nat)} {T : fT} {cc : ByteArray} {As : List Value} {w w' : lW} {rv : Option Value}
theorem kp6 (h : fLr (fq cw_TT cw_SG rt Wr T cc) As w rv w') (hb : bI B w) (hJ : j6 B w) (hw : (11, 1) ∉ Wr ∧ (87, 0) ∉ Wr ∧ (45, 0) ∉ Wr) : j6 B w' := by
  obtain ⟨c, W, g, h1, h2, h3, h4⟩ := hJ
  exact ⟨c, W, g, h1.keep hb h bl_0 bt_0 hw.1, h2.keep hb h hw.2.1, h3.keep hb h bl_344 bt_344 (by decide) hw.2.2, h4⟩
theorem fr6 (h : fLr (fq cw_TT cw_SG rt Wr T cc) As w rv w') (hJ : J6 B w) (hk : bs_K.all (fun x => !(Wr.contains x)) = true) (hw : (20, 0) ∉ Wr ∧ (22, 0) ∉ Wr ∧ (23, 0) ∉ Wr ∧ (82, 0) ∉ Wr ∧ (83, 0) ∉ Wr ∧ (84, 0) ∉ Wr) (hw2 : (11, 1) ∉ Wr ∧ (17, 1) ∉ Wr) (hw4 : ((15, 0) ∉ Wr ∧ (17, 40) ∉ Wr) ∧ (14, 1) ∉ Wr ∧ (17, 27) ∉ Wr) (hw6 : (11, 1) ∉ Wr ∧ (87, 0) ∉ Wr ∧ (45, 0) ∉ Wr) : J6 B w' :=
  ⟨fr4 h hJ.1 hk hw hw2 hw4, kp6 h hJ.1.b hJ.2 hw6⟩
end
/-- a sentence more on both sides, or none -/
theorem j6_step {B : Nat → Nat} {w2 : lW} {c c1 c2 : Int32} {W W1 : Nat → Nat → Int64} {g g2 : Nat → Int64} {V V2 : Nat → Int64} (c0 : 0 ≤ c.toInt) (h : ∀ i : Nat, (i : Int) < c.toInt → ∀ x, x < 4 → W i x = g (4 * i + x)) (e : c1.toInt = c2.toInt) (o1 : oF B 0 11 1 (.int c1) w2) (hW : wS B W1 w2) (hg : aJ B 344 240 g2 w2) (h1 : (c1.toInt = c.toInt ∧ ∀ i x, W1 i x = W i x) ∨ (c1.toInt = c.toInt + 1 ∧ (∀ i, i ≠ c.toInt.toNat → W1 i = W i) ∧ ∀ x, x < 4 → W1 c.toInt.toNat x = V x)) (h2 : (c2.toInt = c.toInt ∧ ∀ u, g2 u = g u) ∨ (c2.toInt = c.toInt + 1 ∧ (∀ u, (u < 4 * c.toInt.toNat ∨ 4 * c.toInt.toNat + 4 ≤ u) → g2 u = g u) ∧ ∀ u, u < 4 → g2 (4 * c.toInt.toNat + u) = V2 u)) (hV : c1.toInt = c.toInt + 1 → ∀ x, x < 4 → V x = V2 x) : j6 B w2 := by
  refine ⟨c1, W1, g2, o1, hW, hg, fun i hi x hx => ?_⟩
  rcases h1 with ⟨a1, a2⟩ | ⟨a1, a2, a3⟩
  · rcases h2 with ⟨b1, b2⟩ | ⟨b1, -, -⟩
    · rw [a2, b2]
      exact h i (by omega) x hx
    · omega
  · rcases h2 with ⟨b1, -⟩ | ⟨b1, b2, b3⟩
    · omega
    · by_cases ei : i = c.toInt.toNat
      · rw [ei, a3 x hx, b3 x hx]
        exact hV a1 x hx
      · rw [a2 i ei, b2 _ (by omega)]
        exact h i (by omega) x hx
end
