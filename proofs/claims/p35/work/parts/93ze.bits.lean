/-! sets of worlds: the class's operations on four words -/
theorem fo_X1 : f_ok5 fl_X1 pl_X1 nw_X1 kl_X1 il_X1 = true := by decide +kernel
theorem fo_J9 : f_ok5 fl_J9 pl_J9 nw_J9 kl_J9 il_J9 = true := by decide +kernel
abbrev bxA : Type := Nat × List Value × Nat × ClassId × (Nat → Int64)
def bx (x : bxA) (h : fH) : Prop := h x.1 = some (.inr (1, x.2.1)) ∧ x.2.1.getD 0 .null = .ref x.2.2.1 ∧ h x.2.2.1 = some (.inl (x.2.2.2.1, 4, .inr (.inl x.2.2.2.2)))
def m1_ : Int64 := Int64.ofInt (-1)
def o_turn (u : Int64) : Int64 := u ^^^ m1_
def o_meet (u v : Int64) : Int64 := u &&& v
def o_join (u v : Int64) : Int64 := u ||| v
def o_match (u v : Int64) : Int64 := (u ^^^ v) ^^^ m1_
def opV (how : Int32) (u v : Int64) : Int64 := if how.toInt = 0 then o_turn u else if how.toInt = 1 then o_meet u v else if how.toInt = 2 then o_join u v else if how.toInt = 3 then o_join (o_turn u) v else o_match u v
def P_op1 (o : Int64 → Int64) : fPh := fun As h rv h' => ∀ a : bxA, As = [.ref a.1] → bx a h → rv = none ∧ ∃ g : Nat → Int64, h' = hset h a.2.2.1 (.inl (a.2.2.2.1, 4, .inr (.inl g))) ∧ ∀ x, x < 4 → g x = o (a.2.2.2.2 x)
def P_op2 (o : Int64 → Int64 → Int64) : fPh := fun As h rv h' => ∀ a : bxA × bxA, As = [.ref a.1.1, .ref a.2.1] → (bx a.1 h ∧ bx a.2 h ∧ a.1.2.2.1 ≠ a.2.2.2.1) → rv = none ∧ ∃ g : Nat → Int64, h' = hset h a.1.2.2.1 (.inl (a.1.2.2.2.1, 4, .inr (.inl g))) ∧ ∀ x, x < 4 → g x = o (a.1.2.2.2.2 x) (a.2.2.2.2.2 x)
def in_o1 (o : Int64 → Int64) (p a : Nat) (cA : ClassId) (f : Nat → Int64) (h0 : fH) : fL_ → List Value → fH → Prop := fun lg vs w => ∃ (t : Int32) (g : Nat → Int64), f_sub [(1, false, .int t), (0, false, .ref p)] lg ∧ vs = [] ∧ w = hset h0 a (.inl (cA, 4, .inr (.inl g))) ∧ 0 ≤ t.toInt ∧ t.toInt ≤ 4 ∧ ∀ x, x < 4 → g x = if x < t.toInt.toNat then o (f x) else f x
def in_o2 (o : Int64 → Int64 → Int64) (p p2 a : Nat) (cA : ClassId) (f f2 : Nat → Int64) (h0 : fH) : fL_ → List Value → fH → Prop := fun lg vs w => ∃ (t : Int32) (g : Nat → Int64), f_sub [(2, false, .int t), (0, false, .ref p), (1, false, .ref p2)] lg ∧ vs = [] ∧ w = hset h0 a (.inl (cA, 4, .inr (.inl g))) ∧ 0 ≤ t.toInt ∧ t.toInt ≤ 4 ∧ ∀ x, x < 4 → g x = if x < t.toInt.toNat then o (f x) (f2 x) else f x
theorem e4_ : (Int32.ofNat 4).toInt = 4 := by decide
theorem o_step {o : Int64 → Int64} {f g : Nat → Int64} {t : Nat} (h : ∀ x, x < 4 → g x = if x < t then o (f x) else f x) (ht : t < 4) : ∀ x, x < 4 → vp_updL g t (o (g t)) x = if x < t + 1 then o (f x) else f x := by
  intro x hx
  unfold vp_updL
  by_cases e : x = t
  · subst e
    rw [if_pos rfl, if_pos (by omega), h x hx, if_neg (by omega)]
  · rw [if_neg e, h x hx]
    by_cases hl : x < t
    · rw [if_pos hl, if_pos (by omega)]
    · rw [if_neg hl, if_neg (by omega)]
theorem o_step2 {o : Int64 → Int64 → Int64} {f f2 g : Nat → Int64} {t : Nat} (h : ∀ x, x < 4 → g x = if x < t then o (f x) (f2 x) else f x) (ht : t < 4) : ∀ x, x < 4 → vp_updL g t (o (g t) (f2 t)) x = if x < t + 1 then o (f x) (f2 x) else f x := by
  intro x hx
  unfold vp_updL
  by_cases e : x = t
  · subst e
    rw [if_pos rfl, if_pos (by omega), h x hx, if_neg (by omega)]
  · rw [if_neg e, h x hx]
    by_cases hl : x < t
    · rw [if_pos hl, if_pos (by omega)]
    · rw [if_neg hl, if_neg (by omega)]
theorem t_end {t : Int32} (h1 : t.toInt ≤ 4) (h2 : 4 ≤ t.toInt) : t.toInt.toNat = 4 := by omega
theorem t_inc {t : Int32} (h0 : 0 ≤ t.toInt) (h1 : t.toInt < 4) : 0 ≤ (t + 1).toInt ∧ (t + 1).toInt ≤ 4 ∧ (t + 1).toInt.toNat = t.toInt.toNat + 1 := by
  have h := i_inc h0 (by omega)
  rw [h]
  omega
set_option maxHeartbeats 4000000 in
theorem s_X1_turn : f_do r_X1_turn (P_op1 o_turn) := by
  refine do_ofP (fun a : bxA => [.ref a.1]) (fun a h => bx a h) (fun a h rv h' => rv = none ∧ ∃ g : Nat → Int64, h' = hset h a.2.2.1 (.inl (a.2.2.2.1, 4, .inr (.inl g))) ∧ ∀ x, x < 4 → g x = o_turn (a.2.2.2.2 x)) [] (fun a h => [(2, in_o1 o_turn a.1 a.2.2.1 a.2.2.2.1 a.2.2.2.2 h)]) 60 fo_X1 no_sp k_X1_turn (fun a h0 hp => ?_) (fun a h0 hp => ?_)
  · refine List.forall_mem_cons.mpr ⟨?_, fun _ h => absurd h List.not_mem_nil⟩
    obtain ⟨p, fs, a, cA, f⟩ := a
    obtain ⟨hp, h0a, ha⟩ := hp
    have hp : h0 p = some (.inr (1, fs)) := hp
    have h0a : fs.getD 0 .null = .ref a := h0a
    have ha : h0 a = some (.inl (cA, 4, .inr (.inl f))) := ha
    rintro lg vs w ⟨t, g, hs, rfl, ew, t0, t4, hg⟩
    have ew : w = hset h0 a (.inl (cA, 4, .inr (.inl g))) := ew
    have hg : ∀ x, x < 4 → g x = if x < t.toInt.toNat then o_turn (f x) else f x := hg
    have g1 : eG fl_X1 13 (w p) = .ref a := by
      rw [ew, hset_ne (Ne.symm (ne_of_h hp ha)), hp, ← h0a]
      rfl
    have wa : w a = some (.inl (cA, 4, .inr (.inl g))) := by rw [ew, hset_at]
    refine ⟨_, 60, hs, fun hc => ?_, fun hc => ?_⟩
    · have hc : (Int32.ofNat (eL (w (rv_ (eG fl_X1 13 (w p)))))).toInt ≤ t.toInt := hc
      rw [g1] at hc
      have hc : (Int32.ofNat (eL (w a))).toInt ≤ t.toInt := hc
      rw [wa] at hc
      have hc : (Int32.ofNat 4).toInt ≤ t.toInt := hc
      rw [e4_] at hc
      refine ⟨rfl, g, ew, fun x hx => ?_⟩
      rw [hg x hx, t_end t4 hc, if_pos hx]
    · have hc : ¬ (Int32.ofNat (eL (w (rv_ (eG fl_X1 13 (w p)))))).toInt ≤ t.toInt := hc
      rw [g1] at hc
      have hc : ¬ (Int32.ofNat (eL (w a))).toInt ≤ t.toInt := hc
      rw [wa] at hc
      have hc : ¬ (Int32.ofNat 4).toInt ≤ t.toInt := hc
      rw [e4_] at hc
      obtain ⟨i1, i2, i3⟩ := t_inc t0 (show t.toInt < 4 by omega)
      refine ⟨t + 1, vp_updL g t.toInt.toNat (o_turn (g t.toInt.toNat)), ⟨rfl, rfl, trivial⟩, rfl, ?_, i1, i2, ?_⟩
      · show hset w (rv_ (eG fl_X1 13 (w p))) (sJ t.toNatClampNeg (eJ (w (rv_ (eG fl_X1 13 (w p)))) t.toNatClampNeg ^^^ m1_) (w (rv_ (eG fl_X1 13 (w p))))) = _
        rw [g1]
        show hset w a (sJ t.toNatClampNeg (eJ (w a) t.toNatClampNeg ^^^ m1_) (w a)) = _
        rw [wa, ew]
        exact hset_hset
      · show ∀ x, x < 4 → vp_updL g t.toInt.toNat (o_turn (g t.toInt.toNat)) x = if x < (t + 1).toInt.toNat then o_turn (f x) else f x
        rw [i3]
        exact o_step hg (by omega)
  · obtain ⟨p, fs, a, cA, f⟩ := a
    obtain ⟨hp, h0a, ha⟩ := hp
    exact ⟨0, f, ⟨rfl, rfl, trivial⟩, rfl, (hset_self ha).symm, by decide, by decide, fun x _ => (if_neg (Nat.not_lt_zero x)).symm⟩
set_option maxHeartbeats 4000000 in
theorem s_X1_meet : f_do r_X1_meet (P_op2 o_meet) := by
  refine do_ofP (fun a : bxA × bxA => [.ref a.1.1, .ref a.2.1]) (fun a h => bx a.1 h ∧ bx a.2 h ∧ a.1.2.2.1 ≠ a.2.2.2.1) (fun a h rv h' => rv = none ∧ ∃ g : Nat → Int64, h' = hset h a.1.2.2.1 (.inl (a.1.2.2.2.1, 4, .inr (.inl g))) ∧ ∀ x, x < 4 → g x = o_meet (a.1.2.2.2.2 x) (a.2.2.2.2.2 x)) [] (fun a h => [(2, in_o2 o_meet a.1.1 a.2.1 a.1.2.2.1 a.1.2.2.2.1 a.1.2.2.2.2 a.2.2.2.2.2 h)]) 60 fo_X1 no_sp k_X1_meet (fun a h0 hp => ?_) (fun a h0 hp => ?_)
  · refine List.forall_mem_cons.mpr ⟨?_, fun _ h => absurd h List.not_mem_nil⟩
    obtain ⟨⟨p, fs, a, cA, f⟩, ⟨p2, fs2, a2, cA2, f2⟩⟩ := a
    obtain ⟨⟨hp, h0a, ha⟩, ⟨hp2, h0a2, ha2⟩, hne⟩ := hp
    have hp : h0 p = some (.inr (1, fs)) := hp
    have h0a : fs.getD 0 .null = .ref a := h0a
    have ha : h0 a = some (.inl (cA, 4, .inr (.inl f))) := ha
    have hp2 : h0 p2 = some (.inr (1, fs2)) := hp2
    have h0a2 : fs2.getD 0 .null = .ref a2 := h0a2
    have ha2 : h0 a2 = some (.inl (cA2, 4, .inr (.inl f2))) := ha2
    have hne : a ≠ a2 := hne
    rintro lg vs w ⟨t, g, hs, rfl, ew, t0, t4, hg⟩
    have ew : w = hset h0 a (.inl (cA, 4, .inr (.inl g))) := ew
    have hg : ∀ x, x < 4 → g x = if x < t.toInt.toNat then o_meet (f x) (f2 x) else f x := hg
    have g1 : eG fl_X1 13 (w p) = .ref a := by
      rw [ew, hset_ne (Ne.symm (ne_of_h hp ha)), hp, ← h0a]
      rfl
    have g2 : eG fl_X1 13 (w p2) = .ref a2 := by
      rw [ew, hset_ne (Ne.symm (ne_of_h hp2 ha)), hp2, ← h0a2]
      rfl
    have wa : w a = some (.inl (cA, 4, .inr (.inl g))) := by rw [ew, hset_at]
    have wa2 : w a2 = some (.inl (cA2, 4, .inr (.inl f2))) := by rw [ew, hset_ne (Ne.symm hne), ha2]
    have l1 : (Int32.ofNat (eL (w (rv_ (eG fl_X1 13 (w p)))))).toInt = 4 := by
      rw [g1]
      show (Int32.ofNat (eL (w a))).toInt = 4
      rw [wa]
      exact e4_
    have l2 : (Int32.ofNat (eL (w (rv_ (eG fl_X1 13 (w p2)))))).toInt = 4 := by
      rw [g2]
      show (Int32.ofNat (eL (w a2))).toInt = 4
      rw [wa2]
      exact e4_
    refine ⟨_, 60, hs, fun hc => ?_, fun hc => ⟨fun hd => ?_, fun _ => ?_⟩⟩
    · have hc : (Int32.ofNat (eL (w (rv_ (eG fl_X1 13 (w p)))))).toInt ≤ t.toInt := hc
      rw [l1] at hc
      refine ⟨rfl, g, ew, fun x hx => ?_⟩
      rw [hg x hx, t_end t4 hc, if_pos hx]
    · have hc : ¬ (Int32.ofNat (eL (w (rv_ (eG fl_X1 13 (w p)))))).toInt ≤ t.toInt := hc
      rw [l1] at hc
      have hd : (Int32.ofNat (eL (w (rv_ (eG fl_X1 13 (w p2)))))).toInt ≤ t.toInt := hd
      rw [l2] at hd
      exact absurd hd hc
    · have hc : ¬ (Int32.ofNat (eL (w (rv_ (eG fl_X1 13 (w p)))))).toInt ≤ t.toInt := hc
      rw [l1] at hc
      obtain ⟨i1, i2, i3⟩ := t_inc t0 (show t.toInt < 4 by omega)
      refine ⟨t + 1, vp_updL g t.toInt.toNat (o_meet (g t.toInt.toNat) (f2 t.toInt.toNat)), ⟨rfl, rfl, rfl, trivial⟩, rfl, ?_, i1, i2, ?_⟩
      · show hset w (rv_ (eG fl_X1 13 (w p))) (sJ t.toNatClampNeg (eJ (w (rv_ (eG fl_X1 13 (w p)))) t.toNatClampNeg &&& eJ (w (rv_ (eG fl_X1 13 (w p2)))) t.toNatClampNeg) (w (rv_ (eG fl_X1 13 (w p))))) = _
        rw [g1, g2]
        show hset w a (sJ t.toNatClampNeg (eJ (w a) t.toNatClampNeg &&& eJ (w a2) t.toNatClampNeg) (w a)) = _
        rw [wa, wa2, ew]
        exact hset_hset
      · show ∀ x, x < 4 → vp_updL g t.toInt.toNat (o_meet (g t.toInt.toNat) (f2 t.toInt.toNat)) x = if x < (t + 1).toInt.toNat then o_meet (f x) (f2 x) else f x
        rw [i3]
        exact o_step2 hg (by omega)
  · obtain ⟨⟨p, fs, a, cA, f⟩, ⟨p2, fs2, a2, cA2, f2⟩⟩ := a
    obtain ⟨⟨hp, h0a, ha⟩, -, -⟩ := hp
    exact ⟨0, f, ⟨rfl, rfl, rfl, trivial⟩, rfl, (hset_self ha).symm, by decide, by decide, fun x _ => (if_neg (Nat.not_lt_zero x)).symm⟩
set_option maxHeartbeats 4000000 in
theorem s_X1_join : f_do r_X1_join (P_op2 o_join) := by
  refine do_ofP (fun a : bxA × bxA => [.ref a.1.1, .ref a.2.1]) (fun a h => bx a.1 h ∧ bx a.2 h ∧ a.1.2.2.1 ≠ a.2.2.2.1) (fun a h rv h' => rv = none ∧ ∃ g : Nat → Int64, h' = hset h a.1.2.2.1 (.inl (a.1.2.2.2.1, 4, .inr (.inl g))) ∧ ∀ x, x < 4 → g x = o_join (a.1.2.2.2.2 x) (a.2.2.2.2.2 x)) [] (fun a h => [(2, in_o2 o_join a.1.1 a.2.1 a.1.2.2.1 a.1.2.2.2.1 a.1.2.2.2.2 a.2.2.2.2.2 h)]) 60 fo_X1 no_sp k_X1_join (fun a h0 hp => ?_) (fun a h0 hp => ?_)
  · refine List.forall_mem_cons.mpr ⟨?_, fun _ h => absurd h List.not_mem_nil⟩
    obtain ⟨⟨p, fs, a, cA, f⟩, ⟨p2, fs2, a2, cA2, f2⟩⟩ := a
    obtain ⟨⟨hp, h0a, ha⟩, ⟨hp2, h0a2, ha2⟩, hne⟩ := hp
    have hp : h0 p = some (.inr (1, fs)) := hp
    have h0a : fs.getD 0 .null = .ref a := h0a
    have ha : h0 a = some (.inl (cA, 4, .inr (.inl f))) := ha
    have hp2 : h0 p2 = some (.inr (1, fs2)) := hp2
    have h0a2 : fs2.getD 0 .null = .ref a2 := h0a2
    have ha2 : h0 a2 = some (.inl (cA2, 4, .inr (.inl f2))) := ha2
    have hne : a ≠ a2 := hne
    rintro lg vs w ⟨t, g, hs, rfl, ew, t0, t4, hg⟩
    have ew : w = hset h0 a (.inl (cA, 4, .inr (.inl g))) := ew
    have hg : ∀ x, x < 4 → g x = if x < t.toInt.toNat then o_join (f x) (f2 x) else f x := hg
    have g1 : eG fl_X1 13 (w p) = .ref a := by
      rw [ew, hset_ne (Ne.symm (ne_of_h hp ha)), hp, ← h0a]
      rfl
    have g2 : eG fl_X1 13 (w p2) = .ref a2 := by
      rw [ew, hset_ne (Ne.symm (ne_of_h hp2 ha)), hp2, ← h0a2]
      rfl
    have wa : w a = some (.inl (cA, 4, .inr (.inl g))) := by rw [ew, hset_at]
    have wa2 : w a2 = some (.inl (cA2, 4, .inr (.inl f2))) := by rw [ew, hset_ne (Ne.symm hne), ha2]
    have l1 : (Int32.ofNat (eL (w (rv_ (eG fl_X1 13 (w p)))))).toInt = 4 := by
      rw [g1]
      show (Int32.ofNat (eL (w a))).toInt = 4
      rw [wa]
      exact e4_
    have l2 : (Int32.ofNat (eL (w (rv_ (eG fl_X1 13 (w p2)))))).toInt = 4 := by
      rw [g2]
      show (Int32.ofNat (eL (w a2))).toInt = 4
      rw [wa2]
      exact e4_
    refine ⟨_, 60, hs, fun hc => ?_, fun hc => ⟨fun hd => ?_, fun _ => ?_⟩⟩
    · have hc : (Int32.ofNat (eL (w (rv_ (eG fl_X1 13 (w p)))))).toInt ≤ t.toInt := hc
      rw [l1] at hc
      refine ⟨rfl, g, ew, fun x hx => ?_⟩
      rw [hg x hx, t_end t4 hc, if_pos hx]
    · have hc : ¬ (Int32.ofNat (eL (w (rv_ (eG fl_X1 13 (w p)))))).toInt ≤ t.toInt := hc
      rw [l1] at hc
      have hd : (Int32.ofNat (eL (w (rv_ (eG fl_X1 13 (w p2)))))).toInt ≤ t.toInt := hd
      rw [l2] at hd
      exact absurd hd hc
    · have hc : ¬ (Int32.ofNat (eL (w (rv_ (eG fl_X1 13 (w p)))))).toInt ≤ t.toInt := hc
      rw [l1] at hc
      obtain ⟨i1, i2, i3⟩ := t_inc t0 (show t.toInt < 4 by omega)
      refine ⟨t + 1, vp_updL g t.toInt.toNat (o_join (g t.toInt.toNat) (f2 t.toInt.toNat)), ⟨rfl, rfl, rfl, trivial⟩, rfl, ?_, i1, i2, ?_⟩
      · show hset w (rv_ (eG fl_X1 13 (w p))) (sJ t.toNatClampNeg (eJ (w (rv_ (eG fl_X1 13 (w p)))) t.toNatClampNeg ||| eJ (w (rv_ (eG fl_X1 13 (w p2)))) t.toNatClampNeg) (w (rv_ (eG fl_X1 13 (w p))))) = _
        rw [g1, g2]
        show hset w a (sJ t.toNatClampNeg (eJ (w a) t.toNatClampNeg ||| eJ (w a2) t.toNatClampNeg) (w a)) = _
        rw [wa, wa2, ew]
        exact hset_hset
      · show ∀ x, x < 4 → vp_updL g t.toInt.toNat (o_join (g t.toInt.toNat) (f2 t.toInt.toNat)) x = if x < (t + 1).toInt.toNat then o_join (f x) (f2 x) else f x
        rw [i3]
        exact o_step2 hg (by omega)
  · obtain ⟨⟨p, fs, a, cA, f⟩, ⟨p2, fs2, a2, cA2, f2⟩⟩ := a
    obtain ⟨⟨hp, h0a, ha⟩, -, -⟩ := hp
    exact ⟨0, f, ⟨rfl, rfl, rfl, trivial⟩, rfl, (hset_self ha).symm, by decide, by decide, fun x _ => (if_neg (Nat.not_lt_zero x)).symm⟩
set_option maxHeartbeats 4000000 in
theorem s_X1_match : f_do r_X1_match (P_op2 o_match) := by
  refine do_ofP (fun a : bxA × bxA => [.ref a.1.1, .ref a.2.1]) (fun a h => bx a.1 h ∧ bx a.2 h ∧ a.1.2.2.1 ≠ a.2.2.2.1) (fun a h rv h' => rv = none ∧ ∃ g : Nat → Int64, h' = hset h a.1.2.2.1 (.inl (a.1.2.2.2.1, 4, .inr (.inl g))) ∧ ∀ x, x < 4 → g x = o_match (a.1.2.2.2.2 x) (a.2.2.2.2.2 x)) [] (fun a h => [(2, in_o2 o_match a.1.1 a.2.1 a.1.2.2.1 a.1.2.2.2.1 a.1.2.2.2.2 a.2.2.2.2.2 h)]) 60 fo_X1 no_sp k_X1_match (fun a h0 hp => ?_) (fun a h0 hp => ?_)
  · refine List.forall_mem_cons.mpr ⟨?_, fun _ h => absurd h List.not_mem_nil⟩
    obtain ⟨⟨p, fs, a, cA, f⟩, ⟨p2, fs2, a2, cA2, f2⟩⟩ := a
    obtain ⟨⟨hp, h0a, ha⟩, ⟨hp2, h0a2, ha2⟩, hne⟩ := hp
    have hp : h0 p = some (.inr (1, fs)) := hp
    have h0a : fs.getD 0 .null = .ref a := h0a
    have ha : h0 a = some (.inl (cA, 4, .inr (.inl f))) := ha
    have hp2 : h0 p2 = some (.inr (1, fs2)) := hp2
    have h0a2 : fs2.getD 0 .null = .ref a2 := h0a2
    have ha2 : h0 a2 = some (.inl (cA2, 4, .inr (.inl f2))) := ha2
    have hne : a ≠ a2 := hne
    rintro lg vs w ⟨t, g, hs, rfl, ew, t0, t4, hg⟩
    have ew : w = hset h0 a (.inl (cA, 4, .inr (.inl g))) := ew
    have hg : ∀ x, x < 4 → g x = if x < t.toInt.toNat then o_match (f x) (f2 x) else f x := hg
    have g1 : eG fl_X1 13 (w p) = .ref a := by
      rw [ew, hset_ne (Ne.symm (ne_of_h hp ha)), hp, ← h0a]
      rfl
    have g2 : eG fl_X1 13 (w p2) = .ref a2 := by
      rw [ew, hset_ne (Ne.symm (ne_of_h hp2 ha)), hp2, ← h0a2]
      rfl
    have wa : w a = some (.inl (cA, 4, .inr (.inl g))) := by rw [ew, hset_at]
    have wa2 : w a2 = some (.inl (cA2, 4, .inr (.inl f2))) := by rw [ew, hset_ne (Ne.symm hne), ha2]
    have l1 : (Int32.ofNat (eL (w (rv_ (eG fl_X1 13 (w p)))))).toInt = 4 := by
      rw [g1]
      show (Int32.ofNat (eL (w a))).toInt = 4
      rw [wa]
      exact e4_
    have l2 : (Int32.ofNat (eL (w (rv_ (eG fl_X1 13 (w p2)))))).toInt = 4 := by
      rw [g2]
      show (Int32.ofNat (eL (w a2))).toInt = 4
      rw [wa2]
      exact e4_
    refine ⟨_, 60, hs, fun hc => ?_, fun hc => ⟨fun hd => ?_, fun _ => ?_⟩⟩
    · have hc : (Int32.ofNat (eL (w (rv_ (eG fl_X1 13 (w p)))))).toInt ≤ t.toInt := hc
      rw [l1] at hc
      refine ⟨rfl, g, ew, fun x hx => ?_⟩
      rw [hg x hx, t_end t4 hc, if_pos hx]
    · have hc : ¬ (Int32.ofNat (eL (w (rv_ (eG fl_X1 13 (w p)))))).toInt ≤ t.toInt := hc
      rw [l1] at hc
      have hd : (Int32.ofNat (eL (w (rv_ (eG fl_X1 13 (w p2)))))).toInt ≤ t.toInt := hd
      rw [l2] at hd
      exact absurd hd hc
    · have hc : ¬ (Int32.ofNat (eL (w (rv_ (eG fl_X1 13 (w p)))))).toInt ≤ t.toInt := hc
      rw [l1] at hc
      obtain ⟨i1, i2, i3⟩ := t_inc t0 (show t.toInt < 4 by omega)
      refine ⟨t + 1, vp_updL g t.toInt.toNat (o_match (g t.toInt.toNat) (f2 t.toInt.toNat)), ⟨rfl, rfl, rfl, trivial⟩, rfl, ?_, i1, i2, ?_⟩
      · show hset w (rv_ (eG fl_X1 13 (w p))) (sJ t.toNatClampNeg ((eJ (w (rv_ (eG fl_X1 13 (w p)))) t.toNatClampNeg ^^^ eJ (w (rv_ (eG fl_X1 13 (w p2)))) t.toNatClampNeg) ^^^ m1_) (w (rv_ (eG fl_X1 13 (w p))))) = _
        rw [g1, g2]
        show hset w a (sJ t.toNatClampNeg ((eJ (w a) t.toNatClampNeg ^^^ eJ (w a2) t.toNatClampNeg) ^^^ m1_) (w a)) = _
        rw [wa, wa2, ew]
        exact hset_hset
      · show ∀ x, x < 4 → vp_updL g t.toInt.toNat (o_match (g t.toInt.toNat) (f2 t.toInt.toNat)) x = if x < (t + 1).toInt.toNat then o_match (f x) (f2 x) else f x
        rw [i3]
        exact o_step2 hg (by omega)
  · obtain ⟨⟨p, fs, a, cA, f⟩, ⟨p2, fs2, a2, cA2, f2⟩⟩ := a
    obtain ⟨⟨hp, h0a, ha⟩, -, -⟩ := hp
    exact ⟨0, f, ⟨rfl, rfl, rfl, trivial⟩, rfl, (hset_self ha).symm, by decide, by decide, fun x _ => (if_neg (Nat.not_lt_zero x)).symm⟩
theorem s_X1_imply : f_do r_X1_imply (P_op2 (fun u v => o_join (o_turn u) v)) := by
  refine do_ofP (fun a : bxA × bxA => [.ref a.1.1, .ref a.2.1]) (fun a h => bx a.1 h ∧ bx a.2 h ∧ a.1.2.2.1 ≠ a.2.2.2.1) (fun a h rv h' => rv = none ∧ ∃ g : Nat → Int64, h' = hset h a.1.2.2.1 (.inl (a.1.2.2.2.1, 4, .inr (.inl g))) ∧ ∀ x, x < 4 → g x = o_join (o_turn (a.1.2.2.2.2 x)) (a.2.2.2.2.2 x)) [(117, 1, P_op1 o_turn), (126, 2, P_op2 o_join)] (fun _ _ => []) 40 fo_X1 (List.forall_mem_cons.mpr ⟨sp_one rfl s_X1_turn, List.forall_mem_cons.mpr ⟨sp_one rfl s_X1_join, no_sp⟩⟩) k_X1_imply (fun _ _ _ => no_hd) (fun a h0 hp => ?_)
  obtain ⟨⟨p, fs, a, cA, f⟩, ⟨p2, fs2, a2, cA2, f2⟩⟩ := a
  obtain ⟨⟨hp, h0a, ha⟩, ⟨hp2, h0a2, ha2⟩, hne⟩ := hp
  have hp : h0 p = some (.inr (1, fs)) := hp
  have ha : h0 a = some (.inl (cA, 4, .inr (.inl f))) := ha
  have hp2 : h0 p2 = some (.inr (1, fs2)) := hp2
  have ha2 : h0 a2 = some (.inl (cA2, 4, .inr (.inl f2))) := ha2
  have hne : a ≠ a2 := hne
  intro rv h1 hx
  obtain ⟨rfl, g, e1, hg⟩ := hx (p, fs, a, cA, f) rfl ⟨hp, h0a, ha⟩
  have e1 : h1 = hset h0 a (.inl (cA, 4, .inr (.inl g))) := e1
  intro rv h2 hx2
  obtain ⟨rfl, g2, e2, hg2⟩ := hx2 ((p, fs, a, cA, g), (p2, fs2, a2, cA2, f2)) rfl ⟨⟨(by rw [e1, hset_ne (Ne.symm (ne_of_h hp ha))]; exact hp), h0a, (by rw [e1]; exact hset_at)⟩, ⟨(by rw [e1, hset_ne (Ne.symm (ne_of_h hp2 ha))]; exact hp2), h0a2, (by rw [e1, hset_ne (Ne.symm hne)]; exact ha2)⟩, hne⟩
  have e2 : h2 = hset h1 a (.inl (cA, 4, .inr (.inl g2))) := e2
  refine ⟨rfl, g2, ?_, fun x hx => ?_⟩
  · rw [e2, e1]
    exact hset_hset
  · rw [hg2 x hx]
    show o_join (g x) (f2 x) = _
    rw [hg x hx]
def P_min : fPh := fun As h rv h' => ∀ a : Int32 × Int32, As = [.int a.1, .int a.2] → True → h' = h ∧ rv = some (.int (if a.1.toInt ≤ a.2.toInt then a.1 else a.2))
theorem s_J9_min : f_do r_J9_min_7cf53 P_min := by
  refine do_ofP (fun a : Int32 × Int32 => [.int a.1, .int a.2]) (fun _ _ => True) (fun a h rv h' => h' = h ∧ rv = some (.int (if a.1.toInt ≤ a.2.toInt then a.1 else a.2))) [] (fun _ _ => []) 40 fo_J9 no_sp k_J9_min_7cf53 (fun _ _ _ => no_hd) (fun a h0 _ => ?_)
  obtain ⟨x, y⟩ := a
  refine ⟨fun h => ?_, fun h => ?_⟩
  · have h : y.toInt < x.toInt := h
    refine ⟨rfl, ?_⟩
    show some (Value.int y) = some (.int (if x.toInt ≤ y.toInt then x else y))
    rw [if_neg (by omega)]
  · have h : ¬ y.toInt < x.toInt := h
    refine ⟨rfl, ?_⟩
    show some (Value.int x) = some (.int (if x.toInt ≤ y.toInt then x else y))
    rw [if_pos (by omega)]
abbrev clA : Type := (Nat × Int32 × Nat × Int32 × Int32) × (ClassId × Nat × (Nat → Int64)) × (ClassId × Nat × (Nat → Int64))
def P_cpl : fPh := fun As h rv h' => ∀ a : clA, As = [.ref a.1.1, .int a.1.2.1, .ref a.1.2.2.1, .int a.1.2.2.2.1, .int a.1.2.2.2.2] → h a.1.1 = some (.inl (a.2.1.1, a.2.1.2.1, .inr (.inl a.2.1.2.2))) → h a.1.2.2.1 = some (.inl (a.2.2.1, a.2.2.2.1, .inr (.inl a.2.2.2.2))) → rv = none ∧ h' = hset h a.1.2.2.1 (.inl (a.2.2.1, a.2.2.2.1, .inr (.inl (va_cpy a.2.1.2.2 a.2.2.2.2 a.1.2.1.toNatClampNeg a.1.2.2.2.1.toNatClampNeg a.1.2.2.2.2.toNatClampNeg))))
theorem sp_cpl {T : fT} {key : Nat} (hT : T.2.2.2.2.2.1 key = (5, f_cpl)) : (T.2.2.2.2.2.1 (key, 5, P_cpl).1).1 = (key, 5, P_cpl).2.1 ∧ ∀ (As : List Value) (w : fH) (ws : va_W) (sh : List Nat) (rv : Option Value) (ws' : va_W) (sh' : List Nat), wH w ws sh → (T.2.2.2.2.2.1 (key, 5, P_cpl).1).2 As ws sh rv ws' sh' → ∃ w', wH w' ws' sh' ∧ (key, 5, P_cpl).2.2 As w rv w' := by
  refine ⟨by show (T.2.2.2.2.2.1 key).1 = 5; rw [hT], fun As w ws sh rv ws' sh' hw hx => ?_⟩
  have hx : (T.2.2.2.2.2.1 key).2 As ws sh rv ws' sh' := hx
  rw [hT] at hx
  obtain ⟨a0, a1, sp, dp, n, q0, q1, n0, n1, c0, c1, f, g, rfl, h0, h1, rfl, rfl, rfl⟩ := (show f_cpl As ws sh rv ws' sh' from hx)
  obtain ⟨rfl, hd⟩ := hw
  refine ⟨_, ⟨rfl, hd.set h1⟩, fun a e x0 x1 => ⟨rfl, ?_⟩⟩
  obtain ⟨⟨b0, sp', b1, dp', n'⟩, ⟨d0, m0, f'⟩, ⟨d1, m1, g'⟩⟩ := a
  have e : [Value.ref a0, .int sp, .ref a1, .int dp, .int n] = [.ref b0, .int sp', .ref b1, .int dp', .int n'] := e
  simp only [List.cons.injEq, Value.ref.injEq, Value.int.injEq, and_true] at e
  obtain ⟨rfl, rfl, rfl, rfl, rfl⟩ := e
  have y0 : hof ws a0 = some (.inl (d0, m0, .inr (.inl f'))) := x0
  have y1 : hof ws a1 = some (.inl (d1, m1, .inr (.inl g'))) := x1
  rw [hof_at hd h0] at y0
  rw [hof_at hd h1] at y1
  clear x0 x1
  cases y0
  cases y1
  exact hof_set hd h1
/-- become: the words of the other -/
theorem s_X1_become : f_do r_X1_become (fun As h rv h' => ∀ a : bxA × bxA, As = [.ref a.1.1, .ref a.2.1] → (bx a.1 h ∧ bx a.2 h) → rv = none ∧ ∃ g : Nat → Int64, h' = hset h a.1.2.2.1 (.inl (a.1.2.2.2.1, 4, .inr (.inl g))) ∧ ∀ x, x < 4 → g x = a.2.2.2.2.2 x) := by
  refine do_ofP (fun a : bxA × bxA => [.ref a.1.1, .ref a.2.1]) (fun a h => bx a.1 h ∧ bx a.2 h) (fun a h rv h' => rv = none ∧ ∃ g : Nat → Int64, h' = hset h a.1.2.2.1 (.inl (a.1.2.2.2.1, 4, .inr (.inl g))) ∧ ∀ x, x < 4 → g x = a.2.2.2.2.2 x) [(91, 2, P_min), (100, 5, P_cpl)] (fun _ _ => []) 40 fo_X1 (List.forall_mem_cons.mpr ⟨sp_one rfl s_J9_min, List.forall_mem_cons.mpr ⟨sp_cpl rfl, no_sp⟩⟩) k_X1_become (fun _ _ _ => no_hd) (fun a h0 hp => ?_)
  obtain ⟨⟨p, fs, a, cA, f⟩, ⟨p2, fs2, a2, cA2, f2⟩⟩ := a
  obtain ⟨⟨hp, h0a, ha⟩, ⟨hp2, h0a2, ha2⟩⟩ := hp
  have hp : h0 p = some (.inr (1, fs)) := hp
  have h0a : fs.getD 0 .null = .ref a := h0a
  have ha : h0 a = some (.inl (cA, 4, .inr (.inl f))) := ha
  have hp2 : h0 p2 = some (.inr (1, fs2)) := hp2
  have h0a2 : fs2.getD 0 .null = .ref a2 := h0a2
  have ha2 : h0 a2 = some (.inl (cA2, 4, .inr (.inl f2))) := ha2
  have g1 : eG fl_X1 13 (h0 p) = .ref a := by
    rw [hp, ← h0a]
    rfl
  have g2 : eG fl_X1 13 (h0 p2) = .ref a2 := by
    rw [hp2, ← h0a2]
    rfl
  have l1 : eL (h0 (rv_ (eG fl_X1 13 (h0 p)))) = 4 := by
    rw [g1]
    show eL (h0 a) = 4
    rw [ha]
    rfl
  have l2 : eL (h0 (rv_ (eG fl_X1 13 (h0 p2)))) = 4 := by
    rw [g2]
    show eL (h0 a2) = 4
    rw [ha2]
    rfl
  intro rv h1 hx
  obtain ⟨e1, er⟩ := hx (Int32.ofNat (eL (h0 (rv_ (eG fl_X1 13 (h0 p))))), Int32.ofNat (eL (h0 (rv_ (eG fl_X1 13 (h0 p2)))))) rfl trivial
  have e1 : h1 = h0 := e1
  subst h1
  have er : rv = some (.int (if (Int32.ofNat (eL (h0 (rv_ (eG fl_X1 13 (h0 p)))))).toInt ≤ (Int32.ofNat (eL (h0 (rv_ (eG fl_X1 13 (h0 p2)))))).toInt then Int32.ofNat (eL (h0 (rv_ (eG fl_X1 13 (h0 p))))) else Int32.ofNat (eL (h0 (rv_ (eG fl_X1 13 (h0 p2))))))) := er
  rw [l1, l2, if_pos (Int.le_refl _)] at er
  subst er
  intro rv h2 hx2
  have e3 : [eG fl_X1 13 (h0 p2), Value.int (Int32.ofInt 0), eG fl_X1 13 (h0 p), .int (Int32.ofInt 0), .int (Int32.ofNat 4)] = [.ref a2, .int (Int32.ofInt 0), .ref a, .int (Int32.ofInt 0), .int (Int32.ofNat 4)] := by rw [g1, g2]
  obtain ⟨rfl, e2⟩ := hx2 ((a2, Int32.ofInt 0, a, Int32.ofInt 0, Int32.ofNat 4), (cA2, 4, f2), (cA, 4, f)) e3 ha2 ha
  refine ⟨rfl, _, e2, fun x hx => ?_⟩
  show va_cpy f2 f 0 0 4 x = f2 x
  unfold va_cpy
  rw [if_pos ⟨Nat.zero_le _, by omega⟩]
  congr 1
  omega
