/-! texts: signs worked off -/
theorem tdS_no {s : pS} (h : s.1.1 = 0 ∨ ¬ (s.1.2 (s.1.1 - 1)).toInt = 45) : tdS s = s := by
  obtain ⟨⟨k, m⟩, vc, v⟩ := s
  cases k with
  | zero => rfl
  | succ k =>
    have h : ¬ (m k).toInt = 45 := h.resolve_left (Nat.succ_ne_zero k)
    show (((tdA (k + 1) m v vc).1, m), vc, (tdA (k + 1) m v vc).2) = _
    unfold tdA
    rw [if_neg h]
theorem tdS_yes {s : pS} (h0 : 0 < s.1.1) (h : (s.1.2 (s.1.1 - 1)).toInt = 45) : tdS s = tdS ((s.1.1 - 1, s.1.2), s.2.1, updW s.2.2 (s.2.1 - 1) (fun x => o_turn (s.2.2 (s.2.1 - 1) x))) := by
  obtain ⟨⟨k, m⟩, vc, v⟩ := s
  cases k with
  | zero => exact absurd h0 (Nat.lt_irrefl _)
  | succ k =>
    have h : (m k).toInt = 45 := h
    show (((tdA (k + 1) m v vc).1, m), vc, (tdA (k + 1) m v vc).2) = (((tdA k m (updW v (vc - 1) (fun x => o_turn (v (vc - 1) x))) vc).1, m), vc, (tdA k m (updW v (vc - 1) (fun x => o_turn (v (vc - 1) x))) vc).2)
    rw [show tdA (k + 1) m v vc = tdA k m (updW v (vc - 1) (fun x => o_turn (v (vc - 1) x))) vc by
      show (if (m k).toInt = 45 then _ else _) = _
      rw [if_pos h]]
theorem bdS_no {L : Int} {s : pS} (h : s.1.1 = 0 ∨ ¬ L ≤ (rkc (s.1.2 (s.1.1 - 1))).toInt) : bdS L s = s := by
  obtain ⟨⟨k, m⟩, vc, v⟩ := s
  cases k with
  | zero => rfl
  | succ k =>
    have h : ¬ L ≤ (rkc (m k)).toInt := h.resolve_left (Nat.succ_ne_zero k)
    show (((bdA L (k + 1) m v vc).1, m), (bdA L (k + 1) m v vc).2.1, (bdA L (k + 1) m v vc).2.2) = _
    unfold bdA
    rw [if_neg h]
theorem bdS_yes {L : Int} {s : pS} (h0 : 0 < s.1.1) (h : L ≤ (rkc (s.1.2 (s.1.1 - 1))).toInt) : bdS L s = bdS L ((s.1.1 - 1, s.1.2), s.2.1 - 1, rdZ (s.1.2 (s.1.1 - 1)) s.2.2 s.2.1) := by
  obtain ⟨⟨k, m⟩, vc, v⟩ := s
  cases k with
  | zero => exact absurd h0 (Nat.lt_irrefl _)
  | succ k =>
    have h : L ≤ (rkc (m k)).toInt := h
    have e : bdA L (k + 1) m v vc = bdA L k m (rdZ (m k) v vc) (vc - 1) := by
      show (if L ≤ (rkc (m k)).toInt then _ else _) = _
      rw [if_pos h]
    show (((bdA L (k + 1) m v vc).1, m), (bdA L (k + 1) m v vc).2.1, (bdA L (k + 1) m v vc).2.2) = (((bdA L k m (rdZ (m k) v vc) (vc - 1)).1, m), (bdA L k m (rdZ (m k) v vc) (vc - 1)).2.1, (bdA L k m (rdZ (m k) v vc) (vc - 1)).2.2)
    rw [e]
theorem bdK_yes {L : Int} {s : pS} (hk : bdK L s.1.1 s.1.2 s.2.1) (h0 : 0 < s.1.1) (h : L ≤ (rkc (s.1.2 (s.1.1 - 1))).toInt) : 2 ≤ s.2.1 ∧ bdK L (s.1.1 - 1) s.1.2 (s.2.1 - 1) := by
  obtain ⟨⟨k, m⟩, vc, v⟩ := s
  cases k with
  | zero => exact absurd h0 (Nat.lt_irrefl _)
  | succ k => exact hk h
/-- minus signs -/
abbrev taA : Type := (Nat → Nat) × pS
def ta_F : taA → List Value := fun (B, _) => [.ref (B 126)]
def in_t0 (B : Nat → Nat) (T : pS) : fL_ → List Value → lW → Prop := fun lg vs w => ∃ s : pS, f_sub [(0, false, .ref (B 126))] lg ∧ vs = [] ∧ rS B s w ∧ tdS s = T ∧ 0 < s.2.1 ∧ s.2.1 ≤ 32
def in_t33 (B : Nat → Nat) (T : pS) : fL_ → List Value → lW → Prop := fun lg vs w => ∃ s : pS, f_sub [(0, false, .ref (B 126))] lg ∧ vs = [] ∧ rX B s (s.1.1 - 1) s.2.1 w ∧ tdS s = T ∧ (0 < s.2.1 ∧ s.2.1 ≤ 32) ∧ 0 < s.1.1 ∧ (s.1.2 (s.1.1 - 1)).toInt = 45
def Sp_ta : fP lW := [(213, 1, fLr r_X1_turn)]
theorem Sp_ta_ok : f_sp T_X7_turnAsMarked Sp_ta wW := List.forall_mem_cons.mpr ⟨sp_w rfl (fun _ _ _ _ _ _ h => h.2.2.1), fun _ h => absurd h List.not_mem_nil⟩
set_option maxHeartbeats 4000000 in
theorem s_X7_turnAsMarked : ∀ (a : taA) (w w' : lW) (rv : Option Value), fLr r_X7_turnAsMarked (ta_F a) w rv w' → (rS a.1 a.2 w ∧ 0 < a.2.2.1 ∧ a.2.2.1 ≤ 32) → rv = none ∧ rS a.1 (tdS a.2) w' := by
  refine do_ofW ta_F (fun a w => rS a.1 a.2 w ∧ 0 < a.2.2.1 ∧ a.2.2.1 ≤ 32) (fun a _ rv w' => rv = none ∧ rS a.1 (tdS a.2) w') Sp_ta (fun a _ => [(0, in_t0 a.1 (tdS a.2)), (33, in_t33 a.1 (tdS a.2))]) 40 fo_X7 Sp_ta_ok k_X7_turnAsMarked (fun a w0 hp => ?_) (fun a w0 hp hd0 => ?_)
  · obtain ⟨B, s0⟩ := a
    have e45 : (Int32.ofInt 45).toInt = 45 := by decide
    refine List.forall_mem_cons.mpr ⟨?_, List.forall_mem_cons.mpr ⟨?_, fun _ h => absurd h List.not_mem_nil⟩⟩
    · rintro lg vs w ⟨s, hs, rfl, h, eT, hv⟩
      have h : rX B s s.1.1 s.2.1 w := h
      have eT : tdS s = tdS s0 := eT
      obtain ⟨x, g1, ex⟩ := h.g31
      refine ⟨_, 40, hs, fun hc => ?_, fun hc => ⟨fun hd => ?_, fun hd => ?_⟩⟩
      · have hc : (iv (eG fl_X7 31 (hof w.1 (B 126)))).toInt ≤ 0 := hc
        rw [g1] at hc
        have hc : x.toInt ≤ 0 := hc
        refine ⟨rfl, ?_⟩
        show rS B (tdS s0) w
        rw [← eT, tdS_no (Or.inl (by omega))]
        exact h
      all_goals
        have hc : ¬ (iv (eG fl_X7 31 (hof w.1 (B 126)))).toInt ≤ 0 := hc
        rw [g1] at hc
        have hc : ¬ x.toInt ≤ 0 := hc
        obtain ⟨k, ek⟩ : ∃ k, s.1.1 = k + 1 := ⟨s.1.1 - 1, by omega⟩
        have em : (x - 1).toInt = (k : Int) := i_m1 (by rw [ex, ek])
        have er : eI (hof w.1 (rv_ (eG fl_X7 9 (hof w.1 (B 126))))) (iv (eG fl_X7 31 (hof w.1 (B 126))) - 1).toNatClampNeg = s.1.2 (s.1.1 - 1) := by
          rw [g1, h.g9]
          show eI (hof w.1 (B 127)) (x - 1).toInt.toNat = _
          rw [nat_i em, h.mk (by omega), ek]
          rfl
      · have hd : ¬ (eI (hof w.1 (rv_ (eG fl_X7 9 (hof w.1 (B 126))))) (iv (eG fl_X7 31 (hof w.1 (B 126))) - 1).toNatClampNeg).toInt = (Int32.ofInt 45).toInt := hd
        rw [er, e45] at hd
        refine ⟨rfl, ?_⟩
        show rS B (tdS s0) w
        rw [← eT, tdS_no (Or.inr hd)]
        exact h
      · have hd : ¬ ¬ (eI (hof w.1 (rv_ (eG fl_X7 9 (hof w.1 (B 126))))) (iv (eG fl_X7 31 (hof w.1 (B 126))) - 1).toNatClampNeg).toInt = (Int32.ofInt 45).toInt := hd
        rw [er, e45] at hd
        intro q e0 hq
        have hq : w.1[q]? = some (B 126, e0) := hq
        refine ⟨s, ⟨rfl, trivial⟩, rfl, ?_, eT, hv, (show 0 < s.1.1 by omega), Classical.not_not.mp hd⟩
        exact h.p31 hq (x := x - 1) (show Value.int (iv (eG fl_X7 31 (hof w.1 (B 126))) - 1) = .int (x - 1) by rw [g1]; rfl) (by rw [em, ek]; rfl)
    · rintro lg vs w ⟨s, hs, rfl, h, eT, hv, h0, ht⟩
      have h : rX B s (s.1.1 - 1) s.2.1 w := h
      have eT : tdS s = tdS s0 := eT
      obtain ⟨x, g1, ex⟩ := h.g35
      obtain ⟨k, ek⟩ : ∃ k, s.2.1 = k + 1 := ⟨s.2.1 - 1, by omega⟩
      have em : (x - 1).toInt = (k : Int) := i_m1 (by rw [ex, ek])
      refine ⟨_, 40, hs, fun hc => ?_, fun hc => ?_⟩
      · have hc : (iv (eG fl_X7 35 (hof w.1 (B 126)))).toInt ≤ 0 := hc
        rw [g1] at hc
        have hc : x.toInt ≤ 0 := hc
        omega
      · intro rv w1 hx
        have hx : fLr r_X1_turn [eR (hof w.1 (rv_ (eG fl_X7 19 (hof w.1 (B 126))))) (iv (eG fl_X7 35 (hof w.1 (B 126))) - 1).toNatClampNeg] w rv w1 := hx
        have er : eR (hof w.1 (rv_ (eG fl_X7 19 (hof w.1 (B 126))))) (iv (eG fl_X7 35 (hof w.1 (B 126))) - 1).toNatClampNeg = .ref (B (129 + 2 * k)) := by
          rw [g1, h.g19]
          show eR (hof w.1 (B 128)) (x - 1).toInt.toNat = _
          rw [nat_i em, h.vl (by omega)]
        rw [er] at hx
        obtain ⟨rfl, a1⟩ := v_one (o := fun _ u => o_turn u) hx h (show k < 32 by omega) (by decide) (by decide) (fun a ha hb => (s_X1_turn _ _ _ _ _ _ hx).2 a (by rw [ha]) hb) s.2.1 (Or.inl (Nat.le_refl _))
        refine ⟨((s.1.1 - 1, s.1.2), s.2.1, updW s.2.2 (s.2.1 - 1) (fun x => o_turn (s.2.2 (s.2.1 - 1) x))), ⟨rfl, trivial⟩, rfl, ?_, ?_, hv⟩
        · rw [ek, Nat.add_sub_cancel]
          rw [ek] at a1
          exact a1.cut (by show s.1.1 - 1 ≤ s.1.1; omega) rfl (Nat.le_refl _) rfl
        · rw [← eT]
          exact (tdS_yes h0 ht).symm
  · obtain ⟨B, s0⟩ := a
    exact ⟨s0, ⟨rfl, trivial⟩, rfl, hp.1, rfl, hp.2⟩
/-- two values by a sign -/
def in_ap (B : Nat → Nat) (s : pS) (c : Int32) : fL_ → List Value → lW → Prop := fun lg vs w => f_sub [(0, false, .ref (B 126)), (1, false, .int c)] lg ∧ vs = [] ∧ rX B s s.1.1 (s.2.1 - 1) w
def Sp_ap : fP lW := [(231, 2, fLr r_X1_meet), (243, 2, fLr r_X1_join), (252, 2, fLr r_X1_imply)]
theorem Sp_ap_ok : f_sp T_X7_apply Sp_ap wW := List.forall_mem_cons.mpr ⟨sp_w rfl (fun _ _ _ _ _ _ h => h.2.2.1), List.forall_mem_cons.mpr ⟨sp_w rfl (fun _ _ _ _ _ _ h => h.2.2.1), List.forall_mem_cons.mpr ⟨sp_w rfl (fun _ _ _ _ _ _ h => h.2.2.1), fun _ h => absurd h List.not_mem_nil⟩⟩⟩
def rdS (c : Int32) (s : pS) : pS := (s.1, s.2.1 - 1, rdZ c s.2.2 s.2.1)
set_option maxHeartbeats 4000000 in
theorem s_X7_apply : ∀ (a : maA) (w w' : lW) (rv : Option Value), fLr r_X7_apply (ma_F a) w rv w' → (rS a.1 a.2.1 w ∧ 2 ≤ a.2.1.2.1 ∧ a.2.1.2.1 ≤ 32) → rv = none ∧ rS a.1 (rdS a.2.2 a.2.1) w' := by
  refine do_ofW ma_F (fun a w => rS a.1 a.2.1 w ∧ 2 ≤ a.2.1.2.1 ∧ a.2.1.2.1 ≤ 32) (fun a _ rv w' => rv = none ∧ rS a.1 (rdS a.2.2 a.2.1) w') Sp_ap (fun a _ => [(19, in_ap a.1 a.2.1 a.2.2)]) 40 fo_X7 Sp_ap_ok k_X7_apply (fun a w0 hp => ?_) (fun a w0 hp hd0 => ?_)
  · refine List.forall_mem_cons.mpr ⟨?_, fun _ h => absurd h List.not_mem_nil⟩
    obtain ⟨B, s, c⟩ := a
    obtain ⟨-, h2, h32⟩ := hp
    have h2 : 2 ≤ s.2.1 := h2
    have h32 : s.2.1 ≤ 32 := h32
    rintro lg vs w ⟨hs, rfl, h⟩
    have h : rX B s s.1.1 (s.2.1 - 1) w := h
    have e38 : (Int32.ofInt 38).toInt = 38 := by decide
    have e124 : (Int32.ofInt 124).toInt = 124 := by decide
    obtain ⟨k, ek⟩ : ∃ k, s.2.1 = k + 2 := ⟨s.2.1 - 2, by omega⟩
    obtain ⟨x, g1, ex⟩ := h.g35
    have ex : x.toInt = ((k + 1 : Nat) : Int) := by rw [ex, ek]; rfl
    have em : (x - 1).toInt = (k : Int) := i_m1 ex
    have eL : eR (hof w.1 (rv_ (eG fl_X7 19 (hof w.1 (B 126))))) (iv (eG fl_X7 35 (hof w.1 (B 126))) - 1).toNatClampNeg = .ref (B (129 + 2 * k)) := by
      rw [g1, h.g19]
      show eR (hof w.1 (B 128)) (x - 1).toInt.toNat = _
      rw [nat_i em, h.vl (by omega)]
    have eRr : eR (hof w.1 (rv_ (eG fl_X7 19 (hof w.1 (B 126))))) (iv (eG fl_X7 35 (hof w.1 (B 126)))).toNatClampNeg = .ref (B (129 + 2 * (k + 1))) := by
      rw [g1, h.g19]
      show eR (hof w.1 (B 128)) x.toInt.toNat = _
      rw [nat_i ex, h.vl (by omega)]
    have fin : ∀ {o : Int64 → Int64 → Int64} {w1 : lW}, (∀ u v, o u v = rdV c u v) → rX B (s.1, s.2.1, updW s.2.2 k (fun x => o (s.2.2 k x) (s.2.2 (k + 1) x))) s.1.1 (s.2.1 - 1) w1 → rS B (rdS c s) w1 := by
      intro o w1 ho a1
      have ef : rdZ c s.2.2 s.2.1 = updW s.2.2 k (fun x => o (s.2.2 k x) (s.2.2 (k + 1) x)) := by
        unfold rdZ
        rw [ek]
        show updW s.2.2 k (fun x => rdV c (s.2.2 k x) (s.2.2 (k + 1) x)) = _
        congr 1
        funext x
        rw [ho]
      show rX B (s.1, s.2.1 - 1, rdZ c s.2.2 s.2.1) s.1.1 (s.2.1 - 1) w1
      rw [ef]
      exact a1.cut (Nat.le_refl _) rfl (by show s.2.1 - 1 ≤ s.2.1; omega) rfl
    refine ⟨_, 60, hs, fun h1 => ⟨fun h3 => ?_, fun h3 => ?_⟩, fun h1 => ?_⟩
    · have h1 : ¬ c.toInt = (Int32.ofInt 38).toInt := h1
      rw [e38] at h1
      have h3 : ¬ c.toInt = (Int32.ofInt 124).toInt := h3
      rw [e124] at h3
      intro rv w1 hx
      have hx : fLr r_X1_imply [eR (hof w.1 (rv_ (eG fl_X7 19 (hof w.1 (B 126))))) (iv (eG fl_X7 35 (hof w.1 (B 126))) - 1).toNatClampNeg, eR (hof w.1 (rv_ (eG fl_X7 19 (hof w.1 (B 126))))) (iv (eG fl_X7 35 (hof w.1 (B 126)))).toNatClampNeg] w rv w1 := hx
      rw [eL, eRr] at hx
      obtain ⟨rfl, a1⟩ := v_two hx s_X1_imply h (show k < 32 by omega) (show k + 1 < 32 by omega) (by omega) (by omega) (by omega) (by decide) (by decide)
      exact ⟨rfl, fin (fun u v => by unfold rdV; rw [if_neg h1, if_neg h3]) a1⟩
    · have h1 : ¬ c.toInt = (Int32.ofInt 38).toInt := h1
      rw [e38] at h1
      have h3 : ¬ ¬ c.toInt = (Int32.ofInt 124).toInt := h3
      rw [e124] at h3
      intro rv w1 hx
      have hx : fLr r_X1_join [eR (hof w.1 (rv_ (eG fl_X7 19 (hof w.1 (B 126))))) (iv (eG fl_X7 35 (hof w.1 (B 126))) - 1).toNatClampNeg, eR (hof w.1 (rv_ (eG fl_X7 19 (hof w.1 (B 126))))) (iv (eG fl_X7 35 (hof w.1 (B 126)))).toNatClampNeg] w rv w1 := hx
      rw [eL, eRr] at hx
      obtain ⟨rfl, a1⟩ := v_two hx s_X1_join h (show k < 32 by omega) (show k + 1 < 32 by omega) (by omega) (by omega) (by omega) (by decide) (by decide)
      exact ⟨rfl, fin (fun u v => by unfold rdV; rw [if_neg h1, if_pos (Classical.not_not.mp h3)]) a1⟩
    · have h1 : ¬ ¬ c.toInt = (Int32.ofInt 38).toInt := h1
      rw [e38] at h1
      intro rv w1 hx
      have hx : fLr r_X1_meet [eR (hof w.1 (rv_ (eG fl_X7 19 (hof w.1 (B 126))))) (iv (eG fl_X7 35 (hof w.1 (B 126))) - 1).toNatClampNeg, eR (hof w.1 (rv_ (eG fl_X7 19 (hof w.1 (B 126))))) (iv (eG fl_X7 35 (hof w.1 (B 126)))).toNatClampNeg] w rv w1 := hx
      rw [eL, eRr] at hx
      obtain ⟨rfl, a1⟩ := v_two hx s_X1_meet h (show k < 32 by omega) (show k + 1 < 32 by omega) (by omega) (by omega) (by omega) (by decide) (by decide)
      exact ⟨rfl, fin (fun u v => by unfold rdV; rw [if_pos (Classical.not_not.mp h1)]) a1⟩
  · obtain ⟨B, s, c⟩ := a
    obtain ⟨h, h2, h32⟩ := hp
    have h : rX B s s.1.1 s.2.1 w0 := h
    have h2 : 2 ≤ s.2.1 := h2
    obtain ⟨x, g1, ex⟩ := h.g35
    have e2 : (Int32.ofInt 2).toInt = 2 := by decide
    refine ⟨fun hc => ?_, fun hc => ?_⟩
    · intro q e0 hq
      have hq : w0.1[q]? = some (B 126, e0) := hq
      obtain ⟨k, ek⟩ : ∃ k, s.2.1 = k + 1 := ⟨s.2.1 - 1, by omega⟩
      have em : (x - 1).toInt = ((s.2.1 - 1 : Nat) : Int) := by
        rw [ek, Nat.add_sub_cancel]
        exact i_m1 (by rw [ex, ek])
      exact ⟨⟨rfl, rfl, trivial⟩, rfl, h.p35 hq (x := x - 1) (show Value.int (iv (eG fl_X7 35 (hof w0.1 (B 126))) - 1) = .int (x - 1) by rw [g1]; rfl) em⟩
    · have hc : ¬ (Int32.ofInt 2).toInt ≤ (iv (eG fl_X7 35 (hof w0.1 (B 126)))).toInt := hc
      rw [g1, e2] at hc
      have hc : ¬ 2 ≤ x.toInt := hc
      omega
/-- signs bound -/
abbrev biA : Type := (Nat → Nat) × pS × Int32
def bi_F : biA → List Value := fun (B, _, l) => [.ref (B 126), .int l]
def in_b0 (B : Nat → Nat) (T : pS) (l : Int32) : fL_ → List Value → lW → Prop := fun lg vs w => ∃ s : pS, f_sub [(0, false, .ref (B 126)), (1, false, .int l)] lg ∧ vs = [] ∧ rS B s w ∧ bdS l.toInt s = T ∧ s.2.1 ≤ 32 ∧ bdK l.toInt s.1.1 s.1.2 s.2.1
def in_b35 (B : Nat → Nat) (T : pS) (l : Int32) : fL_ → List Value → lW → Prop := fun lg vs w => ∃ s : pS, f_sub [(0, false, .ref (B 126)), (1, false, .int l)] lg ∧ vs = [] ∧ rX B s (s.1.1 - 1) s.2.1 w ∧ bdS l.toInt s = T ∧ s.2.1 ≤ 32 ∧ bdK l.toInt s.1.1 s.1.2 s.2.1 ∧ 0 < s.1.1 ∧ l.toInt ≤ (rkc (s.1.2 (s.1.1 - 1))).toInt
def Sp_bi : fP lW := [(82, 1, fLr r_X7_rank), (222, 2, fLr r_X7_apply)]
theorem Sp_bi_ok : f_sp T_X7_bind Sp_bi wW := List.forall_mem_cons.mpr ⟨sp_w rfl (fun _ _ _ _ _ _ h => h.2.2.1), List.forall_mem_cons.mpr ⟨sp_w rfl (fun _ _ _ _ _ _ h => h.2.2.1), fun _ h => absurd h List.not_mem_nil⟩⟩
set_option maxHeartbeats 4000000 in
theorem s_X7_bind : ∀ (a : biA) (w w' : lW) (rv : Option Value), fLr r_X7_bind (bi_F a) w rv w' → (rS a.1 a.2.1 w ∧ a.2.1.2.1 ≤ 32 ∧ bdK a.2.2.toInt a.2.1.1.1 a.2.1.1.2 a.2.1.2.1) → rv = none ∧ rS a.1 (bdS a.2.2.toInt a.2.1) w' := by
  refine do_ofW bi_F (fun a w => rS a.1 a.2.1 w ∧ a.2.1.2.1 ≤ 32 ∧ bdK a.2.2.toInt a.2.1.1.1 a.2.1.1.2 a.2.1.2.1) (fun a _ rv w' => rv = none ∧ rS a.1 (bdS a.2.2.toInt a.2.1) w') Sp_bi (fun a _ => [(0, in_b0 a.1 (bdS a.2.2.toInt a.2.1) a.2.2), (35, in_b35 a.1 (bdS a.2.2.toInt a.2.1) a.2.2)]) 40 fo_X7 Sp_bi_ok k_X7_bind (fun a w0 hp => ?_) (fun a w0 hp hd0 => ?_)
  · obtain ⟨B, s0, l⟩ := a
    refine List.forall_mem_cons.mpr ⟨?_, List.forall_mem_cons.mpr ⟨?_, fun _ h => absurd h List.not_mem_nil⟩⟩
    · rintro lg vs w ⟨s, hs, rfl, h, eT, h32, hK⟩
      have h : rX B s s.1.1 s.2.1 w := h
      have eT : bdS l.toInt s = bdS l.toInt s0 := eT
      obtain ⟨x, g1, ex⟩ := h.g31
      refine ⟨_, 40, hs, fun hc => ?_, fun hc => ?_⟩
      · have hc : (iv (eG fl_X7 31 (hof w.1 (B 126)))).toInt ≤ 0 := hc
        rw [g1] at hc
        have hc : x.toInt ≤ 0 := hc
        refine ⟨rfl, ?_⟩
        show rS B (bdS l.toInt s0) w
        rw [← eT, bdS_no (Or.inl (by omega))]
        exact h
      have hc : ¬ (iv (eG fl_X7 31 (hof w.1 (B 126)))).toInt ≤ 0 := hc
      rw [g1] at hc
      have hc : ¬ x.toInt ≤ 0 := hc
      obtain ⟨k, ek⟩ : ∃ k, s.1.1 = k + 1 := ⟨s.1.1 - 1, by omega⟩
      have em : (x - 1).toInt = (k : Int) := i_m1 (by rw [ex, ek])
      have er : eI (hof w.1 (rv_ (eG fl_X7 9 (hof w.1 (B 126))))) (iv (eG fl_X7 31 (hof w.1 (B 126))) - 1).toNatClampNeg = s.1.2 (s.1.1 - 1) := by
        rw [g1, h.g9]
        show eI (hof w.1 (B 127)) (x - 1).toInt.toNat = _
        rw [nat_i em, h.mk (by omega), ek]
        rfl
      intro rv w1 hx
      have hx : fLr r_X7_rank [.int (eI (hof w.1 (rv_ (eG fl_X7 9 (hof w.1 (B 126))))) (iv (eG fl_X7 31 (hof w.1 (B 126))) - 1).toNatClampNeg)] w rv w1 := hx
      rw [er] at hx
      have h1 := h.keep hx (by decide) (by decide) (by decide)
      obtain ⟨-, rfl⟩ := (s_X7_rank _ _ _ _ _ _ hx).2 _ rfl trivial
      obtain ⟨x1, g2, ex1⟩ := h1.g31
      refine ⟨fun hd => ?_, fun hd => ?_⟩
      · have hd : (rkc (s.1.2 (s.1.1 - 1))).toInt < l.toInt := hd
        refine ⟨rfl, ?_⟩
        show rS B (bdS l.toInt s0) w1
        rw [← eT, bdS_no (Or.inr (by omega))]
        exact h1
      · have hd : ¬ (rkc (s.1.2 (s.1.1 - 1))).toInt < l.toInt := hd
        intro q e0 hq
        have hq : w1.1[q]? = some (B 126, e0) := hq
        refine ⟨s, ⟨rfl, rfl, trivial⟩, rfl, ?_, eT, h32, hK, (show 0 < s.1.1 by omega), (show l.toInt ≤ (rkc (s.1.2 (s.1.1 - 1))).toInt by omega)⟩
        have em1 : (x1 - 1).toInt = ((s.1.1 - 1 : Nat) : Int) := by
          rw [ek, Nat.add_sub_cancel]
          exact i_m1 (by rw [ex1, ek])
        exact h1.p31 hq (x := x1 - 1) (show Value.int (iv (eG fl_X7 31 (hof w1.1 (B 126))) - 1) = .int (x1 - 1) by rw [g2]; rfl) em1
    · rintro lg vs w ⟨s, hs, rfl, h, eT, h32, hK, h0, hr⟩
      have h : rX B s (s.1.1 - 1) s.2.1 w := h
      have eT : bdS l.toInt s = bdS l.toInt s0 := eT
      obtain ⟨k2, hK2⟩ := bdK_yes hK h0 hr
      obtain ⟨x, g1, ex⟩ := h.g35
      obtain ⟨y, g2, ey⟩ := h.g31
      have e1 : (Int32.ofInt 1).toInt = 1 := by decide
      refine ⟨_, 40, hs, fun hc => ?_, fun hc => ?_⟩
      · have hc : (iv (eG fl_X7 35 (hof w.1 (B 126)))).toInt ≤ (Int32.ofInt 1).toInt := hc
        rw [g1, e1] at hc
        have hc : x.toInt ≤ 1 := hc
        omega
      · intro rv w1 hx
        have hx : fLr r_X7_apply [.ref (B 126), .int (eI (hof w.1 (rv_ (eG fl_X7 9 (hof w.1 (B 126))))) (iv (eG fl_X7 31 (hof w.1 (B 126)))).toNatClampNeg)] w rv w1 := hx
        have er : eI (hof w.1 (rv_ (eG fl_X7 9 (hof w.1 (B 126))))) (iv (eG fl_X7 31 (hof w.1 (B 126)))).toNatClampNeg = s.1.2 (s.1.1 - 1) := by
          rw [g2, h.g9]
          show eI (hof w.1 (B 127)) y.toInt.toNat = _
          rw [nat_i ey, h.mk (by omega)]
        rw [er] at hx
        have h2 : rS B ((s.1.1 - 1, s.1.2), s.2) w := h.cut (by show s.1.1 - 1 ≤ s.1.1; omega) rfl (Nat.le_refl _) rfl
        obtain ⟨rfl, a1⟩ := s_X7_apply (B, ((s.1.1 - 1, s.1.2), s.2), s.1.2 (s.1.1 - 1)) w w1 rv hx ⟨h2, k2, h32⟩
        refine ⟨((s.1.1 - 1, s.1.2), s.2.1 - 1, rdZ (s.1.2 (s.1.1 - 1)) s.2.2 s.2.1), ⟨rfl, rfl, trivial⟩, rfl, a1, ?_, (show s.2.1 - 1 ≤ 32 by omega), hK2⟩
        rw [← eT]
        exact (bdS_yes h0 hr).symm
  · obtain ⟨B, s0, l⟩ := a
    exact ⟨s0, ⟨rfl, rfl, trivial⟩, rfl, hp.1, rfl, hp.2⟩
/-- a bracket closed -/
def Sp_cb : fP lW := [(132, 2, fLr r_X7_bind)]
theorem Sp_cb_ok : f_sp T_X7_closeBracket Sp_cb wW := List.forall_mem_cons.mpr ⟨sp_w rfl (fun _ _ _ _ _ _ h => h.2.2.1), fun _ h => absurd h List.not_mem_nil⟩
set_option maxHeartbeats 4000000 in
theorem s_X7_closeBracket : ∀ (a : taA) (w w' : lW) (rv : Option Value), fLr r_X7_closeBracket (ta_F a) w rv w' → (rS a.1 a.2 w ∧ a.2.2.1 ≤ 32 ∧ bdK 1 a.2.1.1 a.2.1.2 a.2.2.1 ∧ 0 < (bdS 1 a.2).1.1) → rv = none ∧ rS a.1 (popS (bdS 1 a.2)) w' := by
  refine do_ofW ta_F (fun a w => rS a.1 a.2 w ∧ a.2.2.1 ≤ 32 ∧ bdK 1 a.2.1.1 a.2.1.2 a.2.2.1 ∧ 0 < (bdS 1 a.2).1.1) (fun a _ rv w' => rv = none ∧ rS a.1 (popS (bdS 1 a.2)) w') Sp_cb (fun _ _ => []) 40 fo_X7 Sp_cb_ok k_X7_closeBracket (fun _ _ _ => no_hd) (fun a w0 hp hd0 => ?_)
  obtain ⟨B, s⟩ := a
  obtain ⟨h, h32, hK, hpos⟩ := hp
  have e1 : (Int32.ofInt 1).toInt = 1 := by decide
  intro rv w1 hx
  have hx : fLr r_X7_bind [.ref (B 126), .int (Int32.ofInt 1)] w0 rv w1 := hx
  obtain ⟨rfl, a1⟩ := s_X7_bind (B, s, Int32.ofInt 1) w0 w1 rv hx ⟨h, h32, by rw [e1]; exact hK⟩
  have a1 : rS B (bdS (Int32.ofInt 1).toInt s) w1 := a1
  rw [e1] at a1
  have a1 : rX B (bdS 1 s) (bdS 1 s).1.1 (bdS 1 s).2.1 w1 := a1
  have hpos : 0 < (bdS 1 s).1.1 := hpos
  show _ ∧ _
  generalize bdS 1 s = T at a1 hpos
  obtain ⟨x, g1, ex⟩ := a1.g31
  refine ⟨fun hc => ?_, fun hc => ?_⟩
  · have hc : (iv (eG fl_X7 31 (hof w1.1 (B 126)))).toInt ≤ 0 := hc
    rw [g1] at hc
    have hc : x.toInt ≤ 0 := hc
    omega
  · intro q e0 hq
    have hq : w1.1[q]? = some (B 126, e0) := hq
    obtain ⟨k, ek⟩ : ∃ k, T.1.1 = k + 1 := ⟨T.1.1 - 1, by omega⟩
    have em : (x - 1).toInt = ((T.1.1 - 1 : Nat) : Int) := by
      rw [ek, Nat.add_sub_cancel]
      exact i_m1 (by rw [ex, ek])
    refine ⟨rfl, ?_⟩
    have y := a1.p31 hq (x := x - 1) (show Value.int (iv (eG fl_X7 31 (hof w1.1 (B 126))) - 1) = .int (x - 1) by rw [g1]; rfl) em
    exact y.cut (by show T.1.1 - 1 ≤ T.1.1; omega) rfl (Nat.le_refl _) rfl
