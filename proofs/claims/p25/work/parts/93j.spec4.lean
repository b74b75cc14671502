/-! the class's sheets: sheet -/
abbrev dk_ : Type := Nat × List Value × Nat × ClassId × (Nat → Int32) × Nat × ClassId × (Nat → Int32) × Nat × ClassId × (Nat → Option Nat) × (Nat → Nat × ClassId × (Nat → Int32))
def dk_.p (d : dk_) : Nat := d.1
def dk_.fs (d : dk_) : List Value := d.2.1
def dk_.aL (d : dk_) : Nat := d.2.2.1
def dk_.cL (d : dk_) : ClassId := d.2.2.2.1
def dk_.l (d : dk_) : Nat → Int32 := d.2.2.2.2.1
def dk_.aS (d : dk_) : Nat := d.2.2.2.2.2.1
def dk_.cS (d : dk_) : ClassId := d.2.2.2.2.2.2.1
def dk_.z (d : dk_) : Nat → Int32 := d.2.2.2.2.2.2.2.1
def dk_.aC (d : dk_) : Nat := d.2.2.2.2.2.2.2.2.1
def dk_.cC (d : dk_) : ClassId := d.2.2.2.2.2.2.2.2.2.1
def dk_.g (d : dk_) : Nat → Option Nat := d.2.2.2.2.2.2.2.2.2.2.1
def dk_.R (d : dk_) : Nat → Nat × ClassId × (Nat → Int32) := d.2.2.2.2.2.2.2.2.2.2.2
def dk_at (d : dk_) (h : fH) : Prop := h d.p = some (.inr (11, d.fs)) ∧ (d.fs.getD 11 .null = .ref d.aL ∧ h d.aL = some (.inl (d.cL, 4, .inl d.l))) ∧ (d.fs.getD 12 .null = .ref d.aS ∧ h d.aS = some (.inl (d.cS, 4, .inl d.z))) ∧ (d.fs.getD 10 .null = .ref d.aC ∧ h d.aC = some (.inl (d.cC, 4, .inr (.inr (.inr (.inr d.g)))))) ∧ d.aL ≠ d.aS ∧ ∀ i, i < 4 → d.g i = some (d.R i).1 ∧ h (d.R i).1 = some (.inl ((d.R i).2.1, 60, .inl (d.R i).2.2)) ∧ (d.R i).1 ≠ d.aL ∧ (d.R i).1 ≠ d.aS
def dk_f (d : dk_) (v : Int32) : va_E := .inr (11, d.fs.set 14 (.int v))
def Q11_sheet (d : dk_) (k lane n : Int32) (h : fH) (rv : Option Value) (h' : fH) : Prop :=
  if 0 ≤ k.toInt ∧ k.toInt < 4 then
    if (0 ≤ lane.toInt ∧ lane.toInt < 3) ∧ n.toInt ≤ 60 then
      if 0 ≤ n.toInt then rv = some (.int 1) ∧ ∃ f : Nat → Int32, (∀ j, j < 60 → f j = 0) ∧ h' = hset (hset (hset (hset h d.p (dk_f d 0)) d.aL (.inl (d.cL, 4, .inl (upd d.l k.toInt.toNat lane)))) d.aS (.inl (d.cS, 4, .inl (upd d.z k.toInt.toNat n)))) (d.R k.toInt.toNat).1 (.inl ((d.R k.toInt.toNat).2.1, 60, .inl f))
      else rv = some (.int (-14)) ∧ h' = hset h d.p (dk_f d 4)
    else rv = some (.int (-2)) ∧ h' = hset h d.p (dk_f d 0)
  else rv = some (.int (-1)) ∧ h' = hset h d.p (dk_f d 0)
theorem ne_of_h {h : fH} {a b : Nat} {x : Nat × List Value} {y : ClassId × vp_A} (h1 : h a = some (.inr x)) (h2 : h b = some (.inl y)) : b ≠ a := fun e => by
  rw [e, h1] at h2
  cases h2
theorem ne_of_k {h : fH} {a b : Nat} {cA cB : ClassId} {n m : Nat} {f : Nat → Int32} {g : Nat → Option Nat} (h1 : h a = some (.inl (cA, n, .inl f))) (h2 : h b = some (.inl (cB, m, .inr (.inr (.inr (.inr g)))))) : b ≠ a := fun e => by
  rw [e, h1] at h2
  cases h2
set_option maxHeartbeats 4000000 in
theorem s_X11_sheet : f_do r_X11_sheet (fun As h rv h' => ∀ a : dk_ × Int32 × Int32 × Int32, As = [.ref a.1.p, .int a.2.1, .int a.2.2.1, .int a.2.2.2] → dk_at a.1 h → Q11_sheet a.1 a.2.1 a.2.2.1 a.2.2.2 h rv h') := by
  refine do_ofP (fun a : dk_ × Int32 × Int32 × Int32 => [.ref a.1.p, .int a.2.1, .int a.2.2.1, .int a.2.2.2]) (fun a h => dk_at a.1 h) (fun a h rv h' => Q11_sheet a.1 a.2.1 a.2.2.1 a.2.2.2 h rv h')
    [(244, 2, _), (292, 1, _), (304, 1, _), (312, 2, _)] (fun _ _ => []) 80 fo_X11 (List.forall_mem_cons.mpr ⟨sp_one rfl s_J7_fillI, List.forall_mem_cons.mpr ⟨sp_one rfl s_X11_isSheet, List.forall_mem_cons.mpr ⟨sp_one rfl s_X11_isLane, List.forall_mem_cons.mpr ⟨sp_one rfl s_X11_faulted, no_sp⟩⟩⟩⟩) k_X11_sheet (fun _ _ _ => no_hd) (fun a h0 hp => ?_)
  obtain ⟨d, k, lane, n⟩ := a
  obtain ⟨hp, ⟨hL, hl⟩, ⟨hS, hz⟩, ⟨hC, hg⟩, nLS, hR⟩ := (show dk_at d h0 from hp)
  have pL := ne_of_h hp hl
  have pS := ne_of_h hp hz
  have pC := ne_of_h hp hg
  have cL := ne_of_k hl hg
  have cS := ne_of_k hz hg
  intro rv h1 hc
  obtain ⟨e1, rfl⟩ := hc k rfl trivial
  have e1 : h1 = hset h0 d.p (sG pl_X11 93 (.int 0) (h0 d.p)) := e1
  have e1 : h1 = hset h0 d.p (dk_f d 0) := by
    rw [e1, hp]
    rfl
  have w1 : h1 d.p = some (dk_f d 0) := by rw [e1, hset_at]
  have w2 : h1 d.aL = some (.inl (d.cL, 4, .inl d.l)) := by rw [e1, hset_ne pL, hl]
  have w3 : h1 d.aS = some (.inl (d.cS, 4, .inl d.z)) := by rw [e1, hset_ne pS, hz]
  have w4 : h1 d.aC = some (.inl (d.cC, 4, .inr (.inr (.inr (.inr d.g))))) := by rw [e1, hset_ne pC, hg]
  refine ⟨fun hc => ?_, fun hc => ?_⟩
  rotate_left
  · have hk : ¬ (0 ≤ k.toInt ∧ k.toInt < 4) := by
      intro hk
      have hc : ¬ ¬ (if 0 ≤ k.toInt ∧ k.toInt < 4 then (1 : Int32) else 0).toInt = 0 := hc
      rw [if_pos hk] at hc
      exact hc (by decide)
    show Q11_sheet d k lane n h0 _ h1
    unfold Q11_sheet
    rw [if_neg hk]
    exact ⟨rfl, e1⟩
  have hk : 0 ≤ k.toInt ∧ k.toInt < 4 := by
    by_cases hk : 0 ≤ k.toInt ∧ k.toInt < 4
    · exact hk
    · have hc : ¬ (if 0 ≤ k.toInt ∧ k.toInt < 4 then (1 : Int32) else 0).toInt = 0 := hc
      rw [if_neg hk] at hc
      exact absurd rfl hc
  intro rv h2 hc
  obtain ⟨e2, rfl⟩ := hc lane rfl trivial
  have e2 : h2 = h1 := e2
  subst e2
  have out : ¬ ((0 ≤ lane.toInt ∧ lane.toInt < 3) ∧ n.toInt ≤ 60) → Q11_sheet d k lane n h0 (some (.int (-2))) h2 := by
    intro ho
    unfold Q11_sheet
    rw [if_pos hk, if_neg ho]
    exact ⟨rfl, e1⟩
  refine ⟨fun hc => ?_, fun hc => ?_⟩
  · have hl : ¬ (0 ≤ lane.toInt ∧ lane.toInt < 3) := by
      intro hl
      have hc : (if 0 ≤ lane.toInt ∧ lane.toInt < 3 then (1 : Int32) else 0).toInt = 0 := hc
      rw [if_pos hl] at hc
      exact absurd hc (by decide)
    exact out (fun z => hl z.1)
  have hla : 0 ≤ lane.toInt ∧ lane.toInt < 3 := by
    by_cases hl : 0 ≤ lane.toInt ∧ lane.toInt < 3
    · exact hl
    · have hc : ¬ (if 0 ≤ lane.toInt ∧ lane.toInt < 3 then (1 : Int32) else 0).toInt = 0 := hc
      rw [if_neg hl] at hc
      exact absurd rfl hc
  refine ⟨fun hn => ?_, fun hn => ?_⟩
  rotate_left
  · have hn : ¬ n.toInt ≤ (60 : Int32).toInt := hn
    have e6 : (60 : Int32).toInt = 60 := by decide
    exact out (fun z => by omega)
  have hn : n.toInt ≤ (60 : Int32).toInt := hn
  have e6 : (60 : Int32).toInt = 60 := by decide
  have hn : n.toInt ≤ 60 := by omega
  refine ⟨fun hm => ?_, fun hm => ?_⟩
  rotate_left
  · have hm : ¬ 0 ≤ n.toInt := hm
    intro rv h3 hc
    obtain ⟨e3, rfl⟩ := hc (d.p, 4, d.fs.set 14 (.int 0)) rfl w1
    have e3 : h3 = hset h2 d.p (.inr (11, (d.fs.set 14 (.int 0)).set 14 (.int 4))) := e3
    show Q11_sheet d k lane n h0 _ h3
    unfold Q11_sheet
    rw [if_pos hk, if_pos ⟨hla, hn⟩, if_neg hm]
    refine ⟨f10_4, ?_⟩
    rw [e3, e1, hset_hset, List.set_set]
    rfl
  have hm : 0 ≤ n.toInt := hm
  have key : ∀ (W1 W2 : fH), W1 = hset h2 (rv_ (eG fl_X11 77 (h2 d.p))) (sI k.toNatClampNeg lane (h2 (rv_ (eG fl_X11 77 (h2 d.p))))) → W2 = hset W1 (rv_ (eG fl_X11 87 (W1 d.p))) (sI k.toNatClampNeg n (W1 (rv_ (eG fl_X11 87 (W1 d.p))))) →
      ∀ (rv : Option Value) (h3 : fH), (∀ a : Nat × Int32 × ClassId × Nat × (Nat → Int32), [eR (W2 (rv_ (eG fl_X11 74 (W2 d.p)))) k.toNatClampNeg, Value.int 0] = [.ref a.1, .int a.2.1] → W2 a.1 = some (.inl (a.2.2.1, a.2.2.2.1, .inl a.2.2.2.2)) ∧ a.2.2.2.1 < 100000 → rv = none ∧ ∃ f : Nat → Int32, h3 = hset W2 a.1 (.inl (a.2.2.1, a.2.2.2.1, .inl f)) ∧ ∀ j, j < a.2.2.2.1 → f j = a.2.1) → rv = none ∧ Q11_sheet d k lane n h0 (some (.int 1)) h3 := by
    intro W1 W2 E1 E2 rv h3 hc
    have g1 : eG fl_X11 77 (h2 d.p) = .ref d.aL := by
      rw [w1, ← hL]
      exact getD_set_ne (by decide)
    have E1 : W1 = hset h2 d.aL (.inl (d.cL, 4, .inl (upd d.l k.toInt.toNat lane))) := by
      rw [E1, g1]
      show hset h2 d.aL (sI k.toNatClampNeg lane (h2 d.aL)) = _
      rw [w2]
      rfl
    have x1 : W1 d.p = some (dk_f d 0) := by rw [E1, hset_ne (Ne.symm pL), w1]
    have x3 : W1 d.aS = some (.inl (d.cS, 4, .inl d.z)) := by rw [E1, hset_ne (Ne.symm nLS), w3]
    have x4 : W1 d.aC = some (.inl (d.cC, 4, .inr (.inr (.inr (.inr d.g))))) := by rw [E1, hset_ne cL, w4]
    have g2 : eG fl_X11 87 (W1 d.p) = .ref d.aS := by
      rw [x1, ← hS]
      exact getD_set_ne (by decide)
    have E2 : W2 = hset W1 d.aS (.inl (d.cS, 4, .inl (upd d.z k.toInt.toNat n))) := by
      rw [E2, g2]
      show hset W1 d.aS (sI k.toNatClampNeg n (W1 d.aS)) = _
      rw [x3]
      rfl
    have y1 : W2 d.p = some (dk_f d 0) := by rw [E2, hset_ne (Ne.symm pS), x1]
    have y4 : W2 d.aC = some (.inl (d.cC, 4, .inr (.inr (.inr (.inr d.g))))) := by rw [E2, hset_ne cS, x4]
    have g3 : eG fl_X11 74 (W2 d.p) = .ref d.aC := by
      rw [y1, ← hC]
      exact getD_set_ne (by decide)
    obtain ⟨r1, r2, r3, r4⟩ := hR k.toInt.toNat (by omega)
    have rp := ne_of_h hp r2
    have y5 : W2 (d.R k.toInt.toNat).1 = some (.inl ((d.R k.toInt.toNat).2.1, 60, .inl (d.R k.toInt.toNat).2.2)) := by
      rw [E2, hset_ne r4, E1, hset_ne r3, e1, hset_ne rp, r2]
    have g4 : eR (W2 (rv_ (eG fl_X11 74 (W2 d.p)))) k.toNatClampNeg = .ref (d.R k.toInt.toNat).1 := by
      rw [g3]
      show eR (W2 d.aC) k.toInt.toNat = _
      rw [y4]
      show va_rf (d.g k.toInt.toNat) = _
      rw [r1]
      rfl
    obtain ⟨q1, f, q2, q3⟩ := hc ((d.R k.toInt.toNat).1, 0, (d.R k.toInt.toNat).2.1, 60, (d.R k.toInt.toNat).2.2) (by rw [g4]) ⟨y5, (show 60 < 100000 by decide)⟩
    refine ⟨q1, ?_⟩
    unfold Q11_sheet
    rw [if_pos hk, if_pos ⟨hla, hn⟩, if_pos hm]
    refine ⟨rfl, f, q3, ?_⟩
    rw [q2, E2, E1, e1]
  intro rv h3 hc
  obtain ⟨rfl, hq⟩ := key _ _ rfl rfl rv h3 hc
  exact hq
