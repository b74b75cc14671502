/-! the class's sheets: cell -/
def lostL : Int64 := Int64.ofInt (-9223372036854775808)
def Q11_cell (d : dk_) (k i lane : Int32) (h : fH) (rv : Option Value) (h' : fH) : Prop :=
  if (0 ≤ k.toInt ∧ k.toInt < 4) ∧ (0 ≤ lane.toInt ∧ lane.toInt < 3) then
    if (d.l k.toInt.toNat).toInt = -1 then rv = some (.long lostL) ∧ h' = hset h d.p (dk_f d 1)
    else if (d.l k.toInt.toNat).toInt = lane.toInt then
      if 0 ≤ i.toInt ∧ i.toInt < (d.z k.toInt.toNat).toInt then rv = some (.long ((d.R k.toInt.toNat).2.2 i.toInt.toNat).toInt64) ∧ h' = hset h d.p (dk_f d 0)
      else rv = some (.long lostL) ∧ h' = hset h d.p (dk_f d 3)
    else rv = some (.long lostL) ∧ h' = hset h d.p (dk_f d 2)
  else rv = some (.long lostL) ∧ h' = hset h d.p (dk_f d 0)
set_option maxHeartbeats 4000000 in
theorem s_X11_cell : f_do r_X11_cell (fun As h rv h' => ∀ a : dk_ × Int32 × Int32 × Int32, As = [.ref a.1.p, .int a.2.1, .int a.2.2.1, .int a.2.2.2] → dk_at a.1 h → Q11_cell a.1 a.2.1 a.2.2.1 a.2.2.2 h rv h') := by
  refine do_ofP (fun a : dk_ × Int32 × Int32 × Int32 => [.ref a.1.p, .int a.2.1, .int a.2.2.1, .int a.2.2.2]) (fun a h => dk_at a.1 h) (fun a h rv h' => Q11_cell a.1 a.2.1 a.2.2.1 a.2.2.2 h rv h')
    [(292, 1, _), (304, 1, _)] (fun _ _ => []) 80 fo_X11 (List.forall_mem_cons.mpr ⟨sp_one rfl s_X11_isSheet, List.forall_mem_cons.mpr ⟨sp_one rfl s_X11_isLane, no_sp⟩⟩) k_X11_cell (fun _ _ _ => no_hd) (fun a h0 hp => ?_)
  obtain ⟨d, k, i, lane⟩ := a
  obtain ⟨hp, ⟨hL, hl⟩, ⟨hS, hz⟩, ⟨hC, hg⟩, nLS, hR⟩ := (show dk_at d h0 from hp)
  have pL := ne_of_h hp hl
  have pS := ne_of_h hp hz
  have pC := ne_of_h hp hg
  intro rv h1 hc
  obtain ⟨e1, rfl⟩ := hc k rfl trivial
  have e1 : h1 = hset h0 d.p (sG pl_X11 93 (.int 0) (h0 d.p)) := e1
  have e1 : h1 = hset h0 d.p (dk_f d 0) := by
    rw [e1, hp]
    rfl
  have w1 : h1 d.p = some (dk_f d 0) := by rw [e1, hset_at]
  have w2 : h1 d.aL = some (.inl (d.cL, 4, .inl d.l)) := by rw [e1, hset_ne pL, hl]
  have w3 : h1 d.aS = some (.inl (d.cS, 4, .inl d.z)) := by rw [e1, hset_ne pS, hz]
  have w4 : h1 d.aC = some (.inl (d.cC, 4, .inr (.inr (.inr (.inr d.g))))) := by rw [e1, hset_ne pC, hg]
  have g1 : eG fl_X11 77 (h1 d.p) = .ref d.aL := by
    rw [w1, ← hL]
    exact getD_set_ne (by decide)
  have g2 : eG fl_X11 87 (h1 d.p) = .ref d.aS := by
    rw [w1, ← hS]
    exact getD_set_ne (by decide)
  have g3 : eG fl_X11 74 (h1 d.p) = .ref d.aC := by
    rw [w1, ← hC]
    exact getD_set_ne (by decide)
  have iL : eI (h1 (rv_ (eG fl_X11 77 (h1 d.p)))) k.toNatClampNeg = d.l k.toInt.toNat := by
    rw [g1]
    show eI (h1 d.aL) _ = _
    rw [w2]
    rfl
  have iS : eI (h1 (rv_ (eG fl_X11 87 (h1 d.p)))) k.toNatClampNeg = d.z k.toInt.toNat := by
    rw [g2]
    show eI (h1 d.aS) _ = _
    rw [w3]
    rfl
  have flt : ∀ x : Int32, hset h1 d.p (sG pl_X11 93 (.int x) (h1 d.p)) = hset h0 d.p (dk_f d x) := by
    intro x
    rw [w1, e1, hset_hset]
    show hset h0 d.p (.inr (11, (d.fs.set 14 (.int 0)).set 14 (.int x))) = _
    rw [List.set_set]
    rfl
  have bad : ¬ ((0 ≤ k.toInt ∧ k.toInt < 4) ∧ (0 ≤ lane.toInt ∧ lane.toInt < 3)) → Q11_cell d k i lane h0 (some (.long lostL)) h1 := by
    intro hb
    unfold Q11_cell
    rw [if_neg hb]
    exact ⟨rfl, e1⟩
  refine ⟨fun hc => ?_, fun hc => ?_⟩
  · have hk : ¬ (0 ≤ k.toInt ∧ k.toInt < 4) := by
      intro hk
      have hc : (if 0 ≤ k.toInt ∧ k.toInt < 4 then (1 : Int32) else 0).toInt = 0 := hc
      rw [if_pos hk] at hc
      exact absurd hc (by decide)
    exact bad (fun z => hk z.1)
  have hk : 0 ≤ k.toInt ∧ k.toInt < 4 := by
    by_cases hk : 0 ≤ k.toInt ∧ k.toInt < 4
    · exact hk
    · have hc : ¬ (if 0 ≤ k.toInt ∧ k.toInt < 4 then (1 : Int32) else 0).toInt = 0 := hc
      rw [if_neg hk] at hc
      exact absurd rfl hc
  intro rv h2 hc
  obtain ⟨e2, rfl⟩ := hc lane rfl trivial
  have e2 : h2 = h1 := e2
  subst h2
  refine ⟨fun hc => ?_, fun hc => ?_⟩
  rotate_left
  · have hl : ¬ (0 ≤ lane.toInt ∧ lane.toInt < 3) := by
      intro hl
      have hc : ¬ ¬ (if 0 ≤ lane.toInt ∧ lane.toInt < 3 then (1 : Int32) else 0).toInt = 0 := hc
      rw [if_pos hl] at hc
      exact hc (by decide)
    exact bad (fun z => hl z.2)
  have hla : 0 ≤ lane.toInt ∧ lane.toInt < 3 := by
    by_cases hl : 0 ≤ lane.toInt ∧ lane.toInt < 3
    · exact hl
    · have hc : ¬ (if 0 ≤ lane.toInt ∧ lane.toInt < 3 then (1 : Int32) else 0).toInt = 0 := hc
      rw [if_neg hl] at hc
      exact absurd rfl hc
  refine ⟨fun hn => ?_, fun hn => ?_⟩
  rotate_left
  · have hn : ¬ ¬ (eI (h1 (rv_ (eG fl_X11 77 (h1 d.p)))) k.toNatClampNeg).toInt = (Int32.ofInt (-1)).toInt := hn
    rw [iL] at hn
    have hn : (d.l k.toInt.toNat).toInt = -1 := Classical.not_not.mp hn
    show Q11_cell d k i lane h0 (some (.long lostL)) (hset h1 d.p (sG pl_X11 93 (.int 1) (h1 d.p)))
    unfold Q11_cell
    rw [if_pos ⟨hk, hla⟩, if_pos hn]
    exact ⟨rfl, flt 1⟩
  have hn : ¬ (eI (h1 (rv_ (eG fl_X11 77 (h1 d.p)))) k.toNatClampNeg).toInt = (Int32.ofInt (-1)).toInt := hn
  rw [iL] at hn
  have hn : ¬ (d.l k.toInt.toNat).toInt = -1 := hn
  refine ⟨fun hm => ?_, fun hm => ?_⟩
  rotate_left
  · have hm : ¬ (eI (h1 (rv_ (eG fl_X11 77 (h1 d.p)))) k.toNatClampNeg).toInt = lane.toInt := hm
    rw [iL] at hm
    show Q11_cell d k i lane h0 (some (.long lostL)) (hset h1 d.p (sG pl_X11 93 (.int 2) (h1 d.p)))
    unfold Q11_cell
    rw [if_pos ⟨hk, hla⟩, if_neg hn, if_neg hm]
    exact ⟨rfl, flt 2⟩
  have hm : (eI (h1 (rv_ (eG fl_X11 77 (h1 d.p)))) k.toNatClampNeg).toInt = lane.toInt := hm
  rw [iL] at hm
  have out : ¬ (0 ≤ i.toInt ∧ i.toInt < (d.z k.toInt.toNat).toInt) → Q11_cell d k i lane h0 (some (.long lostL)) (hset h1 d.p (sG pl_X11 93 (.int 3) (h1 d.p))) := by
    intro ho
    unfold Q11_cell
    rw [if_pos ⟨hk, hla⟩, if_neg hn, if_pos hm, if_neg ho]
    exact ⟨rfl, flt 3⟩
  refine ⟨fun hi => ?_, fun hi => ?_⟩
  · have hi : i.toInt < 0 := hi
    exact out (by omega)
  have hi : ¬ i.toInt < 0 := hi
  refine ⟨fun hq => ?_, fun hq => ?_⟩
  rotate_left
  · have hq : ¬ i.toInt < (eI (h1 (rv_ (eG fl_X11 87 (h1 d.p)))) k.toNatClampNeg).toInt := hq
    rw [iS] at hq
    exact out (by omega)
  have hq : i.toInt < (eI (h1 (rv_ (eG fl_X11 87 (h1 d.p)))) k.toNatClampNeg).toInt := hq
  rw [iS] at hq
  obtain ⟨r1, r2, r3, r4⟩ := hR k.toInt.toNat (by omega)
  have rp := ne_of_h hp r2
  have y5 : h1 (d.R k.toInt.toNat).1 = some (.inl ((d.R k.toInt.toNat).2.1, 60, .inl (d.R k.toInt.toNat).2.2)) := by rw [e1, hset_ne rp, r2]
  have g4 : eR (h1 (rv_ (eG fl_X11 74 (h1 d.p)))) k.toNatClampNeg = .ref (d.R k.toInt.toNat).1 := by
    rw [g3]
    show eR (h1 d.aC) k.toInt.toNat = _
    rw [w4]
    show va_rf (d.g k.toInt.toNat) = _
    rw [r1]
    rfl
  show Q11_cell d k i lane h0 (some (.long (eI (h1 (rv_ (eR (h1 (rv_ (eG fl_X11 74 (h1 d.p)))) k.toNatClampNeg))) i.toNatClampNeg).toInt64)) h1
  rw [g4]
  show Q11_cell d k i lane h0 (some (.long (eI (h1 (d.R k.toInt.toNat).1) i.toNatClampNeg).toInt64)) h1
  rw [y5]
  unfold Q11_cell
  rw [if_pos ⟨hk, hla⟩, if_neg hn, if_pos hm, if_pos ⟨by omega, hq⟩]
  exact ⟨rfl, e1⟩
