/-! the reference's sheets: cell -/
theorem s_X12_lost : f_do r_X12_lost (fun As h rv h' => ∀ _ : Unit, As = [] → True → h' = h ∧ rv = some (.long lostL)) := by
  refine do_ofP (fun _ : Unit => []) (fun _ _ => True) (fun _ h rv h' => h' = h ∧ rv = some (.long lostL)) [] (fun _ _ => []) 40 fo_X12 no_sp k_X12_lost (fun _ _ _ => no_hd) (fun _ h0 _ => ?_)
  exact ⟨rfl, rfl⟩
theorem s_X12_failedLong : f_do r_X12_failedLong (fun As h rv h' => ∀ a : Nat × Int32 × List Value, As = [.ref a.1, .int a.2.1] → h a.1 = some (.inr (12, a.2.2)) → h' = hset h a.1 (.inr (12, a.2.2.set 0 (.int a.2.1))) ∧ rv = some (.long lostL)) := by
  refine do_ofP (fun a : Nat × Int32 × List Value => [.ref a.1, .int a.2.1]) (fun a h => h a.1 = some (.inr (12, a.2.2))) (fun a h rv h' => h' = hset h a.1 (.inr (12, a.2.2.set 0 (.int a.2.1))) ∧ rv = some (.long lostL)) [(436, 0, _)] (fun _ _ => []) 40 fo_X12 (List.forall_mem_cons.mpr ⟨sp_one rfl s_X12_lost, no_sp⟩) k_X12_failedLong (fun _ _ _ => no_hd) (fun a h0 hp => ?_)
  obtain ⟨p, k, fs⟩ := a
  have hp : h0 p = some (.inr (12, fs)) := hp
  intro rv h1 hc
  obtain ⟨e1, rfl⟩ := hc () rfl trivial
  have e1 : h1 = hset h0 p (sG pl_X12 142 (.int k) (h0 p)) := e1
  refine ⟨?_, rfl⟩
  rw [e1, hp]
  rfl
def Q12_cell (d : md_) (k i lane : Int32) (h : fH) (rv : Option Value) (h' : fH) : Prop :=
  if (0 ≤ k.toInt ∧ k.toInt < 4) ∧ (0 ≤ lane.toInt ∧ lane.toInt < 3) then
    if 0 ≤ (d.z k.toInt.toNat).toInt ∧ ¬ (d.l k.toInt.toNat).toInt = lane.toInt then rv = some (.long lostL) ∧ h' = hset h d.p (md_f d 2)
    else if 0 < (ncell (d.z k.toInt.toNat) i).toInt then rv = some (.long lostL) ∧ h' = hset h d.p (md_f d (ncell (d.z k.toInt.toNat) i))
    else rv = some (.long (d.f (60 * k + i).toInt.toNat).toInt64) ∧ h' = hset h d.p (md_f d 0)
  else rv = some (.long lostL) ∧ h' = hset h d.p (md_f d 0)
/-- the same with the fault set -/
def md_0 (d : md_) : md_ := (d.1, d.2.1.set 0 (.int 0), d.2.2)
theorem md_0at {d : md_} {h : fH} (hd : md_at d h) : md_at (md_0 d) (hset h d.p (md_f d 0)) := by
  obtain ⟨hp, ⟨hZ, hz⟩, ⟨hL, hl⟩, ⟨hC, hf⟩, n⟩ := hd
  exact ⟨hset_at, ⟨(getD_set_ne (by decide)).trans hZ, (hset_ne (ne_of_h hp hz)).trans hz⟩, ⟨(getD_set_ne (by decide)).trans hL, (hset_ne (ne_of_h hp hl)).trans hl⟩, ⟨(getD_set_ne (by decide)).trans hC, (hset_ne (ne_of_h hp hf)).trans hf⟩, n⟩
set_option maxHeartbeats 4000000 in
theorem s_X12_cell : f_do r_X12_cell (fun As h rv h' => ∀ a : md_ × Int32 × Int32 × Int32, As = [.ref a.1.p, .int a.2.1, .int a.2.2.1, .int a.2.2.2] → md_at a.1 h → Q12_cell a.1 a.2.1 a.2.2.1 a.2.2.2 h rv h') := by
  refine do_ofP (fun a : md_ × Int32 × Int32 × Int32 => [.ref a.1.p, .int a.2.1, .int a.2.2.1, .int a.2.2.2]) (fun a h => md_at a.1 h) (fun a h rv h' => Q12_cell a.1 a.2.1 a.2.2.1 a.2.2.2 h rv h')
    [(436, 0, _), (457, 3, _), (604, 1, _), (1449, 3, _), (1458, 2, _)] (fun _ _ => []) 80 fo_X12 (List.forall_mem_cons.mpr ⟨sp_one rfl s_X12_lost, List.forall_mem_cons.mpr ⟨sp_one rfl s_X12_in, List.forall_mem_cons.mpr ⟨sp_one rfl s_X12_noSheet, List.forall_mem_cons.mpr ⟨sp_one rfl s_X12_noCell, List.forall_mem_cons.mpr ⟨sp_one rfl s_X12_failedLong, no_sp⟩⟩⟩⟩⟩) k_X12_cell (fun _ _ _ => no_hd) (fun a h0 hp => ?_)
  obtain ⟨d, k, i, lane⟩ := a
  have hmd := md_0at (show md_at d h0 from hp)
  have hp0 : h0 d.p = some (.inr (12, d.fs)) := (show md_at d h0 from hp).1
  intro rv h1 hc
  obtain ⟨e1, rfl⟩ := hc k rfl trivial
  have e1 : h1 = hset h0 d.p (sG pl_X12 142 (.int 0) (h0 d.p)) := e1
  have e1 : h1 = hset h0 d.p (md_f d 0) := by
    rw [e1, hp0]
    rfl
  rw [← e1] at hmd
  obtain ⟨w1, ⟨hZ, hz⟩, ⟨hL, hl⟩, ⟨hC, hf⟩, -⟩ := id hmd
  have w1 : h1 d.p = some (.inr (12, d.fs.set 0 (.int 0))) := w1
  have hZ : (d.fs.set 0 (.int 0)).getD 64 .null = .ref d.aZ := hZ
  have hz : h1 d.aZ = some (.inl (d.cZ, 4, .inl d.z)) := hz
  have hL : (d.fs.set 0 (.int 0)).getD 65 .null = .ref d.aL := hL
  have hl : h1 d.aL = some (.inl (d.cL, 4, .inl d.l)) := hl
  have hC : (d.fs.set 0 (.int 0)).getD 66 .null = .ref d.aC := hC
  have hf : h1 d.aC = some (.inl (d.cC, 240, .inl d.f)) := hf
  have g1 : eG fl_X12 124 (h1 d.p) = .ref d.aZ := by
    rw [w1, ← hZ]
    rfl
  have g2 : eG fl_X12 127 (h1 d.p) = .ref d.aL := by
    rw [w1, ← hL]
    rfl
  have g3 : eG fl_X12 130 (h1 d.p) = .ref d.aC := by
    rw [w1, ← hC]
    rfl
  have iZ : eI (h1 (rv_ (eG fl_X12 124 (h1 d.p)))) k.toNatClampNeg = d.z k.toInt.toNat := by
    rw [g1]
    show eI (h1 d.aZ) _ = _
    rw [hz]
    rfl
  have iL : eI (h1 (rv_ (eG fl_X12 127 (h1 d.p)))) k.toNatClampNeg = d.l k.toInt.toNat := by
    rw [g2]
    show eI (h1 d.aL) _ = _
    rw [hl]
    rfl
  have bad : ¬ ((0 ≤ k.toInt ∧ k.toInt < 4) ∧ (0 ≤ lane.toInt ∧ lane.toInt < 3)) → Q12_cell d k i lane h0 (some (.long lostL)) h1 := by
    intro hb
    unfold Q12_cell
    rw [if_neg hb]
    exact ⟨rfl, e1⟩
  have flt : ∀ x : Int32, hset h1 d.p (.inr (12, (d.fs.set 0 (.int 0)).set 0 (.int x))) = hset h0 d.p (md_f d x) := by
    intro x
    rw [e1, hset_hset, List.set_set]
    rfl
  refine ⟨fun hc => ?_, fun hc => ?_⟩
  · have hk : ¬ (0 ≤ k.toInt ∧ k.toInt < 4) := by
      intro hk
      have hc : ¬ (if 0 ≤ k.toInt ∧ k.toInt < 4 then (0 : Int32) else 1).toInt = 0 := hc
      rw [if_pos hk] at hc
      exact hc (by decide)
    intro rv h2 hc2
    obtain ⟨e2, rfl⟩ := hc2 () rfl trivial
    have e2 : h2 = h1 := e2
    rw [e2]
    exact bad (fun z => hk z.1)
  have hk : 0 ≤ k.toInt ∧ k.toInt < 4 := by
    by_cases hk : 0 ≤ k.toInt ∧ k.toInt < 4
    · exact hk
    · have hc : ¬ ¬ (if 0 ≤ k.toInt ∧ k.toInt < 4 then (0 : Int32) else 1).toInt = 0 := hc
      rw [if_neg hk] at hc
      exact absurd (by decide) hc
  intro rv h2 hc
  obtain ⟨e2, rfl⟩ := hc (lane.toInt64, 0, 2) rfl trivial
  have e2 : h2 = h1 := e2
  subst h2
  have t1 : lane.toInt64.toInt = lane.toInt := Int32.toInt_toInt64 lane
  have tz : (0 : Int64).toInt = 0 := by decide
  have t2 : (2 : Int64).toInt = 2 := by decide
  refine ⟨fun hc => ?_, fun hc => ?_⟩
  rotate_left
  · have hl : ¬ (0 ≤ lane.toInt ∧ lane.toInt < 3) := by
      intro hl
      have hc : ¬ ¬ (if (0 : Int64).toInt ≤ lane.toInt64.toInt ∧ lane.toInt64.toInt ≤ (2 : Int64).toInt then (1 : Int32) else 0).toInt = 0 := hc
      rw [t1, tz, t2, if_pos (by omega)] at hc
      exact hc (by decide)
    intro rv h2 hc2
    obtain ⟨e2, rfl⟩ := hc2 () rfl trivial
    have e2 : h2 = h1 := e2
    rw [e2]
    exact bad (fun z => hl z.2)
  have hla : 0 ≤ lane.toInt ∧ lane.toInt < 3 := by
    by_cases hl : 0 ≤ lane.toInt ∧ lane.toInt < 3
    · exact hl
    · have hc : ¬ (if (0 : Int64).toInt ≤ lane.toInt64.toInt ∧ lane.toInt64.toInt ≤ (2 : Int64).toInt then (1 : Int32) else 0).toInt = 0 := hc
      rw [t1, tz, t2, if_neg (by omega)] at hc
      exact absurd rfl hc
  have rest : ¬ (0 ≤ (d.z k.toInt.toNat).toInt ∧ ¬ (d.l k.toInt.toNat).toInt = lane.toInt) → Q12_cell d k i lane h0 (some (.long (d.f (60 * k + i).toInt.toNat).toInt64)) h1 ∨ 0 < (ncell (d.z k.toInt.toNat) i).toInt := by
    intro hr
    by_cases hn : 0 < (ncell (d.z k.toInt.toNat) i).toInt
    · exact Or.inr hn
    · refine Or.inl ?_
      unfold Q12_cell
      rw [if_pos ⟨hk, hla⟩, if_neg hr, if_neg hn]
      exact ⟨rfl, e1⟩
  have fail : ¬ (0 ≤ (d.z k.toInt.toNat).toInt ∧ ¬ (d.l k.toInt.toNat).toInt = lane.toInt) → 0 < (ncell (d.z k.toInt.toNat) i).toInt → Q12_cell d k i lane h0 (some (.long lostL)) (hset h1 d.p (.inr (12, (d.fs.set 0 (.int 0)).set 0 (.int (ncell (d.z k.toInt.toNat) i))))) := by
    intro hr hn
    unfold Q12_cell
    rw [if_pos ⟨hk, hla⟩, if_neg hr, if_pos hn]
    exact ⟨rfl, flt _⟩
  have iC : eI (h1 (rv_ (eG fl_X12 130 (h1 d.p)))) (60 * k + i).toNatClampNeg = d.f (60 * k + i).toInt.toNat := by
    rw [g3]
    show eI (h1 d.aC) _ = _
    rw [hf]
    rfl
  refine ⟨fun ha => ?_, fun ha => ⟨fun hb => ?_, fun hb => ?_⟩⟩
  · have ha : (eI (h1 (rv_ (eG fl_X12 124 (h1 d.p)))) k.toNatClampNeg).toInt < 0 := ha
    rw [iZ] at ha
    have hr : ¬ (0 ≤ (d.z k.toInt.toNat).toInt ∧ ¬ (d.l k.toInt.toNat).toInt = lane.toInt) := fun z => by omega
    intro rv h2 hc2
    obtain ⟨e2, rfl⟩ := hc2 (md_0 d, k, i) rfl hmd
    have e2 : h2 = h1 := e2
    subst h2
    refine ⟨fun hn => ?_, fun hn => ?_⟩
    · have hn : (ncell (d.z k.toInt.toNat) i).toInt ≤ 0 := hn
      show Q12_cell d k i lane h0 (some (.long (eI (h1 (rv_ (eG fl_X12 130 (h1 d.p)))) (60 * k + i).toNatClampNeg).toInt64)) h1
      rw [iC]
      exact (rest hr).resolve_right (by omega)
    · have hn : ¬ (ncell (d.z k.toInt.toNat) i).toInt ≤ 0 := hn
      intro rv h2 hc2
      obtain ⟨e2, rfl⟩ := hc2 (md_0 d, k, i) rfl hmd
      have e2 : h2 = h1 := e2
      subst h2
      intro rv h3 hc3
      obtain ⟨e3, rfl⟩ := hc3 (d.p, ncell (d.z k.toInt.toNat) i, d.fs.set 0 (.int 0)) rfl w1
      rw [e3]
      exact fail hr (by omega)
  · have ha : ¬ (eI (h1 (rv_ (eG fl_X12 124 (h1 d.p)))) k.toNatClampNeg).toInt < 0 := ha
    rw [iZ] at ha
    have hb : (eI (h1 (rv_ (eG fl_X12 127 (h1 d.p)))) k.toNatClampNeg).toInt = lane.toInt := hb
    rw [iL] at hb
    have hr : ¬ (0 ≤ (d.z k.toInt.toNat).toInt ∧ ¬ (d.l k.toInt.toNat).toInt = lane.toInt) := fun z => z.2 hb
    intro rv h2 hc2
    obtain ⟨e2, rfl⟩ := hc2 (md_0 d, k, i) rfl hmd
    have e2 : h2 = h1 := e2
    subst h2
    refine ⟨fun hn => ?_, fun hn => ?_⟩
    · have hn : (ncell (d.z k.toInt.toNat) i).toInt ≤ 0 := hn
      show Q12_cell d k i lane h0 (some (.long (eI (h1 (rv_ (eG fl_X12 130 (h1 d.p)))) (60 * k + i).toNatClampNeg).toInt64)) h1
      rw [iC]
      exact (rest hr).resolve_right (by omega)
    · have hn : ¬ (ncell (d.z k.toInt.toNat) i).toInt ≤ 0 := hn
      intro rv h2 hc2
      obtain ⟨e2, rfl⟩ := hc2 (md_0 d, k, i) rfl hmd
      have e2 : h2 = h1 := e2
      subst h2
      intro rv h3 hc3
      obtain ⟨e3, rfl⟩ := hc3 (d.p, ncell (d.z k.toInt.toNat) i, d.fs.set 0 (.int 0)) rfl w1
      rw [e3]
      exact fail hr (by omega)
  · have ha : ¬ (eI (h1 (rv_ (eG fl_X12 124 (h1 d.p)))) k.toNatClampNeg).toInt < 0 := ha
    rw [iZ] at ha
    have hb : ¬ (eI (h1 (rv_ (eG fl_X12 127 (h1 d.p)))) k.toNatClampNeg).toInt = lane.toInt := hb
    rw [iL] at hb
    intro rv h3 hc3
    obtain ⟨e3, rfl⟩ := hc3 (d.p, 2, d.fs.set 0 (.int 0)) rfl w1
    rw [e3]
    show Q12_cell d k i lane h0 (some (.long lostL)) (hset h1 d.p (.inr (12, (d.fs.set 0 (.int 0)).set 0 (.int 2))))
    unfold Q12_cell
    rw [if_pos ⟨hk, hla⟩, if_pos ⟨by omega, hb⟩]
    exact ⟨rfl, flt 2⟩
