/-! the reference's sheets: put -/
def ncell (z i : Int32) : Int32 := if z.toInt < 0 then 1 else if 0 ≤ i.toInt ∧ i.toInt < z.toInt then 0 else 3
theorem l_sub1 {z : Int32} (h : 0 ≤ z.toInt) : (z.toInt64 - 1).toInt = z.toInt - 1 := by
  have e1 : (1 : Int64).toInt = 1 := by decide
  have h2 := Int32.toInt_lt z
  rw [Int64.toInt_sub, Int32.toInt_toInt64, e1]
  exact Int.bmod_eq_of_le (by omega) (by omega)
theorem s_X12_noCell : f_do r_X12_noCell (fun As h rv h' => ∀ a : md_ × Int32 × Int32, As = [.ref a.1.p, .int a.2.1, .int a.2.2] → md_at a.1 h → h' = h ∧ rv = some (.int (ncell (a.1.z a.2.1.toInt.toNat) a.2.2))) := by
  refine do_ofP (fun a : md_ × Int32 × Int32 => [.ref a.1.p, .int a.2.1, .int a.2.2]) (fun a h => md_at a.1 h) (fun a h rv h' => h' = h ∧ rv = some (.int (ncell (a.1.z a.2.1.toInt.toNat) a.2.2))) [(457, 3, _)] (fun _ _ => []) 60 fo_X12 (List.forall_mem_cons.mpr ⟨sp_one rfl s_X12_in, no_sp⟩) k_X12_noCell (fun _ _ _ => no_hd) (fun a h0 hp => ?_)
  obtain ⟨d, k, i⟩ := a
  obtain ⟨hp, ⟨hZ, hz⟩, ⟨hL, hl⟩, ⟨hC, hf⟩, nZL, nZC, nLC⟩ := (show md_at d h0 from hp)
  have g1 : eG fl_X12 124 (h0 d.p) = .ref d.aZ := by
    rw [hp, ← hZ]
    rfl
  have iZ : eI (h0 (rv_ (eG fl_X12 124 (h0 d.p)))) k.toNatClampNeg = d.z k.toInt.toNat := by
    rw [g1]
    show eI (h0 d.aZ) _ = _
    rw [hz]
    rfl
  refine ⟨fun hc => ?_, fun hc => ?_⟩
  · have hc : 0 ≤ (eI (h0 (rv_ (eG fl_X12 124 (h0 d.p)))) k.toNatClampNeg).toInt := hc
    rw [iZ] at hc
    have hcc : 0 ≤ (d.z k.toInt.toNat).toInt := hc
    intro rv h1 hc1
    obtain ⟨e1, rfl⟩ := hc1 (i.toInt64, 0, (eI (h0 (rv_ (eG fl_X12 124 (h0 d.p)))) k.toNatClampNeg).toInt64 - 1) rfl trivial
    have e1 : h1 = h0 := e1
    subst e1
    have t1 : i.toInt64.toInt = i.toInt := Int32.toInt_toInt64 i
    have tz : (0 : Int64).toInt = 0 := by decide
    have t2 : ((d.z k.toInt.toNat).toInt64 - 1).toInt = (d.z k.toInt.toNat).toInt - 1 := l_sub1 hcc
    refine ⟨fun hd => ?_, fun hd => ?_⟩
    · have hd : (if (0 : Int64).toInt ≤ i.toInt64.toInt ∧ i.toInt64.toInt ≤ ((eI (h1 (rv_ (eG fl_X12 124 (h1 d.p)))) k.toNatClampNeg).toInt64 - 1).toInt then (1 : Int32) else 0).toInt = 0 := hd
      rw [iZ, t1, tz, t2] at hd
      refine ⟨rfl, ?_⟩
      show some (Value.int 3) = some (.int (ncell (d.z k.toInt.toNat) i))
      unfold ncell
      by_cases hi : 0 ≤ i.toInt ∧ i.toInt ≤ (d.z k.toInt.toNat).toInt - 1
      · rw [if_pos hi] at hd
        exact absurd hd (by decide)
      · rw [if_neg (by omega), if_neg (by omega)]
    · have hd : ¬ (if (0 : Int64).toInt ≤ i.toInt64.toInt ∧ i.toInt64.toInt ≤ ((eI (h1 (rv_ (eG fl_X12 124 (h1 d.p)))) k.toNatClampNeg).toInt64 - 1).toInt then (1 : Int32) else 0).toInt = 0 := hd
      rw [iZ, t1, tz, t2] at hd
      refine ⟨rfl, ?_⟩
      show some (Value.int 0) = some (.int (ncell (d.z k.toInt.toNat) i))
      unfold ncell
      by_cases hi : 0 ≤ i.toInt ∧ i.toInt ≤ (d.z k.toInt.toNat).toInt - 1
      · rw [if_neg (by omega), if_pos (by omega)]
      · rw [if_neg hi] at hd
        exact absurd rfl hd
  · have hc : ¬ 0 ≤ (eI (h0 (rv_ (eG fl_X12 124 (h0 d.p)))) k.toNatClampNeg).toInt := hc
    rw [iZ] at hc
    refine ⟨rfl, ?_⟩
    show some (Value.int 1) = some (.int (ncell (d.z k.toInt.toNat) i))
    unfold ncell
    rw [if_pos (by omega)]
def Q12_put (d : md_) (k i v : Int32) (h : fH) (rv : Option Value) (h' : fH) : Prop :=
  if 0 ≤ k.toInt ∧ k.toInt < 4 then
    if 0 < (ncell (d.z k.toInt.toNat) i).toInt then rv = some (.int (Int32.ofInt (-10) - ncell (d.z k.toInt.toNat) i)) ∧ h' = hset h d.p (md_f d (ncell (d.z k.toInt.toNat) i))
    else rv = some (.int 1) ∧ h' = hset (hset h d.aC (.inl (d.cC, 240, .inl (upd d.f (60 * k + i).toInt.toNat (cutv v (d.l k.toInt.toNat)))))) d.p (md_f d 0)
  else rv = some (.int (-1)) ∧ h' = hset h d.p (md_f d 0)
set_option maxHeartbeats 4000000 in
theorem s_X12_put : f_do r_X12_put (fun As h rv h' => ∀ a : md_ × Int32 × Int32 × Int32, As = [.ref a.1.p, .int a.2.1, .int a.2.2.1, .int a.2.2.2] → md_at a.1 h → Q12_put a.1 a.2.1 a.2.2.1 a.2.2.2 h rv h') := by
  refine do_ofP (fun a : md_ × Int32 × Int32 × Int32 => [.ref a.1.p, .int a.2.1, .int a.2.2.1, .int a.2.2.2]) (fun a h => md_at a.1 h) (fun a h rv h' => Q12_put a.1 a.2.1 a.2.2.1 a.2.2.2 h rv h')
    [(604, 1, _), (615, 2, _), (630, 2, _), (1449, 3, _)] (fun _ _ => []) 80 fo_X12 (List.forall_mem_cons.mpr ⟨sp_one rfl s_X12_noSheet, List.forall_mem_cons.mpr ⟨sp_one rfl s_X12_refused, List.forall_mem_cons.mpr ⟨sp_one rfl s_X12_failed, List.forall_mem_cons.mpr ⟨sp_one rfl s_X12_noCell, no_sp⟩⟩⟩⟩) k_X12_put (fun _ _ _ => no_hd) (fun a h0 hp => ?_)
  obtain ⟨d, k, i, v⟩ := a
  have hmd : md_at d h0 := hp
  obtain ⟨hp, ⟨hZ, hz⟩, ⟨hL, hl⟩, ⟨hC, hf⟩, nZL, nZC, nLC⟩ := (show md_at d h0 from hp)
  have pC := ne_of_h hp hf
  intro rv h1 hc
  obtain ⟨e1, rfl⟩ := hc k rfl trivial
  have e1 : h1 = h0 := e1
  subst e1
  refine ⟨fun hc => ?_, fun hc => ?_⟩
  rotate_left
  · have hk : ¬ (0 ≤ k.toInt ∧ k.toInt < 4) := by
      intro hk
      have hc : ¬ (if 0 ≤ k.toInt ∧ k.toInt < 4 then (0 : Int32) else 1).toInt = 0 := hc
      rw [if_pos hk] at hc
      exact hc (by decide)
    intro rv h3 hc3
    obtain ⟨e3, rfl⟩ := hc3 (d.p, -1, d.fs) rfl hp
    show Q12_put d k i v _ _ h3
    unfold Q12_put
    rw [if_neg hk]
    exact ⟨rfl, e3⟩
  have hk : 0 ≤ k.toInt ∧ k.toInt < 4 := by
    by_cases hk : 0 ≤ k.toInt ∧ k.toInt < 4
    · exact hk
    · have hc : (if 0 ≤ k.toInt ∧ k.toInt < 4 then (0 : Int32) else 1).toInt = 0 := hc
      rw [if_neg hk] at hc
      exact absurd hc (by decide)
  intro rv h2 hc
  obtain ⟨e2, rfl⟩ := hc (d, k, i) rfl hmd
  have e2 : h2 = h1 := e2
  subst e2
  refine ⟨fun hn => ?_, fun hn => ?_⟩
  rotate_left
  · have hn : ¬ (ncell (d.z k.toInt.toNat) i).toInt ≤ 0 := hn
    intro rv h3 hc3
    obtain ⟨e3, rfl⟩ := hc3 (d, k, i) rfl hmd
    have e3 : h3 = h2 := e3
    subst e3
    intro rv h4 hc4
    obtain ⟨e4, rfl⟩ := hc4 (d.p, ncell (d.z k.toInt.toNat) i, d.fs) rfl hp
    show Q12_put d k i v _ _ h4
    unfold Q12_put
    rw [if_pos hk, if_pos (by omega)]
    exact ⟨rfl, e4⟩
  have hn : (ncell (d.z k.toInt.toNat) i).toInt ≤ 0 := hn
  have g1 : eG fl_X12 130 (h2 d.p) = .ref d.aC := by
    rw [hp, ← hC]
    rfl
  have g2 : eG fl_X12 127 (h2 d.p) = .ref d.aL := by
    rw [hp, ← hL]
    rfl
  have iL : eI (h2 (rv_ (eG fl_X12 127 (h2 d.p)))) k.toNatClampNeg = d.l k.toInt.toNat := by
    rw [g2]
    show eI (h2 d.aL) _ = _
    rw [hl]
    rfl
  have fin : ∀ (u : Int32) (W : fH), u = cutv v (d.l k.toInt.toNat) → W = hset h2 (rv_ (eG fl_X12 130 (h2 d.p))) (sI (60 * k + i).toNatClampNeg u (h2 (rv_ (eG fl_X12 130 (h2 d.p))))) → ∀ (rv : Option Value) (h3 : fH), (∀ a : Nat × Int32 × List Value, [Value.ref d.p, .int 1] = [.ref a.1, .int a.2.1] → W a.1 = some (.inr (12, a.2.2)) → h3 = hset W a.1 (.inr (12, a.2.2.set 0 (.int 0))) ∧ rv = some (.int a.2.1)) → rv = some (.int 1) ∧ Q12_put d k i v h2 (some (.int 1)) h3 := by
    intro u W hu hW rv h3 hc
    have hW : W = hset h2 d.aC (.inl (d.cC, 240, .inl (upd d.f (60 * k + i).toInt.toNat u))) := by
      rw [hW, g1]
      show hset h2 d.aC (sI (60 * k + i).toNatClampNeg u (h2 d.aC)) = _
      rw [hf]
      rfl
    have wp : W d.p = some (.inr (12, d.fs)) := by rw [hW, hset_ne (Ne.symm pC), hp]
    obtain ⟨e3, e4⟩ := hc (d.p, 1, d.fs) rfl wp
    refine ⟨e4, ?_⟩
    unfold Q12_put
    rw [if_pos hk, if_neg (by omega)]
    refine ⟨rfl, ?_⟩
    rw [e3, hW, hu]
    rfl
  have e1 : (1 : Int32).toInt = 1 := by decide
  refine ⟨fun ha => ⟨fun hb => ?_, fun hb => ?_⟩, fun ha => ?_⟩
  · have ha : ¬ (eI (h2 (rv_ (eG fl_X12 127 (h2 d.p)))) k.toNatClampNeg).toInt = 0 := ha
    have hb : ¬ (eI (h2 (rv_ (eG fl_X12 127 (h2 d.p)))) k.toNatClampNeg).toInt = (1 : Int32).toInt := hb
    rw [iL] at ha hb
    rw [e1] at hb
    intro rv h3 hc
    obtain ⟨rfl, hq⟩ := fin v _ (by unfold cutv; rw [if_neg ha, if_neg hb]) rfl rv h3 hc
    exact hq
  · have ha : ¬ (eI (h2 (rv_ (eG fl_X12 127 (h2 d.p)))) k.toNatClampNeg).toInt = 0 := ha
    have hb : ¬ ¬ (eI (h2 (rv_ (eG fl_X12 127 (h2 d.p)))) k.toNatClampNeg).toInt = (1 : Int32).toInt := hb
    rw [iL] at ha hb
    rw [e1] at hb
    intro rv h3 hc
    obtain ⟨rfl, hq⟩ := fin v.toInt16.toInt32 _ (by unfold cutv; rw [if_neg ha, if_pos (Classical.not_not.mp hb)]) rfl rv h3 hc
    exact hq
  · have ha : ¬ ¬ (eI (h2 (rv_ (eG fl_X12 127 (h2 d.p)))) k.toNatClampNeg).toInt = 0 := ha
    rw [iL] at ha
    intro rv h3 hc
    obtain ⟨rfl, hq⟩ := fin v.toInt8.toInt32 _ (by unfold cutv; rw [if_pos (Classical.not_not.mp ha)]) rfl rv h3 hc
    exact hq
