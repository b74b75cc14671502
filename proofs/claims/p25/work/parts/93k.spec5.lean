/-! the reference's sheets: sheet -/
theorem s_X12_refused : f_do r_X12_refused (fun As h rv h' => ∀ a : Nat × Int32 × List Value, As = [.ref a.1, .int a.2.1] → h a.1 = some (.inr (12, a.2.2)) → h' = hset h a.1 (.inr (12, a.2.2.set 0 (.int 0))) ∧ rv = some (.int a.2.1)) := by
  refine do_ofP (fun a : Nat × Int32 × List Value => [.ref a.1, .int a.2.1]) (fun a h => h a.1 = some (.inr (12, a.2.2))) (fun a h rv h' => h' = hset h a.1 (.inr (12, a.2.2.set 0 (.int 0))) ∧ rv = some (.int a.2.1)) [] (fun _ _ => []) 40 fo_X12 no_sp k_X12_refused (fun _ _ _ => no_hd) (fun a h0 hp => ?_)
  obtain ⟨p, k, fs⟩ := a
  have hp : h0 p = some (.inr (12, fs)) := hp
  refine ⟨?_, rfl⟩
  show hset h0 p (sG pl_X12 142 (.int 0) (h0 p)) = _
  rw [hp]
  rfl
theorem s_X12_failed : f_do r_X12_failed (fun As h rv h' => ∀ a : Nat × Int32 × List Value, As = [.ref a.1, .int a.2.1] → h a.1 = some (.inr (12, a.2.2)) → h' = hset h a.1 (.inr (12, a.2.2.set 0 (.int a.2.1))) ∧ rv = some (.int (Int32.ofInt (-10) - a.2.1))) := by
  refine do_ofP (fun a : Nat × Int32 × List Value => [.ref a.1, .int a.2.1]) (fun a h => h a.1 = some (.inr (12, a.2.2))) (fun a h rv h' => h' = hset h a.1 (.inr (12, a.2.2.set 0 (.int a.2.1))) ∧ rv = some (.int (Int32.ofInt (-10) - a.2.1))) [] (fun _ _ => []) 40 fo_X12 no_sp k_X12_failed (fun _ _ _ => no_hd) (fun a h0 hp => ?_)
  obtain ⟨p, k, fs⟩ := a
  have hp : h0 p = some (.inr (12, fs)) := hp
  refine ⟨?_, rfl⟩
  show hset h0 p (sG pl_X12 142 (.int k) (h0 p)) = _
  rw [hp]
  rfl
abbrev md_ : Type := Nat × List Value × Nat × ClassId × (Nat → Int32) × Nat × ClassId × (Nat → Int32) × Nat × ClassId × (Nat → Int32)
def md_.p (d : md_) : Nat := d.1
def md_.fs (d : md_) : List Value := d.2.1
def md_.aZ (d : md_) : Nat := d.2.2.1
def md_.cZ (d : md_) : ClassId := d.2.2.2.1
def md_.z (d : md_) : Nat → Int32 := d.2.2.2.2.1
def md_.aL (d : md_) : Nat := d.2.2.2.2.2.1
def md_.cL (d : md_) : ClassId := d.2.2.2.2.2.2.1
def md_.l (d : md_) : Nat → Int32 := d.2.2.2.2.2.2.2.1
def md_.aC (d : md_) : Nat := d.2.2.2.2.2.2.2.2.1
def md_.cC (d : md_) : ClassId := d.2.2.2.2.2.2.2.2.2.1
def md_.f (d : md_) : Nat → Int32 := d.2.2.2.2.2.2.2.2.2.2
def md_at (d : md_) (h : fH) : Prop := h d.p = some (.inr (12, d.fs)) ∧ (d.fs.getD 64 .null = .ref d.aZ ∧ h d.aZ = some (.inl (d.cZ, 4, .inl d.z))) ∧ (d.fs.getD 65 .null = .ref d.aL ∧ h d.aL = some (.inl (d.cL, 4, .inl d.l))) ∧ (d.fs.getD 66 .null = .ref d.aC ∧ h d.aC = some (.inl (d.cC, 240, .inl d.f))) ∧ d.aZ ≠ d.aL ∧ d.aZ ≠ d.aC ∧ d.aL ≠ d.aC
def md_f (d : md_) (v : Int32) : va_E := .inr (12, d.fs.set 0 (.int v))
def md_w (d : md_) (k lane n : Int32) (f : Nat → Int32) (h : fH) : fH := hset (hset (hset h d.aZ (.inl (d.cZ, 4, .inl (upd d.z k.toInt.toNat n)))) d.aL (.inl (d.cL, 4, .inl (upd d.l k.toInt.toNat lane)))) d.aC (.inl (d.cC, 240, .inl f))
def md_z (d : md_) (k : Int32) (i : Nat) (f : Nat → Int32) : Prop := ∀ j, f j = if 60 * k.toInt.toNat ≤ j ∧ j < 60 * k.toInt.toNat + i then 0 else d.f j
def Q12_sheet (d : md_) (k lane n : Int32) (h : fH) (rv : Option Value) (h' : fH) : Prop :=
  if 0 ≤ k.toInt ∧ k.toInt < 4 then
    if (0 ≤ lane.toInt ∧ lane.toInt < 3) ∧ n.toInt ≤ 60 then
      if 0 ≤ n.toInt then rv = some (.int 1) ∧ ∃ f : Nat → Int32, md_z d k n.toInt.toNat f ∧ h' = hset (md_w d k lane n f h) d.p (md_f d 0)
      else rv = some (.int (-14)) ∧ h' = hset h d.p (md_f d 4)
    else rv = some (.int (-2)) ∧ h' = hset h d.p (md_f d 0)
  else rv = some (.int (-1)) ∧ h' = hset h d.p (md_f d 0)
def in_sh (d : md_) (k lane n : Int32) (h0 : fH) : fL_ → List Value → fH → Prop := fun lg vs w => ∃ (i : Int32) (f : Nat → Int32), f_sub [(4, false, .int i), (0, false, .ref d.p), (1, false, .int k), (2, false, .int lane), (3, false, .int n)] lg ∧ vs = [] ∧ w = md_w d k lane n f h0 ∧ (0 ≤ k.toInt ∧ k.toInt < 4) ∧ ((0 ≤ lane.toInt ∧ lane.toInt < 3) ∧ n.toInt ≤ 60) ∧ 0 ≤ i.toInt ∧ i.toInt ≤ n.toInt ∧ md_z d k i.toInt.toNat f
set_option maxHeartbeats 4000000 in
theorem s_X12_sheet : f_do r_X12_sheet (fun As h rv h' => ∀ a : md_ × Int32 × Int32 × Int32, As = [.ref a.1.p, .int a.2.1, .int a.2.2.1, .int a.2.2.2] → md_at a.1 h → Q12_sheet a.1 a.2.1 a.2.2.1 a.2.2.2 h rv h') := by
  refine do_ofP (fun a : md_ × Int32 × Int32 × Int32 => [.ref a.1.p, .int a.2.1, .int a.2.2.1, .int a.2.2.2]) (fun a h => md_at a.1 h) (fun a h rv h' => Q12_sheet a.1 a.2.1 a.2.2.1 a.2.2.2 h rv h')
    [(457, 3, _), (604, 1, _), (615, 2, _), (630, 2, _)] (fun a h => [(65, in_sh a.1 a.2.1 a.2.2.1 a.2.2.2 h)]) 80 fo_X12 (List.forall_mem_cons.mpr ⟨sp_one rfl s_X12_in, List.forall_mem_cons.mpr ⟨sp_one rfl s_X12_noSheet, List.forall_mem_cons.mpr ⟨sp_one rfl s_X12_refused, List.forall_mem_cons.mpr ⟨sp_one rfl s_X12_failed, no_sp⟩⟩⟩⟩) k_X12_sheet (fun a h0 hp => ?_) (fun a h0 hp => ?_)
  · obtain ⟨d, k, lane, n⟩ := a
    obtain ⟨hp, ⟨hZ, hz⟩, ⟨hL, hl⟩, ⟨hC, hf⟩, nZL, nZC, nLC⟩ := (show md_at d h0 from hp)
    have pZ := ne_of_h hp hz
    have pL := ne_of_h hp hl
    have pC := ne_of_h hp hf
    refine List.forall_mem_cons.mpr ⟨?_, fun _ h => absurd h List.not_mem_nil⟩
    rintro lg vs w ⟨i, f, hs, rfl, ew, hk, hla, i0, i1, hfz⟩
    have ew : w = md_w d k lane n f h0 := ew
    have hk : 0 ≤ k.toInt ∧ k.toInt < 4 := hk
    have hla : (0 ≤ lane.toInt ∧ lane.toInt < 3) ∧ n.toInt ≤ 60 := hla
    have i1 : i.toInt ≤ n.toInt := i1
    have hfz : md_z d k i.toInt.toNat f := hfz
    have wp : w d.p = some (.inr (12, d.fs)) := by
      rw [ew]
      unfold md_w
      rw [hset_ne (Ne.symm pC), hset_ne (Ne.symm pL), hset_ne (Ne.symm pZ), hp]
    have wC : w d.aC = some (.inl (d.cC, 240, .inl f)) := by
      rw [ew]
      exact hset_at
    refine ⟨_, 60, hs, fun hc => ?_, fun hc => ?_⟩
    · have hc : n.toInt ≤ i.toInt := hc
      intro rv h3 hc3
      obtain ⟨e3, rfl⟩ := hc3 (d.p, 1, d.fs) rfl wp
      have e3 : h3 = hset w d.p (md_f d 0) := e3
      show Q12_sheet d k lane n h0 _ h3
      unfold Q12_sheet
      have ei : i.toInt = n.toInt := by omega
      rw [if_pos hk, if_pos hla, if_pos (by omega)]
      refine ⟨rfl, f, by rw [← ei]; exact hfz, ?_⟩
      rw [e3, ew]
    · have hc : ¬ n.toInt ≤ i.toInt := hc
      have e60 : (60 : Int32).toInt = 60 := by decide
      have m1 : (60 * k).toInt = 60 * k.toInt := by
        rw [i_mul (by rw [e60]; omega) (by rw [e60]; omega), e60]
      have m2 : (60 * k + i).toInt = 60 * k.toInt + i.toInt := by
        rw [i_add (by rw [m1]; omega) (by rw [m1]; omega), m1]
      have m3 : (i + 1).toInt = i.toInt + 1 := i_inc i0 (by omega)
      refine ⟨i + 1, upd f (60 * k + i).toInt.toNat 0, ⟨rfl, rfl, rfl, rfl, rfl, trivial⟩, rfl, ?_, hk, hla, (show 0 ≤ (i + 1).toInt by omega), (show (i + 1).toInt ≤ n.toInt by omega), fun j => ?_⟩
      · have g : eG fl_X12 130 (w d.p) = .ref d.aC := by
          rw [wp, ← hC]
          rfl
        show hset w (rv_ (eG fl_X12 130 (w d.p))) (sI (60 * k + i).toNatClampNeg 0 (w (rv_ (eG fl_X12 130 (w d.p))))) = _
        rw [g]
        show hset w d.aC (sI (60 * k + i).toNatClampNeg 0 (w d.aC)) = _
        rw [wC, ew]
        exact hset_hset
      · show upd f (60 * k + i).toInt.toNat 0 j = if 60 * k.toInt.toNat ≤ j ∧ j < 60 * k.toInt.toNat + (i + 1).toInt.toNat then 0 else d.f j
        rw [m2, m3]
        by_cases ej : j = (60 * k.toInt + i.toInt).toNat
        · rw [ej, upd_at, if_pos (by omega)]
        · rw [upd_ne ej, hfz j]
          by_cases hj : 60 * k.toInt.toNat ≤ j ∧ j < 60 * k.toInt.toNat + i.toInt.toNat
          · rw [if_pos hj, if_pos (by omega)]
          · rw [if_neg hj, if_neg (by omega)]
  · obtain ⟨d, k, lane, n⟩ := a
    obtain ⟨hp, ⟨hZ, hz⟩, ⟨hL, hl⟩, ⟨hC, hf⟩, nZL, nZC, nLC⟩ := (show md_at d h0 from hp)
    have pZ := ne_of_h hp hz
    have pL := ne_of_h hp hl
    have pC := ne_of_h hp hf
    intro rv h1 hc
    obtain ⟨e1, rfl⟩ := hc k rfl trivial
    have e1 : h1 = h0 := e1
    subst e1
    refine ⟨fun hc => ?_, fun hc => ?_⟩
    rotate_left
    · have hk : ¬ (0 ≤ k.toInt ∧ k.toInt < 4) := by
        intro hk
        have hc : ¬ (if 0 ≤ k.toInt ∧ k.toInt < 4 then (0 : Int32) else 1).toInt = 0 := hc
        rw [if_pos hk] at hc
        exact hc (by decide)
      intro rv h3 hc3
      obtain ⟨e3, rfl⟩ := hc3 (d.p, -1, d.fs) rfl hp
      show Q12_sheet d k lane n _ _ h3
      unfold Q12_sheet
      rw [if_neg hk]
      exact ⟨rfl, e3⟩
    have hk : 0 ≤ k.toInt ∧ k.toInt < 4 := by
      by_cases hk : 0 ≤ k.toInt ∧ k.toInt < 4
      · exact hk
      · have hc : (if 0 ≤ k.toInt ∧ k.toInt < 4 then (0 : Int32) else 1).toInt = 0 := hc
        rw [if_neg hk] at hc
        exact absurd hc (by decide)
    intro rv h2 hc
    obtain ⟨e2, rfl⟩ := hc (lane.toInt64, 0, 2) rfl trivial
    have e2 : h2 = h1 := e2
    subst e2
    have t1 : lane.toInt64.toInt = lane.toInt := Int32.toInt_toInt64 lane
    have tz : (0 : Int64).toInt = 0 := by decide
    have t2 : (2 : Int64).toInt = 2 := by decide
    have out : ∀ (rv : Option Value) (h3 : fH), (h3 = hset h2 d.p (.inr (12, d.fs.set 0 (.int 0))) ∧ rv = some (.int (-2))) → ¬ ((0 ≤ lane.toInt ∧ lane.toInt < 3) ∧ n.toInt ≤ 60) → Q12_sheet d k lane n h2 rv h3 := by
      rintro rv h3 ⟨e3, rfl⟩ ho
      unfold Q12_sheet
      rw [if_pos hk, if_neg ho]
      exact ⟨rfl, e3⟩
    refine ⟨fun hc => ?_, fun hc => ?_⟩
    · have hl : ¬ (0 ≤ lane.toInt ∧ lane.toInt < 3) := by
        intro hl
        have hc : (if (0 : Int64).toInt ≤ lane.toInt64.toInt ∧ lane.toInt64.toInt ≤ (2 : Int64).toInt then (1 : Int32) else 0).toInt = 0 := hc
        rw [t1, tz, t2, if_pos (by omega)] at hc
        exact absurd hc (by decide)
      intro rv h3 hc3
      obtain ⟨e3, rfl⟩ := hc3 (d.p, -2, d.fs) rfl hp
      exact out _ _ ⟨e3, rfl⟩ (fun z => hl z.1)
    have hla : 0 ≤ lane.toInt ∧ lane.toInt < 3 := by
      by_cases hl : 0 ≤ lane.toInt ∧ lane.toInt < 3
      · exact hl
      · have hc : ¬ (if (0 : Int64).toInt ≤ lane.toInt64.toInt ∧ lane.toInt64.toInt ≤ (2 : Int64).toInt then (1 : Int32) else 0).toInt = 0 := hc
        rw [t1, tz, t2, if_neg (by omega)] at hc
        exact absurd rfl hc
    refine ⟨fun hn => ?_, fun hn => ?_⟩
    rotate_left
    · have hn : ¬ n.toInt ≤ (60 : Int32).toInt := hn
      have e6 : (60 : Int32).toInt = 60 := by decide
      intro rv h3 hc3
      obtain ⟨e3, rfl⟩ := hc3 (d.p, -2, d.fs) rfl hp
      exact out _ _ ⟨e3, rfl⟩ (fun z => by omega)
    have hn : n.toInt ≤ (60 : Int32).toInt := hn
    have e6 : (60 : Int32).toInt = 60 := by decide
    have hn : n.toInt ≤ 60 := by omega
    refine ⟨fun hm => ?_, fun hm => ?_⟩
    rotate_left
    · have hm : ¬ 0 ≤ n.toInt := hm
      intro rv h3 hc3
      obtain ⟨e3, rfl⟩ := hc3 (d.p, 4, d.fs) rfl hp
      show Q12_sheet d k lane n h2 _ h3
      unfold Q12_sheet
      rw [if_pos hk, if_pos ⟨hla, hn⟩, if_neg hm]
      exact ⟨f10_4, e3⟩
    have hm : 0 ≤ n.toInt := hm
    have key : ∀ (W1 W2 : fH), W1 = hset h2 (rv_ (eG fl_X12 124 (h2 d.p))) (sI k.toNatClampNeg n (h2 (rv_ (eG fl_X12 124 (h2 d.p))))) → W2 = hset W1 (rv_ (eG fl_X12 127 (W1 d.p))) (sI k.toNatClampNeg lane (W1 (rv_ (eG fl_X12 127 (W1 d.p))))) → W2 = md_w d k lane n d.f h2 := by
      intro W1 W2 E1 E2
      have g1 : eG fl_X12 124 (h2 d.p) = .ref d.aZ := by
        rw [hp, ← hZ]
        rfl
      have E1 : W1 = hset h2 d.aZ (.inl (d.cZ, 4, .inl (upd d.z k.toInt.toNat n))) := by
        rw [E1, g1]
        show hset h2 d.aZ (sI k.toNatClampNeg n (h2 d.aZ)) = _
        rw [hz]
        rfl
      have x1 : W1 d.p = some (.inr (12, d.fs)) := by rw [E1, hset_ne (Ne.symm pZ), hp]
      have x3 : W1 d.aL = some (.inl (d.cL, 4, .inl d.l)) := by rw [E1, hset_ne (Ne.symm nZL), hl]
      have x4 : W1 d.aC = some (.inl (d.cC, 240, .inl d.f)) := by rw [E1, hset_ne (Ne.symm nZC), hf]
      have g2 : eG fl_X12 127 (W1 d.p) = .ref d.aL := by
        rw [x1, ← hL]
        rfl
      have E2 : W2 = hset W1 d.aL (.inl (d.cL, 4, .inl (upd d.l k.toInt.toNat lane))) := by
        rw [E2, g2]
        show hset W1 d.aL (sI k.toNatClampNeg lane (W1 d.aL)) = _
        rw [x3]
        rfl
      have y4 : W2 d.aC = some (.inl (d.cC, 240, .inl d.f)) := by rw [E2, hset_ne (Ne.symm nLC), x4]
      unfold md_w
      rw [← E1, ← E2]
      exact (hset_self y4).symm
    have e0 : (0 : Int32).toInt = 0 := by decide
    refine ⟨0, d.f, ⟨rfl, rfl, rfl, rfl, rfl, trivial⟩, rfl, key _ _ rfl rfl, hk, ⟨hla, hn⟩, by decide, by rw [e0]; exact hm, fun j => ?_⟩
    show d.f j = if 60 * k.toInt.toNat ≤ j ∧ j < 60 * k.toInt.toNat + (0 : Int32).toInt.toNat then 0 else d.f j
    rw [e0, if_neg (by omega)]
