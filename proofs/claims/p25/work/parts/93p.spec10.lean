/-! the class's sheets: copy -/
abbrev cpA : Type := (Nat × Int32 × Nat × Int32 × Int32) × (ClassId × Nat × (Nat → Int32)) × (ClassId × Nat × (Nat → Int32))
def P_cpi : fPh := fun As h rv h' => ∀ a : cpA, As = [.ref a.1.1, .int a.1.2.1, .ref a.1.2.2.1, .int a.1.2.2.2.1, .int a.1.2.2.2.2] → h a.1.1 = some (.inl (a.2.1.1, a.2.1.2.1, .inl a.2.1.2.2)) → h a.1.2.2.1 = some (.inl (a.2.2.1, a.2.2.2.1, .inl a.2.2.2.2)) → rv = none ∧ h' = hset h a.1.2.2.1 (.inl (a.2.2.1, a.2.2.2.1, .inl (va_cpy a.2.1.2.2 a.2.2.2.2 a.1.2.1.toNatClampNeg a.1.2.2.2.1.toNatClampNeg a.1.2.2.2.2.toNatClampNeg)))
theorem sp_cpi {T : fT} {key : Nat} (hT : T.2.2.2.2.2.1 key = (5, f_cpi)) : (T.2.2.2.2.2.1 (key, 5, P_cpi).1).1 = (key, 5, P_cpi).2.1 ∧ ∀ (As : List Value) (w : fH) (ws : va_W) (sh : List Nat) (rv : Option Value) (ws' : va_W) (sh' : List Nat), wH w ws sh → (T.2.2.2.2.2.1 (key, 5, P_cpi).1).2 As ws sh rv ws' sh' → ∃ w', wH w' ws' sh' ∧ (key, 5, P_cpi).2.2 As w rv w' := by
  refine ⟨by show (T.2.2.2.2.2.1 key).1 = 5; rw [hT], fun As w ws sh rv ws' sh' hw hx => ?_⟩
  have hx : (T.2.2.2.2.2.1 key).2 As ws sh rv ws' sh' := hx
  rw [hT] at hx
  obtain ⟨a0, a1, sp, dp, n, q0, q1, n0, n1, c0, c1, f, g, rfl, h0, h1, rfl, rfl, rfl⟩ := (show f_cpi As ws sh rv ws' sh' from hx)
  obtain ⟨rfl, hd⟩ := hw
  refine ⟨_, ⟨rfl, hd.set h1⟩, fun a e x0 x1 => ⟨rfl, ?_⟩⟩
  obtain ⟨⟨b0, sp', b1, dp', n'⟩, ⟨d0, m0, f'⟩, ⟨d1, m1, g'⟩⟩ := a
  have e : [Value.ref a0, .int sp, .ref a1, .int dp, .int n] = [.ref b0, .int sp', .ref b1, .int dp', .int n'] := e
  simp only [List.cons.injEq, Value.ref.injEq, Value.int.injEq, and_true] at e
  obtain ⟨rfl, rfl, rfl, rfl, rfl⟩ := e
  have y0 : hof ws a0 = some (.inl (d0, m0, .inl f')) := x0
  have y1 : hof ws a1 = some (.inl (d1, m1, .inl g')) := x1
  rw [hof_at hd h0] at y0
  rw [hof_at hd h1] at y1
  clear x0 x1
  cases y0
  cases y1
  exact hof_set hd h1
def Q11_copy (d : dk_) (k i o j n : Int32) (h : fH) (rv : Option Value) (h' : fH) : Prop :=
  if (0 ≤ k.toInt ∧ k.toInt < 4) ∧ (0 ≤ o.toInt ∧ o.toInt < 4) then
    if (d.l k.toInt.toNat).toInt = -1 ∨ (d.l o.toInt.toNat).toInt = -1 then rv = some (.int (-11)) ∧ h' = hset h d.p (dk_f d 1)
    else if (d.l k.toInt.toNat).toInt = (d.l o.toInt.toNat).toInt then
      if (0 ≤ i.toInt ∧ 0 ≤ j.toInt ∧ 0 ≤ n.toInt) ∧ (i.toInt ≤ (d.z k.toInt.toNat - n).toInt ∧ j.toInt ≤ (d.z o.toInt.toNat - n).toInt) then rv = some (.int n) ∧ h' = hset (hset h d.p (dk_f d 0)) (d.R o.toInt.toNat).1 (.inl ((d.R o.toInt.toNat).2.1, 60, .inl (va_cpy (d.R k.toInt.toNat).2.2 (d.R o.toInt.toNat).2.2 i.toInt.toNat j.toInt.toNat n.toInt.toNat)))
      else rv = some (.int (-13)) ∧ h' = hset h d.p (dk_f d 3)
    else rv = some (.int (-12)) ∧ h' = hset h d.p (dk_f d 2)
  else rv = some (.int (-1)) ∧ h' = hset h d.p (dk_f d 0)
set_option maxHeartbeats 4000000 in
theorem s_X11_copy : f_do r_X11_copy (fun As h rv h' => ∀ a : dk_ × Int32 × Int32 × Int32 × Int32 × Int32, As = [.ref a.1.p, .int a.2.1, .int a.2.2.1, .int a.2.2.2.1, .int a.2.2.2.2.1, .int a.2.2.2.2.2] → dk_at a.1 h → Q11_copy a.1 a.2.1 a.2.2.1 a.2.2.2.1 a.2.2.2.2.1 a.2.2.2.2.2 h rv h') := by
  refine do_ofP (fun a : dk_ × Int32 × Int32 × Int32 × Int32 × Int32 => [.ref a.1.p, .int a.2.1, .int a.2.2.1, .int a.2.2.2.1, .int a.2.2.2.2.1, .int a.2.2.2.2.2]) (fun a h => dk_at a.1 h) (fun a h rv h' => Q11_copy a.1 a.2.1 a.2.2.1 a.2.2.2.1 a.2.2.2.2.1 a.2.2.2.2.2 h rv h')
    [(292, 1, _), (312, 2, _), (1273, 5, P_cpi)] (fun _ _ => []) 100 fo_X11 (List.forall_mem_cons.mpr ⟨sp_one rfl s_X11_isSheet, List.forall_mem_cons.mpr ⟨sp_one rfl s_X11_faulted, List.forall_mem_cons.mpr ⟨sp_cpi rfl, no_sp⟩⟩⟩) k_X11_copy (fun _ _ _ => no_hd) (fun a h0 hp => ?_)
  obtain ⟨d, k, i, o, j, n⟩ := a
  obtain ⟨hp, ⟨hL, hl⟩, ⟨hS, hz⟩, ⟨hC, hg⟩, nLS, hR⟩ := (show dk_at d h0 from hp)
  have pL := ne_of_h hp hl
  have pS := ne_of_h hp hz
  have pC := ne_of_h hp hg
  intro rv h1 hc
  obtain ⟨e1, rfl⟩ := hc k rfl trivial
  have e1 : h1 = hset h0 d.p (sG pl_X11 93 (.int 0) (h0 d.p)) := e1
  have e1 : h1 = hset h0 d.p (dk_f d 0) := by
    rw [e1, hp]
    rfl
  have w1 : h1 d.p = some (dk_f d 0) := by rw [e1, hset_at]
  have w2 : h1 d.aL = some (.inl (d.cL, 4, .inl d.l)) := by rw [e1, hset_ne pL, hl]
  have w3 : h1 d.aS = some (.inl (d.cS, 4, .inl d.z)) := by rw [e1, hset_ne pS, hz]
  have w4 : h1 d.aC = some (.inl (d.cC, 4, .inr (.inr (.inr (.inr d.g))))) := by rw [e1, hset_ne pC, hg]
  have g1 : eG fl_X11 77 (h1 d.p) = .ref d.aL := by
    rw [w1, ← hL]
    exact getD_set_ne (by decide)
  have g2 : eG fl_X11 87 (h1 d.p) = .ref d.aS := by
    rw [w1, ← hS]
    exact getD_set_ne (by decide)
  have g3 : eG fl_X11 74 (h1 d.p) = .ref d.aC := by
    rw [w1, ← hC]
    exact getD_set_ne (by decide)
  have iL : ∀ k : Int32, eI (h1 (rv_ (eG fl_X11 77 (h1 d.p)))) k.toNatClampNeg = d.l k.toInt.toNat := by
    intro k
    rw [g1]
    show eI (h1 d.aL) _ = _
    rw [w2]
    rfl
  have iS : ∀ k : Int32, eI (h1 (rv_ (eG fl_X11 87 (h1 d.p)))) k.toNatClampNeg = d.z k.toInt.toNat := by
    intro k
    rw [g2]
    show eI (h1 d.aS) _ = _
    rw [w3]
    rfl
  have flt : ∀ (x : Int32) (rv : Option Value) (h3 : fH), (∀ a : Nat × Int32 × List Value, [Value.ref d.p, .int x] = [.ref a.1, .int a.2.1] → h1 a.1 = some (.inr (11, a.2.2)) → h3 = hset h1 a.1 (.inr (11, a.2.2.set 14 (.int a.2.1))) ∧ rv = some (.int (Int32.ofInt (-10) - a.2.1))) → rv = some (.int (Int32.ofInt (-10) - x)) ∧ h3 = hset h0 d.p (dk_f d x) := by
    intro x rv h3 hc
    obtain ⟨e3, e4⟩ := hc (d.p, x, d.fs.set 14 (.int 0)) rfl w1
    refine ⟨e4, ?_⟩
    rw [e3, e1, hset_hset, List.set_set]
    rfl
  have bad : ¬ ((0 ≤ k.toInt ∧ k.toInt < 4) ∧ (0 ≤ o.toInt ∧ o.toInt < 4)) → Q11_copy d k i o j n h0 (some (.int (-1))) h1 := by
    intro hb
    unfold Q11_copy
    rw [if_neg hb]
    exact ⟨rfl, e1⟩
  refine ⟨fun hc => ?_, fun hc => ?_⟩
  · have hk : ¬ (0 ≤ k.toInt ∧ k.toInt < 4) := by
      intro hk
      have hc : (if 0 ≤ k.toInt ∧ k.toInt < 4 then (1 : Int32) else 0).toInt = 0 := hc
      rw [if_pos hk] at hc
      exact absurd hc (by decide)
    exact bad (fun z => hk z.1)
  have hk : 0 ≤ k.toInt ∧ k.toInt < 4 := by
    by_cases hk : 0 ≤ k.toInt ∧ k.toInt < 4
    · exact hk
    · have hc : ¬ (if 0 ≤ k.toInt ∧ k.toInt < 4 then (1 : Int32) else 0).toInt = 0 := hc
      rw [if_neg hk] at hc
      exact absurd rfl hc
  intro rv h2 hc
  obtain ⟨e2, rfl⟩ := hc o rfl trivial
  have e2 : h2 = h1 := e2
  subst h2
  refine ⟨fun hc => ?_, fun hc => ?_⟩
  rotate_left
  · have ho : ¬ (0 ≤ o.toInt ∧ o.toInt < 4) := by
      intro ho
      have hc : ¬ ¬ (if 0 ≤ o.toInt ∧ o.toInt < 4 then (1 : Int32) else 0).toInt = 0 := hc
      rw [if_pos ho] at hc
      exact hc (by decide)
    exact bad (fun z => ho z.2)
  have ho : 0 ≤ o.toInt ∧ o.toInt < 4 := by
    by_cases ho : 0 ≤ o.toInt ∧ o.toInt < 4
    · exact ho
    · have hc : ¬ (if 0 ≤ o.toInt ∧ o.toInt < 4 then (1 : Int32) else 0).toInt = 0 := hc
      rw [if_neg ho] at hc
      exact absurd rfl hc
  have nul : ((d.l k.toInt.toNat).toInt = -1 ∨ (d.l o.toInt.toNat).toInt = -1) → ∀ h3 : fH, h3 = hset h0 d.p (dk_f d 1) → Q11_copy d k i o j n h0 (some (.int (Int32.ofInt (-10) - 1))) h3 := by
    intro hx h3 e3
    unfold Q11_copy
    rw [if_pos ⟨hk, ho⟩, if_pos hx]
    exact ⟨f10_1, e3⟩
  refine ⟨fun ha => ?_, fun ha => ?_⟩
  · have ha : (eI (h1 (rv_ (eG fl_X11 77 (h1 d.p)))) k.toNatClampNeg).toInt = (Int32.ofInt (-1)).toInt := ha
    rw [iL] at ha
    intro rv h3 hc
    obtain ⟨rfl, e3⟩ := flt 1 rv h3 hc
    exact nul (Or.inl ha) h3 e3
  have ha : ¬ (eI (h1 (rv_ (eG fl_X11 77 (h1 d.p)))) k.toNatClampNeg).toInt = (Int32.ofInt (-1)).toInt := ha
  rw [iL] at ha
  have ha : ¬ (d.l k.toInt.toNat).toInt = -1 := ha
  refine ⟨fun hb => ?_, fun hb => ?_⟩
  rotate_left
  · have hb : ¬ ¬ (eI (h1 (rv_ (eG fl_X11 77 (h1 d.p)))) o.toNatClampNeg).toInt = (Int32.ofInt (-1)).toInt := hb
    rw [iL] at hb
    intro rv h3 hc
    obtain ⟨rfl, e3⟩ := flt 1 rv h3 hc
    exact nul (Or.inr (Classical.not_not.mp hb)) h3 e3
  have hb : ¬ (eI (h1 (rv_ (eG fl_X11 77 (h1 d.p)))) o.toNatClampNeg).toInt = (Int32.ofInt (-1)).toInt := hb
  rw [iL] at hb
  have hb : ¬ (d.l o.toInt.toNat).toInt = -1 := hb
  have nn : ¬ ((d.l k.toInt.toNat).toInt = -1 ∨ (d.l o.toInt.toNat).toInt = -1) := fun z => z.elim ha hb
  refine ⟨fun hm => ?_, fun hm => ?_⟩
  rotate_left
  · have hm : ¬ (eI (h1 (rv_ (eG fl_X11 77 (h1 d.p)))) k.toNatClampNeg).toInt = (eI (h1 (rv_ (eG fl_X11 77 (h1 d.p)))) o.toNatClampNeg).toInt := hm
    rw [iL, iL] at hm
    intro rv h3 hc
    obtain ⟨rfl, e3⟩ := flt 2 rv h3 hc
    show Q11_copy d k i o j n h0 _ h3
    unfold Q11_copy
    rw [if_pos ⟨hk, ho⟩, if_neg nn, if_neg hm]
    exact ⟨f10_2, e3⟩
  have hm : (eI (h1 (rv_ (eG fl_X11 77 (h1 d.p)))) k.toNatClampNeg).toInt = (eI (h1 (rv_ (eG fl_X11 77 (h1 d.p)))) o.toNatClampNeg).toInt := hm
  rw [iL, iL] at hm
  have out : ¬ ((0 ≤ i.toInt ∧ 0 ≤ j.toInt ∧ 0 ≤ n.toInt) ∧ (i.toInt ≤ (d.z k.toInt.toNat - n).toInt ∧ j.toInt ≤ (d.z o.toInt.toNat - n).toInt)) → ∀ h3 : fH, h3 = hset h0 d.p (dk_f d 3) → Q11_copy d k i o j n h0 (some (.int (Int32.ofInt (-10) - 3))) h3 := by
    intro hx h3 e3
    unfold Q11_copy
    rw [if_pos ⟨hk, ho⟩, if_neg nn, if_pos hm, if_neg hx]
    exact ⟨f10_3, e3⟩
  refine ⟨fun hi => ?_, fun hi => ?_⟩
  · have hi : i.toInt < 0 := hi
    intro rv h3 hc
    obtain ⟨rfl, e3⟩ := flt 3 rv h3 hc
    exact out (fun z => by omega) h3 e3
  have hi : ¬ i.toInt < 0 := hi
  refine ⟨fun hj => ?_, fun hj => ?_⟩
  · have hj : j.toInt < 0 := hj
    intro rv h3 hc
    obtain ⟨rfl, e3⟩ := flt 3 rv h3 hc
    exact out (fun z => by omega) h3 e3
  have hj : ¬ j.toInt < 0 := hj
  refine ⟨fun hn => ?_, fun hn => ?_⟩
  rotate_left
  · have hn : ¬ 0 ≤ n.toInt := hn
    intro rv h3 hc
    obtain ⟨rfl, e3⟩ := flt 3 rv h3 hc
    exact out (fun z => hn z.1.2.2) h3 e3
  have hn : 0 ≤ n.toInt := hn
  refine ⟨fun hs => ?_, fun hs => ?_⟩
  · have hs : (eI (h1 (rv_ (eG fl_X11 87 (h1 d.p)))) k.toNatClampNeg - n).toInt < i.toInt := hs
    rw [iS] at hs
    intro rv h3 hc
    obtain ⟨rfl, e3⟩ := flt 3 rv h3 hc
    exact out (fun z => by omega) h3 e3
  have hs : ¬ (eI (h1 (rv_ (eG fl_X11 87 (h1 d.p)))) k.toNatClampNeg - n).toInt < i.toInt := hs
  rw [iS] at hs
  refine ⟨fun ht => ?_, fun ht => ?_⟩
  rotate_left
  · have ht : ¬ j.toInt ≤ (eI (h1 (rv_ (eG fl_X11 87 (h1 d.p)))) o.toNatClampNeg - n).toInt := ht
    rw [iS] at ht
    intro rv h3 hc
    obtain ⟨rfl, e3⟩ := flt 3 rv h3 hc
    exact out (fun z => ht z.2.2) h3 e3
  have ht : j.toInt ≤ (eI (h1 (rv_ (eG fl_X11 87 (h1 d.p)))) o.toNatClampNeg - n).toInt := ht
  rw [iS] at ht
  have hR1 : ∀ k : Int32, 0 ≤ k.toInt ∧ k.toInt < 4 → eR (h1 (rv_ (eG fl_X11 74 (h1 d.p)))) k.toNatClampNeg = .ref (d.R k.toInt.toNat).1 ∧ h1 (d.R k.toInt.toNat).1 = some (.inl ((d.R k.toInt.toNat).2.1, 60, .inl (d.R k.toInt.toNat).2.2)) := by
    intro k hk
    obtain ⟨r1, r2, r3, r4⟩ := hR k.toInt.toNat (by omega)
    have rp := ne_of_h hp r2
    refine ⟨?_, by rw [e1, hset_ne rp, r2]⟩
    rw [g3]
    show eR (h1 d.aC) k.toInt.toNat = _
    rw [w4]
    show va_rf (d.g k.toInt.toNat) = _
    rw [r1]
    rfl
  obtain ⟨k1, k2⟩ := hR1 k hk
  obtain ⟨o1, o2⟩ := hR1 o ho
  intro rv h3 hc
  have hc : P_cpi [eR (h1 (rv_ (eG fl_X11 74 (h1 d.p)))) k.toNatClampNeg, .int i, eR (h1 (rv_ (eG fl_X11 74 (h1 d.p)))) o.toNatClampNeg, .int j, .int n] h1 rv h3 := hc
  rw [k1, o1] at hc
  obtain ⟨rfl, e3⟩ := hc (((d.R k.toInt.toNat).1, i, (d.R o.toInt.toNat).1, j, n), ((d.R k.toInt.toNat).2.1, 60, (d.R k.toInt.toNat).2.2), ((d.R o.toInt.toNat).2.1, 60, (d.R o.toInt.toNat).2.2)) rfl k2 o2
  show Q11_copy d k i o j n h0 (some (.int n)) h3
  unfold Q11_copy
  rw [if_pos ⟨hk, ho⟩, if_neg nn, if_pos hm, if_pos ⟨⟨by omega, by omega, hn⟩, by omega, ht⟩]
  refine ⟨rfl, ?_⟩
  rw [e3, e1]
  rfl
