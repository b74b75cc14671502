/-! the class's sheets: put -/
def cutv (v l : Int32) : Int32 := if l.toInt = 0 then v.toInt8.toInt32 else if l.toInt = 1 then v.toInt16.toInt32 else v
theorem s_X11_cut : f_do r_X11_cut (fun As h rv h' => ∀ a : Int32 × Int32, As = [.int a.1, .int a.2] → True → h' = h ∧ rv = some (.int (cutv a.1 a.2))) := by
  refine do_ofP (fun a : Int32 × Int32 => [.int a.1, .int a.2]) (fun _ _ => True) (fun a h rv h' => h' = h ∧ rv = some (.int (cutv a.1 a.2))) [] (fun _ _ => []) 40 fo_X11 no_sp k_X11_cut (fun _ _ _ => no_hd) (fun a h0 _ => ?_)
  obtain ⟨v, l⟩ := a
  have e1 : (1 : Int32).toInt = 1 := by decide
  refine ⟨fun hc => ⟨fun hd => ?_, fun hd => ?_⟩, fun hc => ?_⟩
  · have hc : ¬ l.toInt = 0 := hc
    have hd : ¬ l.toInt = (1 : Int32).toInt := hd
    rw [e1] at hd
    refine ⟨rfl, ?_⟩
    show some (Value.int v) = some (.int (cutv v l))
    unfold cutv
    rw [if_neg hc, if_neg hd]
  · have hc : ¬ l.toInt = 0 := hc
    have hd : ¬ ¬ l.toInt = (1 : Int32).toInt := hd
    rw [e1] at hd
    refine ⟨rfl, ?_⟩
    show some (Value.int v.toInt16.toInt32) = some (.int (cutv v l))
    unfold cutv
    rw [if_neg hc, if_pos (Classical.not_not.mp hd)]
  · have hc : ¬ ¬ l.toInt = 0 := hc
    refine ⟨rfl, ?_⟩
    show some (Value.int v.toInt8.toInt32) = some (.int (cutv v l))
    unfold cutv
    rw [if_pos (Classical.not_not.mp hc)]
def Q11_put (d : dk_) (k i v : Int32) (h : fH) (rv : Option Value) (h' : fH) : Prop :=
  if 0 ≤ k.toInt ∧ k.toInt < 4 then
    if (d.l k.toInt.toNat).toInt = -1 then rv = some (.int (-11)) ∧ h' = hset h d.p (dk_f d 1)
    else if 0 ≤ i.toInt ∧ i.toInt < (d.z k.toInt.toNat).toInt then rv = some (.int 1) ∧ h' = hset (hset h d.p (dk_f d 0)) (d.R k.toInt.toNat).1 (.inl ((d.R k.toInt.toNat).2.1, 60, .inl (upd (d.R k.toInt.toNat).2.2 i.toInt.toNat (cutv v (d.l k.toInt.toNat)))))
    else rv = some (.int (-13)) ∧ h' = hset h d.p (dk_f d 3)
  else rv = some (.int (-1)) ∧ h' = hset h d.p (dk_f d 0)
set_option maxHeartbeats 4000000 in
theorem s_X11_put : f_do r_X11_put (fun As h rv h' => ∀ a : dk_ × Int32 × Int32 × Int32, As = [.ref a.1.p, .int a.2.1, .int a.2.2.1, .int a.2.2.2] → dk_at a.1 h → Q11_put a.1 a.2.1 a.2.2.1 a.2.2.2 h rv h') := by
  refine do_ofP (fun a : dk_ × Int32 × Int32 × Int32 => [.ref a.1.p, .int a.2.1, .int a.2.2.1, .int a.2.2.2]) (fun a h => dk_at a.1 h) (fun a h rv h' => Q11_put a.1 a.2.1 a.2.2.1 a.2.2.2 h rv h')
    [(292, 1, _), (312, 2, _), (1255, 2, _)] (fun _ _ => []) 80 fo_X11 (List.forall_mem_cons.mpr ⟨sp_one rfl s_X11_isSheet, List.forall_mem_cons.mpr ⟨sp_one rfl s_X11_faulted, List.forall_mem_cons.mpr ⟨sp_one rfl s_X11_cut, no_sp⟩⟩⟩) k_X11_put (fun _ _ _ => no_hd) (fun a h0 hp => ?_)
  obtain ⟨d, k, i, v⟩ := a
  obtain ⟨hp, ⟨hL, hl⟩, ⟨hS, hz⟩, ⟨hC, hg⟩, nLS, hR⟩ := (show dk_at d h0 from hp)
  have pL := ne_of_h hp hl
  have pS := ne_of_h hp hz
  have pC := ne_of_h hp hg
  intro rv h1 hc
  obtain ⟨e1, rfl⟩ := hc k rfl trivial
  have e1 : h1 = hset h0 d.p (sG pl_X11 93 (.int 0) (h0 d.p)) := e1
  have e1 : h1 = hset h0 d.p (dk_f d 0) := by
    rw [e1, hp]
    rfl
  have w1 : h1 d.p = some (dk_f d 0) := by rw [e1, hset_at]
  have w2 : h1 d.aL = some (.inl (d.cL, 4, .inl d.l)) := by rw [e1, hset_ne pL, hl]
  have w3 : h1 d.aS = some (.inl (d.cS, 4, .inl d.z)) := by rw [e1, hset_ne pS, hz]
  have w4 : h1 d.aC = some (.inl (d.cC, 4, .inr (.inr (.inr (.inr d.g))))) := by rw [e1, hset_ne pC, hg]
  have g1 : eG fl_X11 77 (h1 d.p) = .ref d.aL := by
    rw [w1, ← hL]
    exact getD_set_ne (by decide)
  have g2 : eG fl_X11 87 (h1 d.p) = .ref d.aS := by
    rw [w1, ← hS]
    exact getD_set_ne (by decide)
  have g3 : eG fl_X11 74 (h1 d.p) = .ref d.aC := by
    rw [w1, ← hC]
    exact getD_set_ne (by decide)
  have iL : eI (h1 (rv_ (eG fl_X11 77 (h1 d.p)))) k.toNatClampNeg = d.l k.toInt.toNat := by
    rw [g1]
    show eI (h1 d.aL) _ = _
    rw [w2]
    rfl
  have iS : eI (h1 (rv_ (eG fl_X11 87 (h1 d.p)))) k.toNatClampNeg = d.z k.toInt.toNat := by
    rw [g2]
    show eI (h1 d.aS) _ = _
    rw [w3]
    rfl
  have flt : ∀ (x : Int32) (rv : Option Value) (h3 : fH), (∀ a : Nat × Int32 × List Value, [Value.ref d.p, .int x] = [.ref a.1, .int a.2.1] → h1 a.1 = some (.inr (11, a.2.2)) → h3 = hset h1 a.1 (.inr (11, a.2.2.set 14 (.int a.2.1))) ∧ rv = some (.int (Int32.ofInt (-10) - a.2.1))) → rv = some (.int (Int32.ofInt (-10) - x)) ∧ h3 = hset h0 d.p (dk_f d x) := by
    intro x rv h3 hc
    obtain ⟨e3, e4⟩ := hc (d.p, x, d.fs.set 14 (.int 0)) rfl w1
    refine ⟨e4, ?_⟩
    rw [e3, e1, hset_hset, List.set_set]
    rfl
  refine ⟨fun hc => ?_, fun hc => ?_⟩
  rotate_left
  · have hk : ¬ (0 ≤ k.toInt ∧ k.toInt < 4) := by
      intro hk
      have hc : ¬ ¬ (if 0 ≤ k.toInt ∧ k.toInt < 4 then (1 : Int32) else 0).toInt = 0 := hc
      rw [if_pos hk] at hc
      exact hc (by decide)
    show Q11_put d k i v h0 _ h1
    unfold Q11_put
    rw [if_neg hk]
    exact ⟨rfl, e1⟩
  have hk : 0 ≤ k.toInt ∧ k.toInt < 4 := by
    by_cases hk : 0 ≤ k.toInt ∧ k.toInt < 4
    · exact hk
    · have hc : ¬ (if 0 ≤ k.toInt ∧ k.toInt < 4 then (1 : Int32) else 0).toInt = 0 := hc
      rw [if_neg hk] at hc
      exact absurd rfl hc
  refine ⟨fun hn => ?_, fun hn => ?_⟩
  rotate_left
  · have hn : ¬ ¬ (eI (h1 (rv_ (eG fl_X11 77 (h1 d.p)))) k.toNatClampNeg).toInt = (Int32.ofInt (-1)).toInt := hn
    rw [iL] at hn
    have hn : (d.l k.toInt.toNat).toInt = -1 := Classical.not_not.mp hn
    intro rv h3 hc
    obtain ⟨rfl, e3⟩ := flt 1 rv h3 hc
    show Q11_put d k i v h0 _ h3
    unfold Q11_put
    rw [if_pos hk, if_pos hn]
    exact ⟨f10_1, e3⟩
  have hn : ¬ (eI (h1 (rv_ (eG fl_X11 77 (h1 d.p)))) k.toNatClampNeg).toInt = (Int32.ofInt (-1)).toInt := hn
  rw [iL] at hn
  have hn : ¬ (d.l k.toInt.toNat).toInt = -1 := hn
  have out : ¬ (0 ≤ i.toInt ∧ i.toInt < (d.z k.toInt.toNat).toInt) → ∀ (rv : Option Value) (h3 : fH), (∀ a : Nat × Int32 × List Value, [Value.ref d.p, .int 3] = [.ref a.1, .int a.2.1] → h1 a.1 = some (.inr (11, a.2.2)) → h3 = hset h1 a.1 (.inr (11, a.2.2.set 14 (.int a.2.1))) ∧ rv = some (.int (Int32.ofInt (-10) - a.2.1))) → Q11_put d k i v h0 rv h3 := by
    intro ho rv h3 hc
    obtain ⟨rfl, e3⟩ := flt 3 rv h3 hc
    unfold Q11_put
    rw [if_pos hk, if_neg hn, if_neg ho]
    exact ⟨f10_3, e3⟩
  refine ⟨fun hm => ?_, fun hm => ?_⟩
  · have hm : i.toInt < 0 := hm
    intro rv h3 hc
    obtain ⟨rfl, e3⟩ := flt 3 rv h3 hc
    show Q11_put d k i v h0 _ h3
    unfold Q11_put
    rw [if_pos hk, if_neg hn, if_neg (by omega)]
    exact ⟨f10_3, e3⟩
  have hm : ¬ i.toInt < 0 := hm
  refine ⟨fun hq => ?_, fun hq => ?_⟩
  rotate_left
  · have hq : ¬ i.toInt < (eI (h1 (rv_ (eG fl_X11 87 (h1 d.p)))) k.toNatClampNeg).toInt := hq
    rw [iS] at hq
    intro rv h3 hc
    obtain ⟨rfl, e3⟩ := flt 3 rv h3 hc
    show Q11_put d k i v h0 _ h3
    unfold Q11_put
    rw [if_pos hk, if_neg hn, if_neg (by omega)]
    exact ⟨f10_3, e3⟩
  have hq : i.toInt < (eI (h1 (rv_ (eG fl_X11 87 (h1 d.p)))) k.toNatClampNeg).toInt := hq
  rw [iS] at hq
  have hqq : 0 ≤ i.toInt ∧ i.toInt < (d.z k.toInt.toNat).toInt := ⟨by omega, hq⟩
  have hnn : ¬ (d.l k.toInt.toNat).toInt = -1 := hn
  intro rv h2 hc
  obtain ⟨e2, rfl⟩ := hc (v, eI (h1 (rv_ (eG fl_X11 77 (h1 d.p)))) k.toNatClampNeg) rfl trivial
  have e2 : h2 = h1 := e2
  subst e2
  show Q11_put d k i v h0 (some (.int 1)) (hset h2 (rv_ (eR (h2 (rv_ (eG fl_X11 74 (h2 d.p)))) k.toNatClampNeg)) (sI i.toNatClampNeg (cutv v (eI (h2 (rv_ (eG fl_X11 77 (h2 d.p)))) k.toNatClampNeg)) (h2 (rv_ (eR (h2 (rv_ (eG fl_X11 74 (h2 d.p)))) k.toNatClampNeg)))))
  obtain ⟨r1, r2, r3, r4⟩ := hR k.toInt.toNat (by omega)
  have rp := ne_of_h hp r2
  have y5 : h2 (d.R k.toInt.toNat).1 = some (.inl ((d.R k.toInt.toNat).2.1, 60, .inl (d.R k.toInt.toNat).2.2)) := by rw [e1, hset_ne rp, r2]
  have g4 : eR (h2 (rv_ (eG fl_X11 74 (h2 d.p)))) k.toNatClampNeg = .ref (d.R k.toInt.toNat).1 := by
    rw [g3]
    show eR (h2 d.aC) k.toInt.toNat = _
    rw [w4]
    show va_rf (d.g k.toInt.toNat) = _
    rw [r1]
    rfl
  rw [g4, iL]
  show Q11_put d k i v h0 (some (.int 1)) (hset h2 (d.R k.toInt.toNat).1 (sI i.toNatClampNeg (cutv v (d.l k.toInt.toNat)) (h2 (d.R k.toInt.toNat).1)))
  rw [y5]
  unfold Q11_put
  rw [if_pos hk, if_neg hnn, if_pos hqq]
  refine ⟨rfl, ?_⟩
  rw [e1]
  rfl
