/-! the class's sheets -/
theorem s_X11_isSheet : f_do r_X11_isSheet (fun As h rv h' => ∀ k : Int32, As = [.int k] → True → h' = h ∧ rv = some (.int (if 0 ≤ k.toInt ∧ k.toInt < 4 then 1 else 0))) := by
  refine do_ofP (fun k : Int32 => [.int k]) (fun _ _ => True) (fun k h rv h' => h' = h ∧ rv = some (.int (if 0 ≤ k.toInt ∧ k.toInt < 4 then 1 else 0))) [] (fun _ _ => []) 40 fo_X11 no_sp k_X11_isSheet (fun _ _ _ => no_hd) (fun k h0 _ => ?_)
  refine ⟨fun hc => ?_, fun hc => ⟨fun hd => ?_, fun hd => ?_⟩⟩
  · refine ⟨rfl, ?_⟩
    have hc : k.toInt < 0 := hc
    rw [if_neg (by omega)]
    rfl
  · refine ⟨rfl, ?_⟩
    have hd : (4 : Int32).toInt ≤ k.toInt := hd
    have e4 : (4 : Int32).toInt = 4 := by decide
    rw [if_neg (by omega)]
    rfl
  · refine ⟨rfl, ?_⟩
    have hc : ¬ k.toInt < 0 := hc
    have hd : ¬ (4 : Int32).toInt ≤ k.toInt := hd
    have e4 : (4 : Int32).toInt = 4 := by decide
    rw [if_pos (by omega)]
    rfl
theorem s_X11_isLane : f_do r_X11_isLane (fun As h rv h' => ∀ k : Int32, As = [.int k] → True → h' = h ∧ rv = some (.int (if 0 ≤ k.toInt ∧ k.toInt < 3 then 1 else 0))) := by
  refine do_ofP (fun k : Int32 => [.int k]) (fun _ _ => True) (fun k h rv h' => h' = h ∧ rv = some (.int (if 0 ≤ k.toInt ∧ k.toInt < 3 then 1 else 0))) [] (fun _ _ => []) 40 fo_X11 no_sp k_X11_isLane (fun _ _ _ => no_hd) (fun k h0 _ => ?_)
  refine ⟨fun hc => ?_, fun hc => ⟨fun hd => ?_, fun hd => ?_⟩⟩
  · refine ⟨rfl, ?_⟩
    have hc : k.toInt < 0 := hc
    rw [if_neg (by omega)]
    rfl
  · refine ⟨rfl, ?_⟩
    have hd : (3 : Int32).toInt ≤ k.toInt := hd
    have e4 : (3 : Int32).toInt = 3 := by decide
    rw [if_neg (by omega)]
    rfl
  · refine ⟨rfl, ?_⟩
    have hc : ¬ k.toInt < 0 := hc
    have hd : ¬ (3 : Int32).toInt ≤ k.toInt := hd
    have e4 : (3 : Int32).toInt = 3 := by decide
    rw [if_pos (by omega)]
    rfl
theorem s_X11_faulted : f_do r_X11_faulted (fun As h rv h' => ∀ a : Nat × Int32 × List Value, As = [.ref a.1, .int a.2.1] → h a.1 = some (.inr (11, a.2.2)) → h' = hset h a.1 (.inr (11, a.2.2.set 14 (.int a.2.1))) ∧ rv = some (.int (Int32.ofInt (-10) - a.2.1))) := by
  refine do_ofP (fun a : Nat × Int32 × List Value => [.ref a.1, .int a.2.1]) (fun a h => h a.1 = some (.inr (11, a.2.2))) (fun a h rv h' => h' = hset h a.1 (.inr (11, a.2.2.set 14 (.int a.2.1))) ∧ rv = some (.int (Int32.ofInt (-10) - a.2.1))) [] (fun _ _ => []) 40 fo_X11 no_sp k_X11_faulted (fun _ _ _ => no_hd) (fun a h0 hp => ?_)
  obtain ⟨p, k, fs⟩ := a
  have hp : h0 p = some (.inr (11, fs)) := hp
  refine ⟨?_, rfl⟩
  show hset h0 p (sG pl_X11 93 (.int k) (h0 p)) = _
  rw [hp]
  rfl
/-- Arrays.fill of ints -/
def in_fill (a : Nat) (v : Int32) (cA : ClassId) (n : Nat) (h0 : fH) : fL_ → List Value → fH → Prop := fun lg vs w =>
  ∃ (i : Int32) (f : Nat → Int32), f_sub [(2, false, .int i), (3, false, .int (Int32.ofNat n)), (0, false, .ref a), (1, false, .int v)] lg ∧ vs = [] ∧ w = hset h0 a (.inl (cA, n, .inl f)) ∧ 0 ≤ i.toInt ∧ i.toInt ≤ n ∧ ∀ j, j < i.toInt.toNat → f j = v
theorem s_J7_fillI : f_do r_J7_fill_53178 (fun As h rv h' => ∀ a : Nat × Int32 × ClassId × Nat × (Nat → Int32), As = [.ref a.1, .int a.2.1] → h a.1 = some (.inl (a.2.2.1, a.2.2.2.1, .inl a.2.2.2.2)) ∧ a.2.2.2.1 < 100000 → rv = none ∧ ∃ f : Nat → Int32, h' = hset h a.1 (.inl (a.2.2.1, a.2.2.2.1, .inl f)) ∧ ∀ j, j < a.2.2.2.1 → f j = a.2.1) := by
  refine do_ofP (fun a : Nat × Int32 × ClassId × Nat × (Nat → Int32) => [.ref a.1, .int a.2.1]) (fun a h => h a.1 = some (.inl (a.2.2.1, a.2.2.2.1, .inl a.2.2.2.2)) ∧ a.2.2.2.1 < 100000) (fun a h rv h' => rv = none ∧ ∃ f : Nat → Int32, h' = hset h a.1 (.inl (a.2.2.1, a.2.2.2.1, .inl f)) ∧ ∀ j, j < a.2.2.2.1 → f j = a.2.1) []
    (fun a h => [(5, in_fill a.1 a.2.1 a.2.2.1 a.2.2.2.1 h)]) 40 fo_J7 no_sp k_J7_fill_53178 (fun a h0 hp => ?_) (fun a h0 hp => ?_)
  · obtain ⟨p, v, cA, n, f0⟩ := a
    obtain ⟨hp, hn⟩ := hp
    refine List.forall_mem_cons.mpr ⟨?_, fun _ h => absurd h List.not_mem_nil⟩
    rintro lg vs w ⟨i, f, hs, rfl, rfl, i0, i1, hf⟩
    refine ⟨_, 40, hs, ?_⟩
    have hn : n < 100000 := hn
    have en : (Int32.ofNat n).toInt = n := Int32.toInt_ofNat_of_lt (by omega)
    refine ⟨fun hc => ?_, fun hc => ?_⟩
    · have hc : (Int32.ofNat n).toInt ≤ i.toInt := hc
      refine ⟨rfl, f, rfl, fun j hj => ?_⟩
      have hj : j < n := hj
      rw [en] at hc
      exact hf j (by omega)
    · have hc : ¬ (Int32.ofNat n).toInt ≤ i.toInt := hc
      refine ⟨i + 1, upd f i.toInt.toNat v, ⟨rfl, rfl, rfl, rfl, trivial⟩, rfl, ?_, ?_, ?_, fun j hj => ?_⟩
      · show hset (hset h0 p (.inl (cA, n, .inl f))) p (sI i.toNatClampNeg v (hset h0 p (.inl (cA, n, .inl f)) p)) = _
        rw [hset_at, hset_hset]
        rfl
      · have e1 : (i + 1).toInt = i.toInt + 1 := i_inc i0 (by omega)
        omega
      · have e1 : (i + 1).toInt = i.toInt + 1 := i_inc i0 (by omega)
        show (i + 1).toInt ≤ (n : Int)
        omega
      · have e1 : (i + 1).toInt = i.toInt + 1 := i_inc i0 (by omega)
        by_cases ej : j = i.toInt.toNat
        · rw [ej]
          exact upd_at
        · exact (upd_ne ej).trans (hf j (by omega))
  · obtain ⟨p, v, cA, n, f0⟩ := a
    obtain ⟨hp, hn⟩ := hp
    have hp : h0 p = some (.inl (cA, n, .inl f0)) := hp
    refine ⟨0, f0, ⟨rfl, ?_, rfl, rfl, trivial⟩, rfl, (hset_self hp).symm, by decide, ?_, fun j hj => ?_⟩
    · show some (false, Value.int (Int32.ofNat (eL (h0 p)))) = some (false, Value.int (Int32.ofNat n))
      rw [hp]
      rfl
    · have e0 : (0 : Int32).toInt = 0 := by decide
      rw [e0]
      omega
    · have e0 : (0 : Int32).toInt = 0 := by decide
      rw [e0] at hj
      exact absurd hj (Nat.not_lt_zero _)
