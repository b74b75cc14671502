/-! the reference's sheets: lose -/
theorem s_X12_in : f_do r_X12_in (fun As h rv h' => ∀ a : Int64 × Int64 × Int64, As = [.long a.1, .long a.2.1, .long a.2.2] → True → h' = h ∧ rv = some (.int (if a.2.1.toInt ≤ a.1.toInt ∧ a.1.toInt ≤ a.2.2.toInt then 1 else 0))) := by
  refine do_ofP (fun a : Int64 × Int64 × Int64 => [.long a.1, .long a.2.1, .long a.2.2]) (fun _ _ => True) (fun a h rv h' => h' = h ∧ rv = some (.int (if a.2.1.toInt ≤ a.1.toInt ∧ a.1.toInt ≤ a.2.2.toInt then 1 else 0))) [] (fun _ _ => []) 40 fo_X12 no_sp k_X12_in (fun _ _ _ => no_hd) (fun a h0 _ => ?_)
  obtain ⟨x, lo, hi⟩ := a
  refine ⟨fun hc => ?_, fun hc => ⟨fun hd => ?_, fun hd => ?_⟩⟩
  · refine ⟨rfl, ?_⟩
    have hc : ck_cm .lt (lg_cmp x lo).toInt 0 := hc
    have hc : x.toInt < lo.toInt := ck_cm_lg.mp hc
    show some (Value.int 0) = some (.int (if lo.toInt ≤ x.toInt ∧ x.toInt ≤ hi.toInt then 1 else 0))
    rw [if_neg (by omega)]
  · refine ⟨rfl, ?_⟩
    have hd : ck_cm .gt (lg_cmp x hi).toInt 0 := hd
    have hd : hi.toInt < x.toInt := ck_cm_lg.mp hd
    show some (Value.int 0) = some (.int (if lo.toInt ≤ x.toInt ∧ x.toInt ≤ hi.toInt then 1 else 0))
    rw [if_neg (by omega)]
  · refine ⟨rfl, ?_⟩
    have hc : ¬ ck_cm .lt (lg_cmp x lo).toInt 0 := hc
    have hc : ¬ x.toInt < lo.toInt := fun z => hc (ck_cm_lg.mpr z)
    have hd : ¬ ck_cm .gt (lg_cmp x hi).toInt 0 := hd
    have hd : ¬ hi.toInt < x.toInt := fun z => hd (ck_cm_lg.mpr z)
    show some (Value.int 1) = some (.int (if lo.toInt ≤ x.toInt ∧ x.toInt ≤ hi.toInt then 1 else 0))
    rw [if_pos (by omega)]
theorem s_X12_noSheet : f_do r_X12_noSheet (fun As h rv h' => ∀ k : Int32, As = [.int k] → True → h' = h ∧ rv = some (.int (if 0 ≤ k.toInt ∧ k.toInt < 4 then 0 else 1))) := by
  refine do_ofP (fun k : Int32 => [.int k]) (fun _ _ => True) (fun k h rv h' => h' = h ∧ rv = some (.int (if 0 ≤ k.toInt ∧ k.toInt < 4 then 0 else 1))) [(457, 3, _)] (fun _ _ => []) 40 fo_X12 (List.forall_mem_cons.mpr ⟨sp_one rfl s_X12_in, no_sp⟩) k_X12_noSheet (fun _ _ _ => no_hd) (fun k h0 _ => ?_)
  intro rv h1 hc
  obtain ⟨rfl, rfl⟩ := hc (k.toInt64, 0, 3) rfl trivial
  have e1 : k.toInt64.toInt = k.toInt := Int32.toInt_toInt64 k
  have ez : (0 : Int64).toInt = 0 := by decide
  have e3 : (3 : Int64).toInt = 3 := by decide
  refine ⟨fun hc => ?_, fun hc => ?_⟩
  · refine ⟨rfl, ?_⟩
    have hc : ¬ (if (0 : Int64).toInt ≤ k.toInt64.toInt ∧ k.toInt64.toInt ≤ (3 : Int64).toInt then (1 : Int32) else 0).toInt = 0 := hc
    rw [e1, ez, e3] at hc
    by_cases hk : 0 ≤ k.toInt ∧ k.toInt < 4
    · rw [if_pos hk]
      rfl
    · rw [if_neg (by omega)] at hc
      exact absurd rfl hc
  · refine ⟨rfl, ?_⟩
    have hc : ¬ ¬ (if (0 : Int64).toInt ≤ k.toInt64.toInt ∧ k.toInt64.toInt ≤ (3 : Int64).toInt then (1 : Int32) else 0).toInt = 0 := hc
    rw [e1, ez, e3] at hc
    by_cases hk : 0 ≤ k.toInt ∧ k.toInt < 4
    · rw [if_pos (by omega)] at hc
      exact absurd (by decide) hc
    · rw [if_neg hk]
      rfl
theorem s_X12_lose : f_do r_X12_lose (fun As h rv h' => ∀ a : Nat × Int32 × List Value × Nat × ClassId × (Nat → Int32), As = [.ref a.1, .int a.2.1] → (h a.1 = some (.inr (12, a.2.2.1)) ∧ a.2.2.1.getD 64 .null = .ref a.2.2.2.1 ∧ h a.2.2.2.1 = some (.inl (a.2.2.2.2.1, 4, .inl a.2.2.2.2.2))) →
    if 0 ≤ a.2.1.toInt ∧ a.2.1.toInt < 4 then rv = some (.int (if (a.2.2.2.2.2 a.2.1.toInt.toNat).toInt < 0 then 0 else 1)) ∧ h' = hset h a.2.2.2.1 (.inl (a.2.2.2.2.1, 4, .inl (upd a.2.2.2.2.2 a.2.1.toInt.toNat (-1)))) else rv = some (.int (-1)) ∧ h' = h) := by
  refine do_ofP (fun a : Nat × Int32 × List Value × Nat × ClassId × (Nat → Int32) => [.ref a.1, .int a.2.1]) (fun a h => h a.1 = some (.inr (12, a.2.2.1)) ∧ a.2.2.1.getD 64 .null = .ref a.2.2.2.1 ∧ h a.2.2.2.1 = some (.inl (a.2.2.2.2.1, 4, .inl a.2.2.2.2.2)))
    (fun a h rv h' => if 0 ≤ a.2.1.toInt ∧ a.2.1.toInt < 4 then rv = some (.int (if (a.2.2.2.2.2 a.2.1.toInt.toNat).toInt < 0 then 0 else 1)) ∧ h' = hset h a.2.2.2.1 (.inl (a.2.2.2.2.1, 4, .inl (upd a.2.2.2.2.2 a.2.1.toInt.toNat (-1)))) else rv = some (.int (-1)) ∧ h' = h)
    [(604, 1, _)] (fun _ _ => []) 60 fo_X12 (List.forall_mem_cons.mpr ⟨sp_one rfl s_X12_noSheet, no_sp⟩) k_X12_lose (fun _ _ _ => no_hd) (fun a h0 hp => ?_)
  obtain ⟨p, k, fs, aL, cL, l⟩ := a
  obtain ⟨hp, hL, hl⟩ := hp
  dsimp only at hp hL hl
  intro rv h1 hc
  obtain ⟨rfl, rfl⟩ := hc k rfl trivial
  have g : eG fl_X12 124 (h1 p) = .ref aL := by rw [hp]; exact hL
  refine ⟨fun hc => ?_, fun hc => ?_⟩
  · have hk : 0 ≤ k.toInt ∧ k.toInt < 4 := by
      by_cases hk : 0 ≤ k.toInt ∧ k.toInt < 4
      · exact hk
      · have hc : (if 0 ≤ k.toInt ∧ k.toInt < 4 then (0 : Int32) else 1).toInt = 0 := hc
        rw [if_neg hk] at hc
        exact absurd hc (by decide)
    have gi : eI (h1 (rv_ (eG fl_X12 124 (h1 p)))) k.toNatClampNeg = l k.toInt.toNat := by
      rw [g]
      show eI (h1 aL) _ = _
      rw [hl]
      rfl
    have gs : hset h1 (rv_ (eG fl_X12 124 (h1 p))) (sI k.toNatClampNeg (Int32.ofInt (-1)) (h1 (rv_ (eG fl_X12 124 (h1 p))))) = hset h1 aL (.inl (cL, 4, .inl (upd l k.toInt.toNat (-1)))) := by
      rw [g]
      show hset h1 aL (sI k.toNatClampNeg (Int32.ofInt (-1)) (h1 aL)) = _
      rw [hl]
      rfl
    refine ⟨fun hd => ?_, fun hd => ?_⟩
    · have hd : 0 ≤ (eI (h1 (rv_ (eG fl_X12 124 (h1 p)))) k.toNatClampNeg).toInt := hd
      rw [gi] at hd
      show if 0 ≤ k.toInt ∧ k.toInt < 4 then _ else _
      rw [if_pos hk]
      refine ⟨?_, gs⟩
      dsimp only
      rw [if_neg (by omega)]
      rfl
    · have hd : ¬ 0 ≤ (eI (h1 (rv_ (eG fl_X12 124 (h1 p)))) k.toNatClampNeg).toInt := hd
      rw [gi] at hd
      show if 0 ≤ k.toInt ∧ k.toInt < 4 then _ else _
      rw [if_pos hk]
      refine ⟨?_, gs⟩
      dsimp only
      rw [if_pos (by omega)]
      rfl
  · have hk : ¬ (0 ≤ k.toInt ∧ k.toInt < 4) := by
      intro hk
      have hc : ¬ (if 0 ≤ k.toInt ∧ k.toInt < 4 then (0 : Int32) else 1).toInt = 0 := hc
      rw [if_pos hk] at hc
      exact hc (by decide)
    show if 0 ≤ k.toInt ∧ k.toInt < 4 then _ else _
    rw [if_neg hk]
    exact ⟨rfl, rfl⟩
