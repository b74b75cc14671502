/-! the class's sheets: lose, sheet -/
theorem s_X11_lose : f_do r_X11_lose (fun As h rv h' => ∀ a : Nat × Int32 × List Value × Nat × ClassId × (Nat → Int32), As = [.ref a.1, .int a.2.1] → (h a.1 = some (.inr (11, a.2.2.1)) ∧ a.2.2.1.getD 11 .null = .ref a.2.2.2.1 ∧ h a.2.2.2.1 = some (.inl (a.2.2.2.2.1, 4, .inl a.2.2.2.2.2))) →
    if 0 ≤ a.2.1.toInt ∧ a.2.1.toInt < 4 then rv = some (.int (if (a.2.2.2.2.2 a.2.1.toInt.toNat).toInt = -1 then 0 else 1)) ∧ h' = hset h a.2.2.2.1 (.inl (a.2.2.2.2.1, 4, .inl (upd a.2.2.2.2.2 a.2.1.toInt.toNat (-1)))) else rv = some (.int (-1)) ∧ h' = h) := by
  refine do_ofP (fun a : Nat × Int32 × List Value × Nat × ClassId × (Nat → Int32) => [.ref a.1, .int a.2.1]) (fun a h => h a.1 = some (.inr (11, a.2.2.1)) ∧ a.2.2.1.getD 11 .null = .ref a.2.2.2.1 ∧ h a.2.2.2.1 = some (.inl (a.2.2.2.2.1, 4, .inl a.2.2.2.2.2)))
    (fun a h rv h' => if 0 ≤ a.2.1.toInt ∧ a.2.1.toInt < 4 then rv = some (.int (if (a.2.2.2.2.2 a.2.1.toInt.toNat).toInt = -1 then 0 else 1)) ∧ h' = hset h a.2.2.2.1 (.inl (a.2.2.2.2.1, 4, .inl (upd a.2.2.2.2.2 a.2.1.toInt.toNat (-1)))) else rv = some (.int (-1)) ∧ h' = h)
    [(292, 1, _)] (fun _ _ => []) 60 fo_X11 (List.forall_mem_cons.mpr ⟨sp_one rfl s_X11_isSheet, no_sp⟩) k_X11_lose (fun _ _ _ => no_hd) (fun a h0 hp => ?_)
  obtain ⟨p, k, fs, aL, cL, l⟩ := a
  obtain ⟨hp, hL, hl⟩ := hp
  dsimp only at hp hL hl
  intro rv h1 hc
  obtain ⟨rfl, rfl⟩ := hc k rfl trivial
  have g : eG fl_X11 77 (h1 p) = .ref aL := by rw [hp]; exact hL
  refine ⟨fun hc => ?_, fun hc => ?_⟩
  · have hk : 0 ≤ k.toInt ∧ k.toInt < 4 := by
      by_cases hk : 0 ≤ k.toInt ∧ k.toInt < 4
      · exact hk
      · have hc : ¬ (if 0 ≤ k.toInt ∧ k.toInt < 4 then (1 : Int32) else 0).toInt = 0 := hc
        rw [if_neg hk] at hc
        exact absurd rfl hc
    have gi : eI (h1 (rv_ (eG fl_X11 77 (h1 p)))) k.toNatClampNeg = l k.toInt.toNat := by
      rw [g]
      show eI (h1 aL) _ = _
      rw [hl]
      rfl
    have gs : hset h1 (rv_ (eG fl_X11 77 (h1 p))) (sI k.toNatClampNeg (Int32.ofInt (-1)) (h1 (rv_ (eG fl_X11 77 (h1 p))))) = hset h1 aL (.inl (cL, 4, .inl (upd l k.toInt.toNat (-1)))) := by
      rw [g]
      show hset h1 aL (sI k.toNatClampNeg (Int32.ofInt (-1)) (h1 aL)) = _
      rw [hl]
      rfl
    refine ⟨fun hd => ?_, fun hd => ?_⟩
    · have hd : (eI (h1 (rv_ (eG fl_X11 77 (h1 p)))) k.toNatClampNeg).toInt = (Int32.ofInt (-1)).toInt := hd
      rw [gi] at hd
      refine ⟨fun _ => ?_, fun hz => absurd rfl hz⟩
      show if 0 ≤ k.toInt ∧ k.toInt < 4 then _ else _
      rw [if_pos hk]
      refine ⟨?_, gs⟩
      have hd : (l k.toInt.toNat).toInt = -1 := hd
      rw [if_pos hd]
      rfl
    · have hd : ¬ (eI (h1 (rv_ (eG fl_X11 77 (h1 p)))) k.toNatClampNeg).toInt = (Int32.ofInt (-1)).toInt := hd
      rw [gi] at hd
      refine ⟨fun hz => absurd (show (1 : Int32).toInt = 0 from hz) (by decide), fun _ => ?_⟩
      show if 0 ≤ k.toInt ∧ k.toInt < 4 then _ else _
      rw [if_pos hk]
      refine ⟨?_, gs⟩
      have hd : ¬ (l k.toInt.toNat).toInt = -1 := hd
      rw [if_neg hd]
      rfl
  · have hk : ¬ (0 ≤ k.toInt ∧ k.toInt < 4) := by
      intro hk
      have hc : ¬ ¬ (if 0 ≤ k.toInt ∧ k.toInt < 4 then (1 : Int32) else 0).toInt = 0 := hc
      rw [if_pos hk] at hc
      exact hc (by decide)
    show if 0 ≤ k.toInt ∧ k.toInt < 4 then _ else _
    rw [if_neg hk]
    exact ⟨rfl, rfl⟩
