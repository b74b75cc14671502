/-! sets of worlds: counted, asked, compared -/
theorem fo_J13 : f_ok5 fl_J13 pl_J13 nw_J13 kl_J13 il_J13 = true := by decide +kernel
theorem s_J13_bitCount : f_do r_J13_bitCount_95d88 (fun As h rv h' => ∀ a : Int64, As = [.long a] → True → h' = h ∧ rv = some (.int (bcV a))) := by
  refine do_ofP (fun a : Int64 => [.long a]) (fun _ _ => True) (fun a h rv h' => h' = h ∧ rv = some (.int (bcV a))) [] (fun _ _ => []) 60 fo_J13 no_sp k_J13_bitCount_95d88 (fun _ _ _ => no_hd) (fun a h0 _ => ?_)
  exact ⟨rfl, rfl⟩
def in_sz (p : Nat) (f : Nat → Int64) (h0 : fH) : fL_ → List Value → fH → Prop := fun lg vs w => ∃ t : Int32, f_sub [(2, false, .int t), (1, false, .int (szA bcV f t.toInt.toNat)), (0, false, .ref p)] lg ∧ vs = [] ∧ w = h0 ∧ 0 ≤ t.toInt ∧ t.toInt ≤ 4
set_option maxHeartbeats 4000000 in
theorem s_X1_size : f_do r_X1_size (fun As h rv h' => ∀ a : bxA, As = [.ref a.1] → bx a h → h' = h ∧ rv = some (.int (szA bcV a.2.2.2.2 4))) := by
  refine do_ofP (fun a : bxA => [.ref a.1]) (fun a h => bx a h) (fun a h rv h' => h' = h ∧ rv = some (.int (szA bcV a.2.2.2.2 4))) [(139, 1, _)] (fun a h => [(4, in_sz a.1 a.2.2.2.2 h)]) 60 fo_X1 (List.forall_mem_cons.mpr ⟨sp_one rfl s_J13_bitCount, no_sp⟩) k_X1_size (fun a h0 hp => ?_) (fun a h0 hp => ?_)
  · refine List.forall_mem_cons.mpr ⟨?_, fun _ h => absurd h List.not_mem_nil⟩
    obtain ⟨p, fs, a, cA, f⟩ := a
    obtain ⟨hp, h0a, ha⟩ := hp
    have hp : h0 p = some (.inr (1, fs)) := hp
    have h0a : fs.getD 0 .null = .ref a := h0a
    have ha : h0 a = some (.inl (cA, 4, .inr (.inl f))) := ha
    rintro lg vs w ⟨t, hs, rfl, ew, t0, t4⟩
    have ew : w = h0 := ew
    have g1 : eG fl_X1 13 (w p) = .ref a := by
      rw [ew, hp, ← h0a]
      rfl
    have wa : w a = some (.inl (cA, 4, .inr (.inl f))) := by rw [ew]; exact ha
    have el : (Int32.ofNat (eL (w (rv_ (eG fl_X1 13 (w p)))))).toInt = 4 := by
      rw [g1]
      show (Int32.ofNat (eL (w a))).toInt = 4
      rw [wa]
      exact e4_
    refine ⟨_, 60, hs, fun hc => ?_, fun hc => ?_⟩
    · have hc : (Int32.ofNat (eL (w (rv_ (eG fl_X1 13 (w p)))))).toInt ≤ t.toInt := hc
      rw [el] at hc
      refine ⟨ew, ?_⟩
      show some (Value.int (szA bcV f t.toInt.toNat)) = some (.int (szA bcV f 4))
      rw [t_end t4 hc]
    · have hc : ¬ (Int32.ofNat (eL (w (rv_ (eG fl_X1 13 (w p)))))).toInt ≤ t.toInt := hc
      rw [el] at hc
      obtain ⟨i1, i2, i3⟩ := t_inc t0 (show t.toInt < 4 by omega)
      have eu : eJ (w (rv_ (eG fl_X1 13 (w p)))) t.toNatClampNeg = f t.toInt.toNat := by
        rw [g1]
        show eJ (w a) t.toInt.toNat = _
        rw [wa]
        rfl
      intro rv h1 hx
      obtain ⟨e1, rfl⟩ := hx (eJ (w (rv_ (eG fl_X1 13 (w p)))) t.toNatClampNeg) rfl trivial
      have e1 : h1 = w := e1
      refine ⟨t + 1, ⟨rfl, ?_, rfl, trivial⟩, rfl, e1.trans ew, i1, i2⟩
      show some (false, Value.int (szA bcV f t.toInt.toNat + bcV (eJ (w (rv_ (eG fl_X1 13 (w p)))) t.toNatClampNeg))) = some (false, .int (szA bcV f (t + 1).toInt.toNat))
      rw [eu, i3]
      rfl
  · obtain ⟨p, fs, a, cA, f⟩ := a
    exact ⟨0, ⟨rfl, rfl, rfl, trivial⟩, rfl, rfl, by decide, by decide⟩
def in_cb (a : Int64) (h0 : fH) : fL_ → List Value → fH → Prop := fun lg vs w => ∃ t : Int32, f_sub [(3, false, .int t), (2, false, .int (cbA a t.toInt.toNat)), (0, true, .long a)] lg ∧ vs = [] ∧ w = h0 ∧ 0 ≤ t.toInt ∧ t.toInt ≤ 64
set_option maxHeartbeats 4000000 in
theorem s_X12_countBits : f_do r_X12_countBits (fun As h rv h' => ∀ a : Int64, As = [.long a] → True → h' = h ∧ rv = some (.int (cbA a 64))) := by
  refine do_ofP (fun a : Int64 => [.long a]) (fun _ _ => True) (fun a h rv h' => h' = h ∧ rv = some (.int (cbA a 64))) [] (fun a h => [(4, in_cb a h)]) 60 fo_X12 no_sp k_X12_countBits (fun a h0 hp => ?_) (fun a h0 hp => ?_)
  · refine List.forall_mem_cons.mpr ⟨?_, fun _ h => absurd h List.not_mem_nil⟩
    rintro lg vs w ⟨t, hs, rfl, ew, t0, t4⟩
    have ew : w = h0 := ew
    have e64 : (Int32.ofInt 64).toInt = 64 := by decide
    refine ⟨_, 60, hs, fun hc => ?_, fun hc => ?_⟩
    · have hc : (Int32.ofInt 64).toInt ≤ t.toInt := hc
      rw [e64] at hc
      refine ⟨ew, ?_⟩
      show some (Value.int (cbA a t.toInt.toNat)) = some (.int (cbA a 64))
      rw [show t.toInt.toNat = 64 by omega]
    · have hc : ¬ (Int32.ofInt 64).toInt ≤ t.toInt := hc
      rw [e64] at hc
      have i0 := i_inc t0 (by omega)
      have i3 : (t + 1).toInt.toNat = t.toInt.toNat + 1 := by rw [i0]; omega
      have et : t = Int32.ofNat t.toInt.toNat := n32_of (by omega)
      refine ⟨t + 1, ⟨rfl, ?_, rfl, trivial⟩, rfl, ew, by omega, by omega⟩
      rw [i3]
      show some (false, Value.int (cbA a t.toInt.toNat + (us_ a t &&& Int64.ofNat 1).toInt32)) = some (false, .int (cbA a t.toInt.toNat + (us_ a (Int32.ofNat t.toInt.toNat) &&& Int64.ofNat 1).toInt32))
      rw [← et]
  · exact ⟨0, ⟨rfl, rfl, rfl, trivial⟩, rfl, rfl, by decide, by decide⟩
/-- the reference's sentences in its one array -/
abbrev rtA : Type := (Nat × List Value) × Nat × ClassId × (Nat → Int64)
def rt (x : rtA) (h : fH) : Prop := h x.1.1 = some (.inr (12, x.1.2)) ∧ x.1.2.getD 2 .null = .ref x.2.1 ∧ h x.2.1 = some (.inl (x.2.2.1, 240, .inr (.inl x.2.2.2)))
def rtW (g : Nat → Int64) (s : Int32) : Nat → Int64 := fun x => g (4 * s.toInt.toNat + x)
theorem rt_at {x : rtA} {h : fH} (hr : rt x h) {s t : Int32} (hs : 0 ≤ s.toInt ∧ s.toInt < 60) (t0 : 0 ≤ t.toInt) (t4 : t.toInt ≤ 4) : eJ (h (rv_ (eG fl_X12 7 (h x.1.1)))) (Int32.ofInt 4 * s + t).toNatClampNeg = rtW x.2.2.2 s t.toInt.toNat := by
  obtain ⟨hp, h2, ha⟩ := hr
  have g1 : eG fl_X12 7 (h x.1.1) = .ref x.2.1 := by
    rw [hp, ← h2]
    rfl
  rw [g1]
  show eJ (h x.2.1) (Int32.ofInt 4 * s + t).toInt.toNat = _
  rw [ha, four_ix hs t0 t4]
  rfl
def in_ca (x : rtA) (s : Int32) (h0 : fH) : fL_ → List Value → fH → Prop := fun lg vs w => ∃ t : Int32, f_sub [(3, false, .int t), (2, false, .int (szA (fun v => cbA v 64) (rtW x.2.2.2 s) t.toInt.toNat)), (0, false, .ref x.1.1), (1, false, .int s)] lg ∧ vs = [] ∧ w = h0 ∧ 0 ≤ t.toInt ∧ t.toInt ≤ 4
set_option maxHeartbeats 4000000 in
theorem s_X12_countAt : f_do r_X12_countAt (fun As h rv h' => ∀ a : rtA × Int32, As = [.ref a.1.1.1, .int a.2] → (rt a.1 h ∧ 0 ≤ a.2.toInt ∧ a.2.toInt < 60) → h' = h ∧ rv = some (.int (szA (fun v => cbA v 64) (rtW a.1.2.2.2 a.2) 4))) := by
  refine do_ofP (fun a : rtA × Int32 => [.ref a.1.1.1, .int a.2]) (fun a h => rt a.1 h ∧ 0 ≤ a.2.toInt ∧ a.2.toInt < 60) (fun a h rv h' => h' = h ∧ rv = some (.int (szA (fun v => cbA v 64) (rtW a.1.2.2.2 a.2) 4))) [(679, 1, _)] (fun a h => [(4, in_ca a.1 a.2 h)]) 60 fo_X12 (List.forall_mem_cons.mpr ⟨sp_one rfl s_X12_countBits, no_sp⟩) k_X12_countAt (fun a h0 hp => ?_) (fun a h0 hp => ?_)
  · refine List.forall_mem_cons.mpr ⟨?_, fun _ h => absurd h List.not_mem_nil⟩
    obtain ⟨x, s⟩ := a
    obtain ⟨hr, hs0⟩ := hp
    have hr : rt x h0 := hr
    have hs0 : 0 ≤ s.toInt ∧ s.toInt < 60 := hs0
    rintro lg vs w ⟨t, hs, rfl, ew, t0, t4⟩
    have ew : w = h0 := ew
    have e4 : (Int32.ofInt 4).toInt = 4 := by decide
    refine ⟨_, 60, hs, fun hc => ?_, fun hc => ?_⟩
    · have hc : (Int32.ofInt 4).toInt ≤ t.toInt := hc
      rw [e4] at hc
      refine ⟨ew, ?_⟩
      show some (Value.int (szA (fun v => cbA v 64) (rtW x.2.2.2 s) t.toInt.toNat)) = some (.int (szA (fun v => cbA v 64) (rtW x.2.2.2 s) 4))
      rw [t_end t4 hc]
    · have hc : ¬ (Int32.ofInt 4).toInt ≤ t.toInt := hc
      rw [e4] at hc
      obtain ⟨i1, i2, i3⟩ := t_inc t0 (show t.toInt < 4 by omega)
      have eu := rt_at (h := w) (by rw [ew]; exact hr) hs0 t0 t4
      intro rv h1 hx
      obtain ⟨e1, rfl⟩ := hx (eJ (w (rv_ (eG fl_X12 7 (w x.1.1)))) (Int32.ofInt 4 * s + t).toNatClampNeg) rfl trivial
      have e1 : h1 = w := e1
      refine ⟨t + 1, ⟨rfl, ?_, rfl, rfl, trivial⟩, rfl, e1.trans ew, i1, i2⟩
      show some (false, Value.int (szA (fun v => cbA v 64) (rtW x.2.2.2 s) t.toInt.toNat + cbA (eJ (w (rv_ (eG fl_X12 7 (w x.1.1)))) (Int32.ofInt 4 * s + t).toNatClampNeg) 64)) = some (false, .int (szA (fun v => cbA v 64) (rtW x.2.2.2 s) (t + 1).toInt.toNat))
      rw [eu, i3]
      rfl
  · exact ⟨0, ⟨rfl, rfl, rfl, rfl, trivial⟩, rfl, rfl, by decide, by decide⟩
/-- word by word -/
def o_in (u v : Int64) : Int64 := u &&& (v ^^^ m1_)
def allB (o : Int64 → Int64 → Int64) (f f2 : Nat → Int64) : Nat → Bool
  | 0 => true
  | k + 1 => allB o f f2 k && decide ((o (f k) (f2 k)).toInt = (Int64.ofNat 0).toInt)
theorem allB_eq {o : Int64 → Int64 → Int64} {f f2 g g2 : Nat → Int64} : ∀ {k : Nat}, (∀ x, x < k → f x = g x) → (∀ x, x < k → f2 x = g2 x) → allB o f f2 k = allB o g g2 k
  | 0, _, _ => rfl
  | k + 1, h, h2 => by
    show (allB o f f2 k && decide ((o (f k) (f2 k)).toInt = (Int64.ofNat 0).toInt)) = (allB o g g2 k && decide ((o (g k) (g2 k)).toInt = (Int64.ofNat 0).toInt))
    rw [allB_eq (fun x hx => h x (by omega)) (fun x hx => h2 x (by omega)), h k (by omega), h2 k (by omega)]
theorem allB_s {o : Int64 → Int64 → Int64} {f f2 : Nat → Int64} {k : Nat} (h : allB o f f2 k = true) : allB o f f2 (k + 1) = decide ((o (f k) (f2 k)).toInt = (Int64.ofNat 0).toInt) := by
  show (allB o f f2 k && _) = _
  rw [h, Bool.true_and]
theorem allB_n {o : Int64 → Int64 → Int64} {f f2 : Nat → Int64} {k : Nat} : ∀ {m : Nat}, allB o f f2 k = false → allB o f f2 (k + m) = false
  | 0, h => h
  | m + 1, h => by
    show (allB o f f2 (k + m) && _) = false
    rw [allB_n h, Bool.false_and]
theorem wv_0 {b : Bool} (h : (wv b).toInt = 0) : b = false := by
  cases b with
  | false => rfl
  | true => exact absurd h (by decide)
theorem wv_1 {b : Bool} (h : ¬ (wv b).toInt = 0) : b = true := by
  cases b with
  | true => rfl
  | false => exact absurd (by decide) h
def in_al (o : Int64 → Int64 → Int64) (p p2 : Nat) (f f2 : Nat → Int64) (h0 : fH) : fL_ → List Value → fH → Prop := fun lg vs w => ∃ t : Int32, f_sub [(2, false, .int t), (0, false, .ref p), (1, false, .ref p2)] lg ∧ vs = [] ∧ w = h0 ∧ 0 ≤ t.toInt ∧ t.toInt ≤ 4 ∧ allB o f f2 t.toInt.toNat = true
def in_rl (o : Int64 → Int64 → Int64) (x : rtA) (a b : Int32) (h0 : fH) : fL_ → List Value → fH → Prop := fun lg vs w => ∃ t : Int32, f_sub [(4, false, .int t), (3, false, .int (wv (allB o (rtW x.2.2.2 a) (rtW x.2.2.2 b) t.toInt.toNat))), (0, false, .ref x.1.1), (1, false, .int a), (2, false, .int b)] lg ∧ vs = [] ∧ w = h0 ∧ 0 ≤ t.toInt ∧ t.toInt ≤ 4
set_option maxHeartbeats 4000000 in
theorem s_X1_within : f_do r_X1_within (fun As h rv h' => ∀ a : bxA × bxA, As = [.ref a.1.1, .ref a.2.1] → (bx a.1 h ∧ bx a.2 h) → h' = h ∧ rv = some (.int (wv (allB o_in a.1.2.2.2.2 a.2.2.2.2.2 4)))) := by
  refine do_ofP (fun a : bxA × bxA => [.ref a.1.1, .ref a.2.1]) (fun a h => bx a.1 h ∧ bx a.2 h) (fun a h rv h' => h' = h ∧ rv = some (.int (wv (allB o_in a.1.2.2.2.2 a.2.2.2.2.2 4)))) [] (fun a h => [(2, in_al o_in a.1.1 a.2.1 a.1.2.2.2.2 a.2.2.2.2.2 h)]) 60 fo_X1 no_sp k_X1_within (fun a h0 hp => ?_) (fun a h0 hp => ?_)
  · refine List.forall_mem_cons.mpr ⟨?_, fun _ h => absurd h List.not_mem_nil⟩
    obtain ⟨⟨p, fs, a, cA, f⟩, ⟨p2, fs2, a2, cA2, f2⟩⟩ := a
    obtain ⟨⟨hp, h0a, ha⟩, ⟨hp2, h0a2, ha2⟩⟩ := hp
    have hp : h0 p = some (.inr (1, fs)) := hp
    have h0a : fs.getD 0 .null = .ref a := h0a
    have ha : h0 a = some (.inl (cA, 4, .inr (.inl f))) := ha
    have hp2 : h0 p2 = some (.inr (1, fs2)) := hp2
    have h0a2 : fs2.getD 0 .null = .ref a2 := h0a2
    have ha2 : h0 a2 = some (.inl (cA2, 4, .inr (.inl f2))) := ha2
    rintro lg vs w ⟨t, hs, rfl, ew, t0, t4, hB⟩
    have ew : w = h0 := ew
    have hB : allB o_in f f2 t.toInt.toNat = true := hB
    have g1 : eG fl_X1 13 (w p) = .ref a := by
      rw [ew, hp, ← h0a]
      rfl
    have g2 : eG fl_X1 13 (w p2) = .ref a2 := by
      rw [ew, hp2, ← h0a2]
      rfl
    have el : (Int32.ofNat (eL (w (rv_ (eG fl_X1 13 (w p)))))).toInt = 4 := by
      rw [g1]
      show (Int32.ofNat (eL (w a))).toInt = 4
      rw [ew, ha]
      exact e4_
    have el2 : (Int32.ofNat (eL (w (rv_ (eG fl_X1 13 (w p2)))))).toInt = 4 := by
      rw [g2]
      show (Int32.ofNat (eL (w a2))).toInt = 4
      rw [ew, ha2]
      exact e4_
    have eu : eJ (w (rv_ (eG fl_X1 13 (w p)))) t.toNatClampNeg = f t.toInt.toNat := by
      rw [g1]
      show eJ (w a) t.toInt.toNat = _
      rw [ew, ha]
      rfl
    have eu2 : eJ (w (rv_ (eG fl_X1 13 (w p2)))) t.toNatClampNeg = f2 t.toInt.toNat := by
      rw [g2]
      show eJ (w a2) t.toInt.toNat = _
      rw [ew, ha2]
      rfl
    have yes : 4 ≤ t.toInt → w = h0 ∧ some (Value.int 1) = some (.int (wv (allB o_in f f2 4))) := fun hc => by
      refine ⟨ew, ?_⟩
      rw [t_end t4 hc] at hB
      rw [hB]
      rfl
    refine ⟨_, 60, hs, fun hc => ?_, fun hc => ⟨fun hd => ?_, fun hd => ⟨fun he => ?_, fun he => ?_⟩⟩⟩
    · have hc : (Int32.ofNat (eL (w (rv_ (eG fl_X1 13 (w p)))))).toInt ≤ t.toInt := hc
      rw [el] at hc
      exact yes hc
    · have hd : (Int32.ofNat (eL (w (rv_ (eG fl_X1 13 (w p2)))))).toInt ≤ t.toInt := hd
      rw [el2] at hd
      exact yes hd
    · have hc : ¬ (Int32.ofNat (eL (w (rv_ (eG fl_X1 13 (w p)))))).toInt ≤ t.toInt := hc
      rw [el] at hc
      obtain ⟨i1, i2, i3⟩ := t_inc t0 (show t.toInt < 4 by omega)
      have he : ck_cm .eq (lg_cmp (eJ (w (rv_ (eG fl_X1 13 (w p)))) t.toNatClampNeg &&& (eJ (w (rv_ (eG fl_X1 13 (w p2)))) t.toNatClampNeg ^^^ m1_)) (Int64.ofNat 0)).toInt 0 := he
      have he : ((eJ (w (rv_ (eG fl_X1 13 (w p)))) t.toNatClampNeg &&& (eJ (w (rv_ (eG fl_X1 13 (w p2)))) t.toNatClampNeg ^^^ m1_))).toInt = (Int64.ofNat 0).toInt := ck_cm_lg.mp he
      rw [eu, eu2] at he
      refine ⟨t + 1, ⟨rfl, rfl, rfl, trivial⟩, rfl, ew, i1, i2, ?_⟩
      show allB o_in f f2 (t + 1).toInt.toNat = true
      rw [i3, allB_s hB]
      exact decide_eq_true he
    · have hc : ¬ (Int32.ofNat (eL (w (rv_ (eG fl_X1 13 (w p)))))).toInt ≤ t.toInt := hc
      rw [el] at hc
      have he : ¬ ck_cm .eq (lg_cmp (eJ (w (rv_ (eG fl_X1 13 (w p)))) t.toNatClampNeg &&& (eJ (w (rv_ (eG fl_X1 13 (w p2)))) t.toNatClampNeg ^^^ m1_)) (Int64.ofNat 0)).toInt 0 := he
      have he : ¬ ((eJ (w (rv_ (eG fl_X1 13 (w p)))) t.toNatClampNeg &&& (eJ (w (rv_ (eG fl_X1 13 (w p2)))) t.toNatClampNeg ^^^ m1_))).toInt = (Int64.ofNat 0).toInt := fun z => he (ck_cm_lg.mpr z)
      rw [eu, eu2] at he
      have hn : allB o_in f f2 (t.toInt.toNat + 1) = false := by
        rw [allB_s hB]
        exact decide_eq_false he
      have h4 : allB o_in f f2 4 = false := by
        rw [show 4 = t.toInt.toNat + 1 + (3 - t.toInt.toNat) by omega]
        exact allB_n hn
      refine ⟨ew, ?_⟩
      show some (Value.int 0) = some (.int (wv (allB o_in f f2 4)))
      rw [h4]
      rfl
  · exact ⟨0, ⟨rfl, rfl, rfl, trivial⟩, rfl, rfl, by decide, by decide, rfl⟩
set_option maxHeartbeats 4000000 in
theorem s_X1_apart : f_do r_X1_apart (fun As h rv h' => ∀ a : bxA × bxA, As = [.ref a.1.1, .ref a.2.1] → (bx a.1 h ∧ bx a.2 h) → h' = h ∧ rv = some (.int (wv (allB o_meet a.1.2.2.2.2 a.2.2.2.2.2 4)))) := by
  refine do_ofP (fun a : bxA × bxA => [.ref a.1.1, .ref a.2.1]) (fun a h => bx a.1 h ∧ bx a.2 h) (fun a h rv h' => h' = h ∧ rv = some (.int (wv (allB o_meet a.1.2.2.2.2 a.2.2.2.2.2 4)))) [] (fun a h => [(2, in_al o_meet a.1.1 a.2.1 a.1.2.2.2.2 a.2.2.2.2.2 h)]) 60 fo_X1 no_sp k_X1_apart (fun a h0 hp => ?_) (fun a h0 hp => ?_)
  · refine List.forall_mem_cons.mpr ⟨?_, fun _ h => absurd h List.not_mem_nil⟩
    obtain ⟨⟨p, fs, a, cA, f⟩, ⟨p2, fs2, a2, cA2, f2⟩⟩ := a
    obtain ⟨⟨hp, h0a, ha⟩, ⟨hp2, h0a2, ha2⟩⟩ := hp
    have hp : h0 p = some (.inr (1, fs)) := hp
    have h0a : fs.getD 0 .null = .ref a := h0a
    have ha : h0 a = some (.inl (cA, 4, .inr (.inl f))) := ha
    have hp2 : h0 p2 = some (.inr (1, fs2)) := hp2
    have h0a2 : fs2.getD 0 .null = .ref a2 := h0a2
    have ha2 : h0 a2 = some (.inl (cA2, 4, .inr (.inl f2))) := ha2
    rintro lg vs w ⟨t, hs, rfl, ew, t0, t4, hB⟩
    have ew : w = h0 := ew
    have hB : allB o_meet f f2 t.toInt.toNat = true := hB
    have g1 : eG fl_X1 13 (w p) = .ref a := by
      rw [ew, hp, ← h0a]
      rfl
    have g2 : eG fl_X1 13 (w p2) = .ref a2 := by
      rw [ew, hp2, ← h0a2]
      rfl
    have el : (Int32.ofNat (eL (w (rv_ (eG fl_X1 13 (w p)))))).toInt = 4 := by
      rw [g1]
      show (Int32.ofNat (eL (w a))).toInt = 4
      rw [ew, ha]
      exact e4_
    have el2 : (Int32.ofNat (eL (w (rv_ (eG fl_X1 13 (w p2)))))).toInt = 4 := by
      rw [g2]
      show (Int32.ofNat (eL (w a2))).toInt = 4
      rw [ew, ha2]
      exact e4_
    have eu : eJ (w (rv_ (eG fl_X1 13 (w p)))) t.toNatClampNeg = f t.toInt.toNat := by
      rw [g1]
      show eJ (w a) t.toInt.toNat = _
      rw [ew, ha]
      rfl
    have eu2 : eJ (w (rv_ (eG fl_X1 13 (w p2)))) t.toNatClampNeg = f2 t.toInt.toNat := by
      rw [g2]
      show eJ (w a2) t.toInt.toNat = _
      rw [ew, ha2]
      rfl
    have yes : 4 ≤ t.toInt → w = h0 ∧ some (Value.int 1) = some (.int (wv (allB o_meet f f2 4))) := fun hc => by
      refine ⟨ew, ?_⟩
      rw [t_end t4 hc] at hB
      rw [hB]
      rfl
    refine ⟨_, 60, hs, fun hc => ?_, fun hc => ⟨fun hd => ?_, fun hd => ⟨fun he => ?_, fun he => ?_⟩⟩⟩
    · have hc : (Int32.ofNat (eL (w (rv_ (eG fl_X1 13 (w p)))))).toInt ≤ t.toInt := hc
      rw [el] at hc
      exact yes hc
    · have hd : (Int32.ofNat (eL (w (rv_ (eG fl_X1 13 (w p2)))))).toInt ≤ t.toInt := hd
      rw [el2] at hd
      exact yes hd
    · have hc : ¬ (Int32.ofNat (eL (w (rv_ (eG fl_X1 13 (w p)))))).toInt ≤ t.toInt := hc
      rw [el] at hc
      obtain ⟨i1, i2, i3⟩ := t_inc t0 (show t.toInt < 4 by omega)
      have he : ck_cm .eq (lg_cmp (eJ (w (rv_ (eG fl_X1 13 (w p)))) t.toNatClampNeg &&& eJ (w (rv_ (eG fl_X1 13 (w p2)))) t.toNatClampNeg) (Int64.ofNat 0)).toInt 0 := he
      have he : ((eJ (w (rv_ (eG fl_X1 13 (w p)))) t.toNatClampNeg &&& eJ (w (rv_ (eG fl_X1 13 (w p2)))) t.toNatClampNeg)).toInt = (Int64.ofNat 0).toInt := ck_cm_lg.mp he
      rw [eu, eu2] at he
      refine ⟨t + 1, ⟨rfl, rfl, rfl, trivial⟩, rfl, ew, i1, i2, ?_⟩
      show allB o_meet f f2 (t + 1).toInt.toNat = true
      rw [i3, allB_s hB]
      exact decide_eq_true he
    · have hc : ¬ (Int32.ofNat (eL (w (rv_ (eG fl_X1 13 (w p)))))).toInt ≤ t.toInt := hc
      rw [el] at hc
      have he : ¬ ck_cm .eq (lg_cmp (eJ (w (rv_ (eG fl_X1 13 (w p)))) t.toNatClampNeg &&& eJ (w (rv_ (eG fl_X1 13 (w p2)))) t.toNatClampNeg) (Int64.ofNat 0)).toInt 0 := he
      have he : ¬ ((eJ (w (rv_ (eG fl_X1 13 (w p)))) t.toNatClampNeg &&& eJ (w (rv_ (eG fl_X1 13 (w p2)))) t.toNatClampNeg)).toInt = (Int64.ofNat 0).toInt := fun z => he (ck_cm_lg.mpr z)
      rw [eu, eu2] at he
      have hn : allB o_meet f f2 (t.toInt.toNat + 1) = false := by
        rw [allB_s hB]
        exact decide_eq_false he
      have h4 : allB o_meet f f2 4 = false := by
        rw [show 4 = t.toInt.toNat + 1 + (3 - t.toInt.toNat) by omega]
        exact allB_n hn
      refine ⟨ew, ?_⟩
      show some (Value.int 0) = some (.int (wv (allB o_meet f f2 4)))
      rw [h4]
      rfl
  · exact ⟨0, ⟨rfl, rfl, rfl, trivial⟩, rfl, rfl, by decide, by decide, rfl⟩
set_option maxHeartbeats 4000000 in
theorem s_X12_isWithin : f_do r_X12_isWithin (fun As h rv h' => ∀ a : rtA × Int32 × Int32, As = [.ref a.1.1.1, .int a.2.1, .int a.2.2] → (rt a.1 h ∧ (0 ≤ a.2.1.toInt ∧ a.2.1.toInt < 60) ∧ (0 ≤ a.2.2.toInt ∧ a.2.2.toInt < 60)) → h' = h ∧ rv = some (.int (wv (allB o_in (rtW a.1.2.2.2 a.2.1) (rtW a.1.2.2.2 a.2.2) 4)))) := by
  refine do_ofP (fun a : rtA × Int32 × Int32 => [.ref a.1.1.1, .int a.2.1, .int a.2.2]) (fun a h => rt a.1 h ∧ (0 ≤ a.2.1.toInt ∧ a.2.1.toInt < 60) ∧ (0 ≤ a.2.2.toInt ∧ a.2.2.toInt < 60)) (fun a h rv h' => h' = h ∧ rv = some (.int (wv (allB o_in (rtW a.1.2.2.2 a.2.1) (rtW a.1.2.2.2 a.2.2) 4)))) [] (fun a h => [(5, in_rl o_in a.1 a.2.1 a.2.2 h)]) 60 fo_X12 no_sp k_X12_isWithin (fun a h0 hp => ?_) (fun a h0 hp => ?_)
  · refine List.forall_mem_cons.mpr ⟨?_, fun _ h => absurd h List.not_mem_nil⟩
    obtain ⟨x, a, b⟩ := a
    obtain ⟨hr, ha, hb⟩ := hp
    have hr : rt x h0 := hr
    have ha : 0 ≤ a.toInt ∧ a.toInt < 60 := ha
    have hb : 0 ≤ b.toInt ∧ b.toInt < 60 := hb
    rintro lg vs w ⟨t, hs, rfl, ew, t0, t4⟩
    have ew : w = h0 := ew
    have e4 : (Int32.ofInt 4).toInt = 4 := by decide
    have hrw : rt x w := by rw [ew]; exact hr
    have eu := rt_at hrw ha t0 t4
    have eu2 := rt_at hrw hb t0 t4
    refine ⟨_, 80, hs, fun hc => ?_, fun hc => ⟨fun hd => ?_, fun hd => ⟨fun he => ?_, fun he => ?_⟩⟩⟩
    · have hc : (Int32.ofInt 4).toInt ≤ t.toInt := hc
      rw [e4] at hc
      refine ⟨ew, ?_⟩
      show some (Value.int (wv (allB o_in (rtW x.2.2.2 a) (rtW x.2.2.2 b) t.toInt.toNat))) = some (.int (wv (allB o_in (rtW x.2.2.2 a) (rtW x.2.2.2 b) 4)))
      rw [t_end t4 hc]
    · have hc : ¬ (Int32.ofInt 4).toInt ≤ t.toInt := hc
      rw [e4] at hc
      obtain ⟨i1, i2, i3⟩ := t_inc t0 (show t.toInt < 4 by omega)
      have hd : (wv (allB o_in (rtW x.2.2.2 a) (rtW x.2.2.2 b) t.toInt.toNat)).toInt = 0 := hd
      have hn := allB_n (m := 1) (wv_0 hd)
      refine ⟨t + 1, ⟨rfl, ?_, rfl, rfl, rfl, trivial⟩, rfl, ew, i1, i2⟩
      show some (false, Value.int 0) = some (false, .int (wv (allB o_in (rtW x.2.2.2 a) (rtW x.2.2.2 b) (t + 1).toInt.toNat)))
      rw [i3, hn]
      rfl
    · have hc : ¬ (Int32.ofInt 4).toInt ≤ t.toInt := hc
      rw [e4] at hc
      obtain ⟨i1, i2, i3⟩ := t_inc t0 (show t.toInt < 4 by omega)
      have hd : ¬ (wv (allB o_in (rtW x.2.2.2 a) (rtW x.2.2.2 b) t.toInt.toNat)).toInt = 0 := hd
      have hB := wv_1 hd
      have he : ck_cm .ne (lg_cmp (eJ (w (rv_ (eG fl_X12 7 (w x.1.1)))) (Int32.ofInt 4 * a + t).toNatClampNeg &&& (eJ (w (rv_ (eG fl_X12 7 (w x.1.1)))) (Int32.ofInt 4 * b + t).toNatClampNeg ^^^ m1_)) (Int64.ofNat 0)).toInt 0 := he
      have he : ¬ ((eJ (w (rv_ (eG fl_X12 7 (w x.1.1)))) (Int32.ofInt 4 * a + t).toNatClampNeg &&& (eJ (w (rv_ (eG fl_X12 7 (w x.1.1)))) (Int32.ofInt 4 * b + t).toNatClampNeg ^^^ m1_))).toInt = (Int64.ofNat 0).toInt := ck_cm_lg.mp he
      rw [eu, eu2] at he
      refine ⟨t + 1, ⟨rfl, ?_, rfl, rfl, rfl, trivial⟩, rfl, ew, i1, i2⟩
      show some (false, Value.int 0) = some (false, .int (wv (allB o_in (rtW x.2.2.2 a) (rtW x.2.2.2 b) (t + 1).toInt.toNat)))
      rw [i3, allB_s hB, show decide ((o_in (rtW x.2.2.2 a t.toInt.toNat) (rtW x.2.2.2 b t.toInt.toNat)).toInt = (Int64.ofNat 0).toInt) = false from decide_eq_false he]
      rfl
    · have hc : ¬ (Int32.ofInt 4).toInt ≤ t.toInt := hc
      rw [e4] at hc
      obtain ⟨i1, i2, i3⟩ := t_inc t0 (show t.toInt < 4 by omega)
      have hd : ¬ (wv (allB o_in (rtW x.2.2.2 a) (rtW x.2.2.2 b) t.toInt.toNat)).toInt = 0 := hd
      have hB := wv_1 hd
      have he : ¬ ck_cm .ne (lg_cmp (eJ (w (rv_ (eG fl_X12 7 (w x.1.1)))) (Int32.ofInt 4 * a + t).toNatClampNeg &&& (eJ (w (rv_ (eG fl_X12 7 (w x.1.1)))) (Int32.ofInt 4 * b + t).toNatClampNeg ^^^ m1_)) (Int64.ofNat 0)).toInt 0 := he
      have he : ((eJ (w (rv_ (eG fl_X12 7 (w x.1.1)))) (Int32.ofInt 4 * a + t).toNatClampNeg &&& (eJ (w (rv_ (eG fl_X12 7 (w x.1.1)))) (Int32.ofInt 4 * b + t).toNatClampNeg ^^^ m1_))).toInt = (Int64.ofNat 0).toInt := Classical.byContradiction fun z => he (ck_cm_lg.mpr z)
      rw [eu, eu2] at he
      refine ⟨t + 1, ⟨rfl, ?_, rfl, rfl, rfl, trivial⟩, rfl, ew, i1, i2⟩
      show some (false, Value.int 1) = some (false, .int (wv (allB o_in (rtW x.2.2.2 a) (rtW x.2.2.2 b) (t + 1).toInt.toNat)))
      rw [i3, allB_s hB, show decide ((o_in (rtW x.2.2.2 a t.toInt.toNat) (rtW x.2.2.2 b t.toInt.toNat)).toInt = (Int64.ofNat 0).toInt) = true from decide_eq_true he]
      rfl
  · exact ⟨0, ⟨rfl, rfl, rfl, rfl, rfl, trivial⟩, rfl, rfl, by decide, by decide⟩
set_option maxHeartbeats 4000000 in
theorem s_X12_areApart : f_do r_X12_areApart (fun As h rv h' => ∀ a : rtA × Int32 × Int32, As = [.ref a.1.1.1, .int a.2.1, .int a.2.2] → (rt a.1 h ∧ (0 ≤ a.2.1.toInt ∧ a.2.1.toInt < 60) ∧ (0 ≤ a.2.2.toInt ∧ a.2.2.toInt < 60)) → h' = h ∧ rv = some (.int (wv (allB o_meet (rtW a.1.2.2.2 a.2.1) (rtW a.1.2.2.2 a.2.2) 4)))) := by
  refine do_ofP (fun a : rtA × Int32 × Int32 => [.ref a.1.1.1, .int a.2.1, .int a.2.2]) (fun a h => rt a.1 h ∧ (0 ≤ a.2.1.toInt ∧ a.2.1.toInt < 60) ∧ (0 ≤ a.2.2.toInt ∧ a.2.2.toInt < 60)) (fun a h rv h' => h' = h ∧ rv = some (.int (wv (allB o_meet (rtW a.1.2.2.2 a.2.1) (rtW a.1.2.2.2 a.2.2) 4)))) [] (fun a h => [(5, in_rl o_meet a.1 a.2.1 a.2.2 h)]) 60 fo_X12 no_sp k_X12_areApart (fun a h0 hp => ?_) (fun a h0 hp => ?_)
  · refine List.forall_mem_cons.mpr ⟨?_, fun _ h => absurd h List.not_mem_nil⟩
    obtain ⟨x, a, b⟩ := a
    obtain ⟨hr, ha, hb⟩ := hp
    have hr : rt x h0 := hr
    have ha : 0 ≤ a.toInt ∧ a.toInt < 60 := ha
    have hb : 0 ≤ b.toInt ∧ b.toInt < 60 := hb
    rintro lg vs w ⟨t, hs, rfl, ew, t0, t4⟩
    have ew : w = h0 := ew
    have e4 : (Int32.ofInt 4).toInt = 4 := by decide
    have hrw : rt x w := by rw [ew]; exact hr
    have eu := rt_at hrw ha t0 t4
    have eu2 := rt_at hrw hb t0 t4
    refine ⟨_, 80, hs, fun hc => ?_, fun hc => ⟨fun hd => ?_, fun hd => ⟨fun he => ?_, fun he => ?_⟩⟩⟩
    · have hc : (Int32.ofInt 4).toInt ≤ t.toInt := hc
      rw [e4] at hc
      refine ⟨ew, ?_⟩
      show some (Value.int (wv (allB o_meet (rtW x.2.2.2 a) (rtW x.2.2.2 b) t.toInt.toNat))) = some (.int (wv (allB o_meet (rtW x.2.2.2 a) (rtW x.2.2.2 b) 4)))
      rw [t_end t4 hc]
    · have hc : ¬ (Int32.ofInt 4).toInt ≤ t.toInt := hc
      rw [e4] at hc
      obtain ⟨i1, i2, i3⟩ := t_inc t0 (show t.toInt < 4 by omega)
      have hd : (wv (allB o_meet (rtW x.2.2.2 a) (rtW x.2.2.2 b) t.toInt.toNat)).toInt = 0 := hd
      have hn := allB_n (m := 1) (wv_0 hd)
      refine ⟨t + 1, ⟨rfl, ?_, rfl, rfl, rfl, trivial⟩, rfl, ew, i1, i2⟩
      show some (false, Value.int 0) = some (false, .int (wv (allB o_meet (rtW x.2.2.2 a) (rtW x.2.2.2 b) (t + 1).toInt.toNat)))
      rw [i3, hn]
      rfl
    · have hc : ¬ (Int32.ofInt 4).toInt ≤ t.toInt := hc
      rw [e4] at hc
      obtain ⟨i1, i2, i3⟩ := t_inc t0 (show t.toInt < 4 by omega)
      have hd : ¬ (wv (allB o_meet (rtW x.2.2.2 a) (rtW x.2.2.2 b) t.toInt.toNat)).toInt = 0 := hd
      have hB := wv_1 hd
      have he : ck_cm .ne (lg_cmp (eJ (w (rv_ (eG fl_X12 7 (w x.1.1)))) (Int32.ofInt 4 * a + t).toNatClampNeg &&& eJ (w (rv_ (eG fl_X12 7 (w x.1.1)))) (Int32.ofInt 4 * b + t).toNatClampNeg) (Int64.ofNat 0)).toInt 0 := he
      have he : ¬ ((eJ (w (rv_ (eG fl_X12 7 (w x.1.1)))) (Int32.ofInt 4 * a + t).toNatClampNeg &&& eJ (w (rv_ (eG fl_X12 7 (w x.1.1)))) (Int32.ofInt 4 * b + t).toNatClampNeg)).toInt = (Int64.ofNat 0).toInt := ck_cm_lg.mp he
      rw [eu, eu2] at he
      refine ⟨t + 1, ⟨rfl, ?_, rfl, rfl, rfl, trivial⟩, rfl, ew, i1, i2⟩
      show some (false, Value.int 0) = some (false, .int (wv (allB o_meet (rtW x.2.2.2 a) (rtW x.2.2.2 b) (t + 1).toInt.toNat)))
      rw [i3, allB_s hB, show decide ((o_meet (rtW x.2.2.2 a t.toInt.toNat) (rtW x.2.2.2 b t.toInt.toNat)).toInt = (Int64.ofNat 0).toInt) = false from decide_eq_false he]
      rfl
    · have hc : ¬ (Int32.ofInt 4).toInt ≤ t.toInt := hc
      rw [e4] at hc
      obtain ⟨i1, i2, i3⟩ := t_inc t0 (show t.toInt < 4 by omega)
      have hd : ¬ (wv (allB o_meet (rtW x.2.2.2 a) (rtW x.2.2.2 b) t.toInt.toNat)).toInt = 0 := hd
      have hB := wv_1 hd
      have he : ¬ ck_cm .ne (lg_cmp (eJ (w (rv_ (eG fl_X12 7 (w x.1.1)))) (Int32.ofInt 4 * a + t).toNatClampNeg &&& eJ (w (rv_ (eG fl_X12 7 (w x.1.1)))) (Int32.ofInt 4 * b + t).toNatClampNeg) (Int64.ofNat 0)).toInt 0 := he
      have he : ((eJ (w (rv_ (eG fl_X12 7 (w x.1.1)))) (Int32.ofInt 4 * a + t).toNatClampNeg &&& eJ (w (rv_ (eG fl_X12 7 (w x.1.1)))) (Int32.ofInt 4 * b + t).toNatClampNeg)).toInt = (Int64.ofNat 0).toInt := Classical.byContradiction fun z => he (ck_cm_lg.mpr z)
      rw [eu, eu2] at he
      refine ⟨t + 1, ⟨rfl, ?_, rfl, rfl, rfl, trivial⟩, rfl, ew, i1, i2⟩
      show some (false, Value.int 1) = some (false, .int (wv (allB o_meet (rtW x.2.2.2 a) (rtW x.2.2.2 b) (t + 1).toInt.toNat)))
      rw [i3, allB_s hB, show decide ((o_meet (rtW x.2.2.2 a t.toInt.toNat) (rtW x.2.2.2 b t.toInt.toNat)).toInt = (Int64.ofNat 0).toInt) = true from decide_eq_true he]
      rfl
  · exact ⟨0, ⟨rfl, rfl, rfl, rfl, rfl, trivial⟩, rfl, rfl, by decide, by decide⟩
