/-! texts: what both parsers take -/
abbrev okc (c : Int32) : Prop := (97 ≤ c.toInt ∧ c.toInt ≤ 104) ∨ c.toInt = 48 ∨ c.toInt = 49
def stA (s : Bool × Nat) (c : Int32) : Option (Bool × Nat) := match s.1 with
  | true => if c.toInt = 40 then some (true, s.2 + 1) else if okc c then some (false, s.2) else if c.toInt = 45 then some (true, s.2) else none
  | false => if c.toInt = 38 ∨ c.toInt = 124 ∨ c.toInt = 62 then some (true, s.2) else if c.toInt = 41 ∧ 0 < s.2 then some (false, s.2 - 1) else none
/-- the place of the first fault; -1: none -/
def acA (g : Nat → Int32) : Nat → Nat → Bool × Nat → Int
  | 0, i, s => if s.1 = true ∨ 0 < s.2 then i else -1
  | m + 1, i, s => match stA s (g i) with
    | some s' => acA g m (i + 1) s'
    | none => i
theorem acA_eq {g g' : Nat → Int32} : ∀ {m i : Nat} {s : Bool × Nat}, (∀ x, i ≤ x → x < i + m → g x = g' x) → acA g m i s = acA g' m i s
  | 0, _, _, _ => rfl
  | m + 1, i, s, h => by
    unfold acA
    rw [h i (Nat.le_refl _) (by omega)]
    split
    · exact acA_eq (fun x h1 h2 => h x (by omega) (by omega))
    · rfl
theorem acA_go {g : Nat → Int32} {N I : Nat} {s s' : Bool × Nat} {t : Int} (h : acA g (N - I) I s = t) (hI : I < N) (hs : stA s (g I) = some s') : acA g (N - (I + 1)) (I + 1) s' = t := by
  rw [← h, show N - I = (N - (I + 1)) + 1 by omega]
  show _ = (match stA s (g I) with
    | some s' => acA g (N - (I + 1)) (I + 1) s'
    | none => (I : Int))
  rw [hs]
theorem acA_no {g : Nat → Int32} {N I : Nat} {s : Bool × Nat} {t : Int} (h : acA g (N - I) I s = t) (hI : I < N) (hs : stA s (g I) = none) : (I : Int) = t := by
  rw [← h, show N - I = (N - (I + 1)) + 1 by omega]
  show _ = (match stA s (g I) with
    | some s' => acA g (N - (I + 1)) (I + 1) s'
    | none => (I : Int))
  rw [hs]
theorem acA_end {g : Nat → Int32} {N : Nat} {s : Bool × Nat} {t : Int} (h : acA g (N - N) N s = t) : t = if s.1 = true ∨ 0 < s.2 then (N : Int) else -1 := by
  rw [← h, Nat.sub_self]
  rfl
def wv : Bool → Int32
  | true => 1
  | false => 0
def rkc (c : Int32) : Int32 := if c.toInt = 38 then 3 else if c.toInt = 124 then 2 else if c.toInt = 62 then 1 else 0
theorem rkc_pos {c : Int32} : (rkc c).toInt ≤ 0 ↔ ¬ (c.toInt = 38 ∨ c.toInt = 124 ∨ c.toInt = 62) := by
  unfold rkc
  by_cases h1 : c.toInt = 38
  · rw [if_pos h1]
    exact ⟨fun h => absurd h (by decide), fun h => absurd (Or.inl h1) h⟩
  · rw [if_neg h1]
    by_cases h2 : c.toInt = 124
    · rw [if_pos h2]
      exact ⟨fun h => absurd h (by decide), fun h => absurd (Or.inr (Or.inl h2)) h⟩
    · rw [if_neg h2]
      by_cases h3 : c.toInt = 62
      · rw [if_pos h3]
        exact ⟨fun h => absurd h (by decide), fun h => absurd (Or.inr (Or.inr h3)) h⟩
      · rw [if_neg h3]
        exact ⟨fun _ z => by omega, fun _ => by decide⟩
theorem fo_X7 : f_ok5 fl_X7 pl_X7 nw_X7 kl_X7 il_X7 = true := by decide +kernel
theorem s_X7_isOperand : f_do r_X7_isOperand (fun As h rv h' => ∀ c : Int32, As = [.int c] → True → h' = h ∧ rv = some (.int (if okc c then 1 else 0))) := by
  refine do_ofP (fun c : Int32 => [.int c]) (fun _ _ => True) (fun c h rv h' => h' = h ∧ rv = some (.int (if okc c then 1 else 0))) [] (fun _ _ => []) 40 fo_X7 no_sp k_X7_isOperand (fun _ _ _ => no_hd) (fun c h0 _ => ?_)
  have e97 : (97 : Int32).toInt = 97 := by decide
  have e104 : (104 : Int32).toInt = 104 := by decide
  have e48 : (48 : Int32).toInt = 48 := by decide
  have e49 : (49 : Int32).toInt = 49 := by decide
  have yes : okc c → h0 = h0 ∧ some (Value.int 1) = some (.int (if okc c then 1 else 0)) := fun z => by
    rw [if_pos z]
    exact ⟨rfl, rfl⟩
  have no : ¬ okc c → h0 = h0 ∧ some (Value.int 0) = some (.int (if okc c then 1 else 0)) := fun z => by
    rw [if_neg z]
    exact ⟨rfl, rfl⟩
  unfold okc at yes no
  have low : ¬ (97 ≤ c.toInt ∧ c.toInt ≤ 104) → (c.toInt = (48 : Int32).toInt → h0 = h0 ∧ some (Value.int 1) = some (.int (if okc c then 1 else 0))) ∧ (¬ c.toInt = (48 : Int32).toInt → (¬ c.toInt = (49 : Int32).toInt → h0 = h0 ∧ some (Value.int 0) = some (.int (if okc c then 1 else 0))) ∧ (¬ ¬ c.toInt = (49 : Int32).toInt → h0 = h0 ∧ some (Value.int 1) = some (.int (if okc c then 1 else 0)))) := by
    intro hx
    exact ⟨fun h1 => yes (by omega), fun h1 => ⟨fun h2 => no (by omega), fun h2 => yes (by omega)⟩⟩
  refine ⟨fun ha => ?_, fun ha => ⟨fun hb => ?_, fun hb => ?_⟩⟩
  · have ha : c.toInt < (97 : Int32).toInt := ha
    exact low (by omega)
  · have ha : ¬ c.toInt < (97 : Int32).toInt := ha
    have hb : c.toInt ≤ (104 : Int32).toInt := hb
    exact yes (by omega)
  · have hb : ¬ c.toInt ≤ (104 : Int32).toInt := hb
    exact low (by omega)
theorem s_X7_rank : f_do r_X7_rank (fun As h rv h' => ∀ c : Int32, As = [.int c] → True → h' = h ∧ rv = some (.int (rkc c))) := by
  refine do_ofP (fun c : Int32 => [.int c]) (fun _ _ => True) (fun c h rv h' => h' = h ∧ rv = some (.int (rkc c))) [] (fun _ _ => []) 40 fo_X7 no_sp k_X7_rank (fun _ _ _ => no_hd) (fun c h0 _ => ?_)
  have e38 : (38 : Int32).toInt = 38 := by decide
  have e124 : (124 : Int32).toInt = 124 := by decide
  have e62 : (62 : Int32).toInt = 62 := by decide
  refine ⟨fun ha => ⟨fun hb => ⟨fun hc => ?_, fun hc => ?_⟩, fun hb => ?_⟩, fun ha => ?_⟩
  · have ha : ¬ c.toInt = (38 : Int32).toInt := ha
    have hb : ¬ c.toInt = (124 : Int32).toInt := hb
    have hc : ¬ c.toInt = (62 : Int32).toInt := hc
    refine ⟨rfl, ?_⟩
    show some (Value.int 0) = some (.int (rkc c))
    unfold rkc
    rw [if_neg (by omega), if_neg (by omega), if_neg (by omega)]
  · have ha : ¬ c.toInt = (38 : Int32).toInt := ha
    have hb : ¬ c.toInt = (124 : Int32).toInt := hb
    have hc : ¬ ¬ c.toInt = (62 : Int32).toInt := hc
    refine ⟨rfl, ?_⟩
    show some (Value.int 1) = some (.int (rkc c))
    unfold rkc
    rw [if_neg (by omega), if_neg (by omega), if_pos (by omega)]
  · have ha : ¬ c.toInt = (38 : Int32).toInt := ha
    have hb : ¬ ¬ c.toInt = (124 : Int32).toInt := hb
    refine ⟨rfl, ?_⟩
    show some (Value.int 2) = some (.int (rkc c))
    unfold rkc
    rw [if_neg (by omega), if_pos (by omega)]
  · have ha : ¬ ¬ c.toInt = (38 : Int32).toInt := ha
    refine ⟨rfl, ?_⟩
    show some (Value.int 3) = some (.int (rkc c))
    unfold rkc
    rw [if_pos (by omega)]
/-- the class's parser takes or refuses -/
abbrev ffA : Type := Nat × Nat × Int32 × Int32 × ClassId × (Nat → Int32)
def ff_F (a : ffA) : List Value := [.ref a.1, .ref a.2.1, .int a.2.2.1, .int a.2.2.2.1]
def ff_P (a : ffA) (h : fH) : Prop := h a.2.1 = some (.inl (a.2.2.2.2.1, 60, .inl a.2.2.2.2.2)) ∧ 0 ≤ a.2.2.1.toInt ∧ 0 ≤ a.2.2.2.1.toInt ∧ a.2.2.1.toInt + a.2.2.2.1.toInt ≤ 60
def ff_g (a : ffA) : Nat → Int32 := fun x => a.2.2.2.2.2 (a.2.2.1.toInt.toNat + x)
def ff_Q (a : ffA) (h : fH) (rv : Option Value) (h' : fH) : Prop := h' = h ∧ ∃ r : Int32, rv = some (.int r) ∧ r.toInt = acA (ff_g a) a.2.2.2.1.toInt.toNat 0 (true, 0)
def in_ff (a : ffA) (h0 : fH) : fL_ → List Value → fH → Prop := fun lg vs w => ∃ (i : Int32) (b : Bool) (o : Int32), f_sub [(6, false, .int i), (5, false, .int o), (4, false, .int (wv b)), (1, false, .ref a.2.1), (2, false, .int a.2.2.1), (3, false, .int a.2.2.2.1)] lg ∧ vs = [] ∧ w = h0 ∧ 0 ≤ i.toInt ∧ i.toInt ≤ a.2.2.2.1.toInt ∧ 0 ≤ o.toInt ∧ o.toInt ≤ i.toInt ∧ acA (ff_g a) (a.2.2.2.1.toInt.toNat - i.toInt.toNat) i.toInt.toNat (b, o.toInt.toNat) = acA (ff_g a) a.2.2.2.1.toInt.toNat 0 (true, 0)
theorem ff_nxt {p row : Nat} {fr n : Int32} {cA : ClassId} {f : Nat → Int32} {w : fH} {i o' : Int32} {b' : Bool} {M : Nat} {s : Bool × Nat} {L : fL_} (hs : f_sub [(6, false, .int (i + 1)), (5, false, .int o'), (4, false, .int (wv b')), (1, false, .ref row), (2, false, .int fr), (3, false, .int n)] L) (i0 : 0 ≤ i.toInt) (i1 : i.toInt < n.toInt) (h : acA (ff_g (p, row, fr, n, cA, f)) (n.toInt.toNat - i.toInt.toNat) i.toInt.toNat s = acA (ff_g (p, row, fr, n, cA, f)) n.toInt.toNat 0 (true, 0)) (ho : o'.toInt = (M : Int)) (hM : M ≤ i.toInt.toNat + 1) (hst : stA s (ff_g (p, row, fr, n, cA, f) i.toInt.toNat) = some (b', M)) : in_ff (p, row, fr, n, cA, f) w L [] w := by
  have hn := Int32.toInt_lt n
  have m3 : (i + 1).toInt = i.toInt + 1 := i_inc i0 (by omega)
  have g : o'.toInt.toNat = M := by
    rw [ho]
    rfl
  generalize i + 1 = i' at hs m3
  have hI1 : i'.toInt.toNat = i.toInt.toNat + 1 := by omega
  refine ⟨i', b', o', hs, rfl, rfl, (show 0 ≤ i'.toInt by omega), (show i'.toInt ≤ n.toInt by omega), (show 0 ≤ o'.toInt by omega), (show o'.toInt ≤ i'.toInt by omega), ?_⟩
  show acA (ff_g (p, row, fr, n, cA, f)) (n.toInt.toNat - i'.toInt.toNat) i'.toInt.toNat (b', o'.toInt.toNat) = _
  rw [hI1, g]
  exact acA_go h (by omega) hst
theorem i_dec {o : Int32} (h : 0 < o.toInt) : (o + -1).toInt = ((o.toInt.toNat - 1 : Nat) : Int) := by
  have h2 := Int32.toInt_lt o
  have em : (-1 : Int32).toInt = -1 := by decide
  rw [i_add (by rw [em]; omega) (by rw [em]; omega), em]
  omega
theorem i_incN {o : Int32} (h : 0 ≤ o.toInt) (h2 : o.toInt < 1000) : (o + 1).toInt = ((o.toInt.toNat + 1 : Nat) : Int) := by
  rw [i_inc h (by omega)]
  omega
theorem i_same {o : Int32} (h : 0 ≤ o.toInt) : o.toInt = ((o.toInt.toNat : Nat) : Int) := (Int.toNat_of_nonneg h).symm
def Sp_ff : fP fH := [(70, 1, fun As h rv h' => ∀ c : Int32, As = [.int c] → True → h' = h ∧ rv = some (.int (if okc c then 1 else 0))), (82, 1, fun As h rv h' => ∀ c : Int32, As = [.int c] → True → h' = h ∧ rv = some (.int (rkc c)))]
theorem Sp_ff_ok : f_sp T_X7_firstFault Sp_ff wH := List.forall_mem_cons.mpr ⟨sp_one rfl s_X7_isOperand, List.forall_mem_cons.mpr ⟨sp_one rfl s_X7_rank, no_sp⟩⟩
section
variable {p row : Nat} {fr n : Int32} {cA : ClassId} {f : Nat → Int32} {h0 : fH}
set_option maxHeartbeats 4000000 in
theorem ff_h9 (hr : h0 row = some (.inl (cA, 60, .inl f))) (fr0 : 0 ≤ fr.toInt) (f60 : fr.toInt + n.toInt ≤ 60) : ∀ (lg : fL_) (vs : List Value) (w : fH), in_ff (p, row, fr, n, cA, f) h0 lg vs w → ∃ (L : fL_) (fu : Nat), f_sub L lg ∧ wh oH T_X7_firstFault Sp_ff (ff_Q (p, row, fr, n, cA, f) h0) K_X7_firstFault [(9, in_ff (p, row, fr, n, cA, f) h0)] fu 9 L vs w := by
  rintro lg vs w ⟨i, b, o, hs, rfl, ew, i0, i1, o0, o1, hinv⟩
  have ew : w = h0 := ew
  subst w
  have i1 : i.toInt ≤ n.toInt := i1
  have hinv : acA (ff_g (p, row, fr, n, cA, f)) (n.toInt.toNat - i.toInt.toNat) i.toInt.toNat (b, o.toInt.toNat) = acA (ff_g (p, row, fr, n, cA, f)) n.toInt.toNat 0 (true, 0) := hinv
  have done : ∀ r : Int32, r.toInt = acA (ff_g (p, row, fr, n, cA, f)) n.toInt.toNat 0 (true, 0) → ff_Q (p, row, fr, n, cA, f) h0 (some (.int r)) h0 := fun r hr => ⟨rfl, r, rfl, hr⟩
  have e0 : (0 : Int32).toInt = 0 := by decide
  have e60 : (Int32.ofNat 60).toInt = 60 := by decide
  have e40 : (40 : Int32).toInt = 40 := by decide
  have e41 : (41 : Int32).toInt = 41 := by decide
  have e45 : (45 : Int32).toInt = 45 := by decide
  refine ⟨_, 100, hs, fun hc => ?_, fun hc => ?_⟩
  · have hc : n.toInt ≤ i.toInt := hc
    have ei : i.toInt = n.toInt := by omega
    rw [ei] at hinv
    have hend := acA_end hinv
    cases b with
    | true =>
      refine ⟨fun _ => ?_, fun hz => absurd (show (1 : Int32).toInt = 0 from Classical.not_not.mp hz) (by decide)⟩
      refine done n ?_
      rw [hend, if_pos (Or.inl rfl)]
      omega
    | false =>
      refine ⟨fun hz => absurd rfl (show ¬ (0 : Int32).toInt = 0 from hz), fun _ => ⟨fun hz => ?_, fun hz => ?_⟩⟩
      · have hz : o.toInt ≤ 0 := hz
        refine done (-1) ?_
        rw [hend, if_neg (fun z => z.elim (fun z => by cases z) (fun z => by have z : 0 < o.toInt.toNat := z; omega))]
        decide
      · have hz : ¬ o.toInt ≤ 0 := hz
        refine done n ?_
        rw [hend, if_pos (Or.inr (show 0 < o.toInt.toNat by omega))]
        omega
  · have hc : ¬ n.toInt ≤ i.toInt := hc
    have hI : i.toInt.toNat < n.toInt.toNat := by omega
    have hin : i.toInt < n.toInt := by omega
    have o59 : o.toInt < 1000 := by omega
    have oN : o.toInt.toNat ≤ i.toInt.toNat + 1 := by omega
    have oN1 : o.toInt.toNat + 1 ≤ i.toInt.toNat + 1 := by omega
    have oN2 : o.toInt.toNat - 1 ≤ i.toInt.toNat + 1 := by omega
    have m1 : (fr + i).toInt = fr.toInt + i.toInt := i_add (by omega) (by omega)
    refine ⟨fun hz => absurd (show (fr + i).toInt < 0 from hz) (by rw [m1]; omega), fun _ => ⟨fun hz => ?_, fun _ => ?_⟩⟩
    · have hz : (Int32.ofNat (eL (h0 row))).toInt ≤ (fr + i).toInt := hz
      rw [hr, m1] at hz
      have hz : (Int32.ofNat 60).toInt ≤ fr.toInt + i.toInt := hz
      rw [e60] at hz
      omega
    have ec : eI (h0 row) (fr + i).toNatClampNeg = ff_g (p, row, fr, n, cA, f) i.toInt.toNat := by
      rw [hr]
      show f (fr + i).toInt.toNat = f (fr.toInt.toNat + i.toInt.toNat)
      rw [m1]
      congr 1
      omega
    clear m1
    have bad : stA (b, o.toInt.toNat) (ff_g (p, row, fr, n, cA, f) i.toInt.toNat) = none → ff_Q (p, row, fr, n, cA, f) h0 (some (.int i)) h0 := fun h3 => done i (by rw [← acA_no hinv hI h3]; omega)
    obtain ⟨c, ec2⟩ : ∃ c : Int32, ff_g (p, row, fr, n, cA, f) i.toInt.toNat = c := ⟨_, rfl⟩
    rw [ec2] at ec bad
    cases b with
    | true =>
      refine ⟨fun hz => absurd (show (1 : Int32).toInt = 0 from hz) (by decide), fun _ => ⟨fun hd => ?_, fun hd => ?_⟩⟩
      · have hd : ¬ (eI (h0 row) (fr + i).toNatClampNeg).toInt = (40 : Int32).toInt := hd
        rw [ec, e40] at hd
        intro rv h1 hx
        obtain ⟨e1, rfl⟩ := hx (eI (h0 row) (fr + i).toNatClampNeg) rfl trivial
        have e1 : h1 = h0 := e1
        subst h1
        refine ⟨fun hy => ?_, fun hy => ?_⟩
        · have hy : (if okc (eI (h0 row) (fr + i).toNatClampNeg) then (1 : Int32) else 0).toInt = 0 := hy
          rw [ec] at hy
          have hno : ¬ okc c := fun z => by
            rw [if_pos z] at hy
            exact absurd hy (by decide)
          refine ⟨fun hq => ?_, fun hq => ?_⟩
          · have hq : (eI (h0 row) (fr + i).toNatClampNeg).toInt = (45 : Int32).toInt := hq
            rw [ec, e45] at hq
            refine ff_nxt (i := i) (o' := o) (b' := true) ⟨rfl, rfl, rfl, rfl, rfl, rfl, trivial⟩ i0 hin hinv (i_same o0) oN ?_
            rw [ec2]
            unfold stA
            dsimp only
            rw [if_neg hd, if_neg hno, if_pos hq]
          · have hq : ¬ (eI (h0 row) (fr + i).toNatClampNeg).toInt = (45 : Int32).toInt := hq
            rw [ec, e45] at hq
            refine bad ?_
            unfold stA
            dsimp only
            rw [if_neg hd, if_neg hno, if_neg hq]
        · have hy : ¬ (if okc (eI (h0 row) (fr + i).toNatClampNeg) then (1 : Int32) else 0).toInt = 0 := hy
          rw [ec] at hy
          have hyes : okc c := by
            by_cases z : okc c
            · exact z
            · rw [if_neg z] at hy
              exact absurd rfl hy
          refine ff_nxt (i := i) (o' := o) (b' := false) ⟨rfl, rfl, rfl, rfl, rfl, rfl, trivial⟩ i0 hin hinv (i_same o0) oN ?_
          rw [ec2]
          unfold stA
          dsimp only
          rw [if_neg hd, if_pos hyes]
      · have hd : ¬ ¬ (eI (h0 row) (fr + i).toNatClampNeg).toInt = (40 : Int32).toInt := hd
        rw [ec, e40] at hd
        refine ff_nxt (i := i) (o' := o + 1) (b' := true) ⟨rfl, rfl, rfl, rfl, rfl, rfl, trivial⟩ i0 hin hinv (i_incN o0 o59) oN1 ?_
        rw [ec2]
        unfold stA
        dsimp only
        rw [if_pos (Classical.not_not.mp hd)]
    | false =>
      refine ⟨fun _ => ?_, fun hz => absurd rfl (show ¬ (0 : Int32).toInt = 0 from hz)⟩
      intro rv h1 hx
      obtain ⟨e1, rfl⟩ := hx (eI (h0 row) (fr + i).toNatClampNeg) rfl trivial
      have e1 : h1 = h0 := e1
      subst h1
      refine ⟨fun hy => ?_, fun hy => ?_⟩
      · have hy : (rkc (eI (h0 row) (fr + i).toNatClampNeg)).toInt ≤ 0 := hy
        rw [ec] at hy
        have hno := rkc_pos.mp hy
        refine ⟨fun hq => ?_, fun hq => ⟨fun ho => ?_, fun ho => ?_⟩⟩
        · have hq : ¬ (eI (h0 row) (fr + i).toNatClampNeg).toInt = (41 : Int32).toInt := hq
          rw [ec, e41] at hq
          refine bad ?_
          unfold stA
          dsimp only
          rw [if_neg hno, if_neg (fun z => hq z.1)]
        · have ho : o.toInt ≤ 0 := ho
          have ho2 : ¬ 0 < o.toInt.toNat := by omega
          refine bad ?_
          unfold stA
          dsimp only
          rw [if_neg hno, if_neg (fun z => ho2 z.2)]
        · have hq : ¬ ¬ (eI (h0 row) (fr + i).toNatClampNeg).toInt = (41 : Int32).toInt := hq
          rw [ec, e41] at hq
          have ho : ¬ o.toInt ≤ 0 := ho
          have ho1 : 0 < o.toInt := by omega
          have ho2 : 0 < o.toInt.toNat := by omega
          refine ff_nxt (i := i) (o' := o + -1) (b' := false) ⟨rfl, rfl, rfl, rfl, rfl, rfl, trivial⟩ i0 hin hinv (i_dec ho1) oN2 ?_
          rw [ec2]
          unfold stA
          dsimp only
          rw [if_neg hno, if_pos ⟨Classical.not_not.mp hq, ho2⟩]
      · have hy : ¬ (rkc (eI (h0 row) (fr + i).toNatClampNeg)).toInt ≤ 0 := hy
        rw [ec] at hy
        have hyes : c.toInt = 38 ∨ c.toInt = 124 ∨ c.toInt = 62 := Classical.byContradiction (fun z => hy (rkc_pos.mpr z))
        refine ff_nxt (i := i) (o' := o) (b' := true) ⟨rfl, rfl, rfl, rfl, rfl, rfl, trivial⟩ i0 hin hinv (i_same o0) oN ?_
        rw [ec2]
        unfold stA
        dsimp only
        rw [if_pos hyes]
end
theorem s_X7_firstFault : f_do r_X7_firstFault (fun As h rv h' => ∀ a : ffA, As = ff_F a → ff_P a h → ff_Q a h rv h') := by
  refine do_ofP ff_F ff_P ff_Q Sp_ff (fun a h => [(9, in_ff a h)]) 100 fo_X7 Sp_ff_ok k_X7_firstFault (fun a h0 hp => ?_) (fun a h0 hp => ?_)
  · obtain ⟨p, row, fr, n, cA, f⟩ := a
    obtain ⟨hr, fr0, n0, f60⟩ := hp
    exact List.forall_mem_cons.mpr ⟨ff_h9 hr fr0 f60, fun _ h => absurd h List.not_mem_nil⟩
  · obtain ⟨p, row, fr, n, cA, f⟩ := a
    obtain ⟨hr, fr0, n0, f60⟩ := hp
    have n0 : 0 ≤ n.toInt := n0
    have e0 : (0 : Int32).toInt = 0 := by decide
    exact ⟨0, true, 0, ⟨rfl, rfl, rfl, rfl, rfl, rfl, trivial⟩, rfl, rfl, by decide, (show (0 : Int32).toInt ≤ n.toInt by rw [e0]; exact n0), by decide, by decide, rfl⟩
