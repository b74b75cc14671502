/-! texts: valueOf -/
theorem st_case {b b' : Bool} {o o' : Nat} {c : Int32} (h : stA (b, o) c = some (b', o')) : (b = true ∧ ((c.toInt = 40 ∧ b' = true ∧ o' = o + 1) ∨ (c.toInt = 45 ∧ b' = true ∧ o' = o) ∨ (okc c ∧ b' = false ∧ o' = o))) ∨ (b = false ∧ ((0 < (rkc c).toInt ∧ b' = true ∧ o' = o) ∨ (c.toInt = 41 ∧ 0 < o ∧ b' = false ∧ o' = o - 1))) := by
  cases b with
  | true =>
    refine Or.inl ⟨rfl, ?_⟩
    unfold stA at h
    dsimp only at h
    by_cases h1 : c.toInt = 40
    · rw [if_pos h1] at h
      have h := Option.some.inj h
      exact Or.inl ⟨h1, (congrArg Prod.fst h).symm, (congrArg Prod.snd h).symm⟩
    · rw [if_neg h1] at h
      by_cases h2 : okc c
      · rw [if_pos h2] at h
        have h := Option.some.inj h
        exact Or.inr (Or.inr ⟨h2, (congrArg Prod.fst h).symm, (congrArg Prod.snd h).symm⟩)
      · rw [if_neg h2] at h
        by_cases h3 : c.toInt = 45
        · rw [if_pos h3] at h
          have h := Option.some.inj h
          exact Or.inr (Or.inl ⟨h3, (congrArg Prod.fst h).symm, (congrArg Prod.snd h).symm⟩)
        · rw [if_neg h3] at h
          cases h
  | false =>
    refine Or.inr ⟨rfl, ?_⟩
    unfold stA at h
    dsimp only at h
    by_cases h1 : c.toInt = 38 ∨ c.toInt = 124 ∨ c.toInt = 62
    · rw [if_pos h1] at h
      have h := Option.some.inj h
      exact Or.inl ⟨rk_b.mpr h1, (congrArg Prod.fst h).symm, (congrArg Prod.snd h).symm⟩
    · rw [if_neg h1] at h
      by_cases h2 : c.toInt = 41 ∧ 0 < o
      · rw [if_pos h2] at h
        have h := Option.some.inj h
        exact Or.inr ⟨h2.1, h2.2, (congrArg Prod.fst h).symm, (congrArg Prod.snd h).symm⟩
      · rw [if_neg h2] at h
        cases h
theorem acA_m1 {g : Nat → Int32} {m i : Nat} {s : Bool × Nat} (h : acA g (m + 1) i s = -1) : ∃ s', stA s (g i) = some s' ∧ acA g m (i + 1) s' = -1 := by
  unfold acA at h
  split at h
  · rename_i s' hs
    exact ⟨s', hs, h⟩
  · omega
theorem acA_e1 {g : Nat → Int32} {i : Nat} {b : Bool} {o : Nat} (h : acA g 0 i (b, o) = -1) : b = false ∧ o = 0 := by
  unfold acA at h
  split at h
  · omega
  · rename_i hn
    cases b with
    | true => exact absurd (Or.inl rfl) hn
    | false => exact ⟨rfl, Nat.eq_zero_of_not_pos (fun z => hn (Or.inr z))⟩
theorem rk_le {c : Int32} : (rkc c).toInt ≤ 3 := by
  unfold rkc
  split
  · decide
  · split
    · decide
    · split <;> decide
/-- the step of the machine, by cases -/
theorem chA_op {c : Int32} {s : pS} (h : 0 < (rkc c).toInt) : chA c s = psh c (bdS (if (rkc c).toInt ≤ 2 then 2 else 3) s) := if_pos h
theorem chA_ps {c : Int32} {s : pS} (h : c.toInt = 40 ∨ c.toInt = 45) : chA c s = psh c s := by
  unfold chA
  rw [if_neg (fun z => by have z := rk_b.mp z; omega), if_pos h]
theorem chA_cl {c : Int32} {s : pS} (h : c.toInt = 41) : chA c s = tdS (popS (bdS 1 s)) := by
  unfold chA
  rw [if_neg (fun z => by have z := rk_b.mp z; omega), if_neg (by omega), if_pos h]
theorem chA_vl {c : Int32} {s : pS} (h : okc c) : chA c s = tdS (valS c s) := by
  unfold chA
  unfold okc at h
  rw [if_neg (fun z => by have z := rk_b.mp z; omega), if_neg (by omega), if_neg (by omega)]
theorem lv_1 {c : Int32} : 1 ≤ (if (rkc c).toInt ≤ 2 then (2 : Int) else 3) := by split <;> decide
theorem ch_ok {b b' : Bool} {o o' i : Nat} {s : pS} {c : Int32} (h : okS b o i s) (hs : stA (b, o) c = some (b', o')) : okS b' o' (i + 1) (chA c s) := by
  rcases st_case hs with ⟨rfl, ⟨h1, rfl, rfl⟩ | ⟨h1, rfl, rfl⟩ | ⟨h1, rfl, rfl⟩⟩ | ⟨rfl, ⟨h1, rfl, rfl⟩ | ⟨h1, h2, rfl, rfl⟩⟩
  · rw [chA_ps (Or.inl h1)]
    have y := okS_psh h (Or.inl h1)
    rw [if_pos h1] at y
    exact y
  · rw [chA_ps (Or.inr h1)]
    have y := okS_psh h (Or.inr h1)
    rw [if_neg (by omega)] at y
    exact y
  · rw [chA_vl h1]
    exact okS_val h
  · rw [chA_op h1]
    exact okS_op lv_1 h h1
  · rw [chA_cl h1]
    exact okS_close h h2
def P_max : fPh := fun As h rv h' => ∀ a : Int32 × Int32, As = [.int a.1, .int a.2] → True → h' = h ∧ rv = some (.int (if a.2.toInt ≤ a.1.toInt then a.1 else a.2))
theorem s_J9_max : f_do r_J9_max_7cf53 P_max := by
  refine do_ofP (fun a : Int32 × Int32 => [.int a.1, .int a.2]) (fun _ _ => True) (fun a h rv h' => h' = h ∧ rv = some (.int (if a.2.toInt ≤ a.1.toInt then a.1 else a.2))) [] (fun _ _ => []) 40 fo_J9 no_sp k_J9_max_7cf53 (fun _ _ _ => no_hd) (fun a h0 _ => ?_)
  obtain ⟨x, y⟩ := a
  refine ⟨fun h => ?_, fun h => ?_⟩
  · have h : x.toInt < y.toInt := h
    refine ⟨rfl, ?_⟩
    show some (Value.int y) = some (.int (if y.toInt ≤ x.toInt then x else y))
    rw [if_neg (by omega)]
  · have h : ¬ x.toInt < y.toInt := h
    refine ⟨rfl, ?_⟩
    show some (Value.int x) = some (.int (if y.toInt ≤ x.toInt then x else y))
    rw [if_pos (by omega)]
abbrev voA : Type := (Nat → Nat) × Nat × Int32 × Int32 × (Nat → Int32)
def vo_F : voA → List Value := fun (B, k, fr, n, _) => [.ref (B 126), .ref (B (336 + k)), .int fr, .int n]
def vo_g (fr : Int32) (f : Nat → Int32) : Nat → Int32 := fun x => f (fr.toInt.toNat + x)
def vo_P : voA → lW → Prop := fun (B, k, fr, n, f) w => k < 4 ∧ (∃ km kv, rX B (runA (vo_g fr f) 0) km kv w) ∧ aI B (336 + k) 60 f w ∧ (0 ≤ fr.toInt ∧ 0 ≤ n.toInt ∧ fr.toInt + n.toInt ≤ 60) ∧ acA (vo_g fr f) n.toInt.toNat 0 (true, 0) = -1
def vo_Q : voA → lW → Option Value → lW → Prop := fun (B, _, fr, n, f) _ rv w' => rv = some (.ref (B 129)) ∧ ∃ V, vS B V w' ∧ ∀ x, x < 4 → V 0 x = txtW (vo_g fr f) n.toInt.toNat x
def in_v17 (B : Nat → Nat) (k : Nat) (fr n : Int32) (f : Nat → Int32) : fL_ → List Value → lW → Prop := fun lg vs w => ∃ (i : Nat) (b : Bool) (o : Nat) (pl : Int32), f_sub [(4, false, .int pl), (0, false, .ref (B 126)), (1, false, .ref (B (336 + k))), (2, false, .int fr), (3, false, .int n)] lg ∧ vs = [] ∧ rS B (runA (vo_g fr f) i) w ∧ aI B (336 + k) 60 f w ∧ pl.toInt = fr.toInt + (i : Int) ∧ i ≤ n.toInt.toNat ∧ okS b o i (runA (vo_g fr f) i) ∧ acA (vo_g fr f) (n.toInt.toNat - i) i (b, o) = -1
def in_v45 (B : Nat → Nat) (k : Nat) (fr n : Int32) (f : Nat → Int32) : fL_ → List Value → lW → Prop := fun lg vs w => ∃ (i : Nat) (b : Bool) (o : Nat) (b' : Bool) (o' : Nat) (pl : Int32), f_sub [(6, false, .int (rkc (vo_g fr f i))), (5, false, .int (vo_g fr f i)), (4, false, .int pl), (0, false, .ref (B 126)), (1, false, .ref (B (336 + k))), (2, false, .int fr), (3, false, .int n)] lg ∧ vs = [] ∧ rS B (runA (vo_g fr f) i) w ∧ aI B (336 + k) 60 f w ∧ pl.toInt = fr.toInt + (i : Int) ∧ i < n.toInt.toNat ∧ okS b o i (runA (vo_g fr f) i) ∧ stA (b, o) (vo_g fr f i) = some (b', o') ∧ acA (vo_g fr f) (n.toInt.toNat - (i + 1)) (i + 1) (b', o') = -1
def in_v116 (B : Nat → Nat) (k : Nat) (fr n : Int32) (f : Nat → Int32) : fL_ → List Value → lW → Prop := fun lg vs w => ∃ (i : Nat) (b : Bool) (o : Nat) (pl : Int32), f_sub [(4, false, .int pl), (0, false, .ref (B 126)), (1, false, .ref (B (336 + k))), (2, false, .int fr), (3, false, .int n)] lg ∧ vs = [] ∧ rS B (runA (vo_g fr f) (i + 1)) w ∧ aI B (336 + k) 60 f w ∧ pl.toInt = fr.toInt + (i : Int) ∧ i < n.toInt.toNat ∧ okS b o (i + 1) (runA (vo_g fr f) (i + 1)) ∧ acA (vo_g fr f) (n.toInt.toNat - (i + 1)) (i + 1) (b, o) = -1
def vo_hd : voA → lW → fI lW := fun (B, k, fr, n, f) _ => [(17, in_v17 B k fr n f), (45, in_v45 B k fr n f), (116, in_v116 B k fr n f)]
def Sp_vo : fP lW := [(82, 1, fLr r_X7_rank), (115, 2, fLr r_J9_max_7cf53), (132, 2, fLr r_X7_bind), (144, 2, fLr r_X7_mark), (153, 1, fLr r_X7_closeBracket), (162, 2, fLr r_X7_operand), (171, 1, fLr r_X7_turnAsMarked)]
theorem Sp_vo_ok : f_sp T_X7_valueOf Sp_vo wW := List.forall_mem_cons.mpr ⟨sp_w rfl (fun _ _ _ _ _ _ h => h.2.2.1), List.forall_mem_cons.mpr ⟨sp_w rfl (fun _ _ _ _ _ _ h => h.2.2.1), List.forall_mem_cons.mpr ⟨sp_w rfl (fun _ _ _ _ _ _ h => h.2.2.1), List.forall_mem_cons.mpr ⟨sp_w rfl (fun _ _ _ _ _ _ h => h.2.2.1), List.forall_mem_cons.mpr ⟨sp_w rfl (fun _ _ _ _ _ _ h => h.2.2.1), List.forall_mem_cons.mpr ⟨sp_w rfl (fun _ _ _ _ _ _ h => h.2.2.1), List.forall_mem_cons.mpr ⟨sp_w rfl (fun _ _ _ _ _ _ h => h.2.2.1), fun _ h => absurd h List.not_mem_nil⟩⟩⟩⟩⟩⟩⟩
theorem okS_vc {b : Bool} {o i : Nat} {s : pS} (h : okS b o i s) (hi : i ≤ 60) : s.2.1 ≤ 30 ∧ s.1.1 ≤ i := by
  obtain ⟨-, -, h3, h4, -⟩ := h
  refine ⟨?_, h3⟩
  cases b with
  | true =>
    have h4 : 2 * s.2.1 ≤ i + 0 := h4
    omega
  | false =>
    have h4 : 2 * s.2.1 ≤ i + 1 := h4
    omega
section
variable {B : Nat → Nat} {k : Nat} {fr n : Int32} {f : Nat → Int32} {w0 : lW}
set_option maxHeartbeats 4000000 in
theorem vo_h17 (hk : k < 4) (fr0 : 0 ≤ fr.toInt) (n0 : 0 ≤ n.toInt) (h60 : fr.toInt + n.toInt ≤ 60) : ∀ (lg : fL_) (vs : List Value) (w : lW), in_v17 B k fr n f lg vs w → ∃ (L : fL_) (fu : Nat), f_sub L lg ∧ wh oW T_X7_valueOf Sp_vo (vo_Q (B, k, fr, n, f) w0) K_X7_valueOf (vo_hd (B, k, fr, n, f) w0) fu 17 L vs w := by
  rintro lg vs w ⟨i, b, o, pl, hs, rfl, h, ha, ep, hi, hok, hac⟩
  have ep : pl.toInt = fr.toInt + (i : Int) := ep
  have hi : i ≤ n.toInt.toNat := hi
  have es : (fr + n).toInt = fr.toInt + n.toInt := i_add (by omega) (by omega)
  have e1 : (Int32.ofInt 1).toInt = 1 := by decide
  have e60 : (Int32.ofNat 60).toInt = 60 := by decide
  obtain ⟨cA, hr⟩ := id ha
  obtain ⟨v30, -⟩ := okS_vc hok (by omega)
  refine ⟨_, 60, hs, fun hc => ?_, fun hc => ⟨fun hd => ?_, fun _ => ?_⟩⟩
  · have hc : (fr + n).toInt ≤ pl.toInt := hc
    rw [es] at hc
    have ei : i = n.toInt.toNat := by omega
    rw [← ei, Nat.sub_self] at hac
    obtain ⟨rfl, rfl⟩ := acA_e1 hac
    have hvc := hok.1
    have hvc : (runA (vo_g fr f) i).2.1 = cnA isB (runA (vo_g fr f) i).1.1 (runA (vo_g fr f) i).1.2 + 1 := hvc
    intro rv w1 hx
    have hx : fLr r_X7_bind [.ref (B 126), .int (Int32.ofInt 1)] w rv w1 := hx
    obtain ⟨rfl, a1⟩ := s_X7_bind (B, runA (vo_g fr f) i, Int32.ofInt 1) w w1 rv hx ⟨h, (show (runA (vo_g fr f) i).2.1 ≤ 32 by omega), by rw [e1]; exact bdK_of (Int.le_refl 1) hvc⟩
    have a1 : rS B (bdS (Int32.ofInt 1).toInt (runA (vo_g fr f) i)) w1 := a1
    rw [e1] at a1
    obtain ⟨-, b2, -, -, -⟩ := bdA_ok (Int.le_refl 1) (k := (runA (vo_g fr f) i).1.1) (m := (runA (vo_g fr f) i).1.2) (v := (runA (vo_g fr f) i).2.2) (vc := (runA (vo_g fr f) i).2.1) hvc
    have hpos : 0 < (bdS 1 (runA (vo_g fr f) i)).2.1 := by
      show 0 < (bdA 1 (runA (vo_g fr f) i).1.1 (runA (vo_g fr f) i).1.2 (runA (vo_g fr f) i).2.2 (runA (vo_g fr f) i).2.1).2.1
      omega
    obtain ⟨V, hV, hV2⟩ := a1.2.2.2.2.1
    show some (eR (hof w1.1 (rv_ (eG fl_X7 19 (hof w1.1 (B 126))))) (Int32.ofInt 0).toNatClampNeg) = some (.ref (B 129)) ∧ ∃ V, vS B V w1 ∧ ∀ x, x < 4 → V 0 x = txtW (vo_g fr f) n.toInt.toNat x
    rw [rX.g19 a1]
    refine ⟨congrArg some (rX.vl a1 (j := 0) (by decide)), V, hV, fun x hx4 => ?_⟩
    rw [hV2 0 hpos x hx4, ← ei]
    rfl
  · have hc : ¬ (fr + n).toInt ≤ pl.toInt := hc
    rw [es] at hc
    have hd : (Int32.ofNat (eL (hof w.1 (B (336 + k))))).toInt ≤ pl.toInt := hd
    rw [hr] at hd
    have hd : (Int32.ofNat 60).toInt ≤ pl.toInt := hd
    rw [e60] at hd
    omega
  · have hc : ¬ (fr + n).toInt ≤ pl.toInt := hc
    rw [es] at hc
    have hin : i < n.toInt.toNat := by omega
    rw [show n.toInt.toNat - i = (n.toInt.toNat - (i + 1)) + 1 by omega] at hac
    obtain ⟨⟨b', o'⟩, hst, hac2⟩ := acA_m1 hac
    have ec : eI (hof w.1 (B (336 + k))) pl.toNatClampNeg = vo_g fr f i := by
      rw [hr]
      show f pl.toInt.toNat = f (fr.toInt.toNat + i)
      congr 1
      omega
    intro rv w1 hx
    have hx : fLr r_X7_rank [.int (eI (hof w.1 (B (336 + k))) pl.toNatClampNeg)] w rv w1 := hx
    rw [ec] at hx
    have h1 : rS B (runA (vo_g fr f) i) w1 := rX.keep h hx (by decide) (by decide) (by decide)
    have ha1 := ha.keep h.1 hx (bl_R hk) (bt_R hk) (by decide) (by decide)
    obtain ⟨-, rfl⟩ := (s_X7_rank _ _ _ _ _ _ hx).2 _ rfl trivial
    refine ⟨i, b, o, b', o', pl, ⟨rfl, ?_, rfl, rfl, rfl, rfl, rfl, trivial⟩, rfl, h1, ha1, ep, hin, hok, hst, hac2⟩
    show some (false, Value.int (eI (hof w.1 (B (336 + k))) pl.toNatClampNeg)) = some (false, .int (vo_g fr f i))
    rw [ec]
set_option maxHeartbeats 4000000 in
theorem vo_h45 (hk : k < 4) (n60 : n.toInt ≤ 60) : ∀ (lg : fL_) (vs : List Value) (w : lW), in_v45 B k fr n f lg vs w → ∃ (L : fL_) (fu : Nat), f_sub L lg ∧ wh oW T_X7_valueOf Sp_vo (vo_Q (B, k, fr, n, f) w0) K_X7_valueOf (vo_hd (B, k, fr, n, f) w0) fu 45 L vs w := by
  rintro lg vs w ⟨i, b, o, b', o', pl, hs, rfl, h, ha, ep, hi, hok, hst, hac⟩
  have hi : i < n.toInt.toNat := hi
  obtain ⟨v30, m60⟩ := okS_vc hok (by omega)
  have hok' : okS b' o' (i + 1) (runA (vo_g fr f) (i + 1)) := ch_ok hok hst
  have run : runA (vo_g fr f) (i + 1) = chA (vo_g fr f i) (runA (vo_g fr f) i) := rfl
  have fin : ∀ {L : fL_} {w1 : lW}, f_sub [(4, false, .int pl), (0, false, .ref (B 126)), (1, false, .ref (B (336 + k))), (2, false, .int fr), (3, false, .int n)] L → rS B (chA (vo_g fr f i) (runA (vo_g fr f) i)) w1 → aI B (336 + k) 60 f w1 → in_v116 B k fr n f L [] w1 := fun hL h1 h2 => ⟨i, b', o', pl, hL, rfl, h1, h2, ep, hi, hok', hac⟩
  have cs := st_case hst
  generalize vo_g fr f i = c at *
  generalize runA (vo_g fr f) i = s at *
  have e2 : (Int32.ofInt 2).toInt = 2 := by decide
  have e40 : (Int32.ofInt 40).toInt = 40 := by decide
  have e41 : (Int32.ofInt 41).toInt = 41 := by decide
  have e45 : (Int32.ofInt 45).toInt = 45 := by decide
  have rk := rk_b (c := c)
  refine ⟨_, 60, hs, fun hc => ⟨fun h1 => ?_, fun h1 => ⟨fun h2 => ⟨fun h3 => ?_, fun h3 => ?_⟩, fun h2 => ?_⟩⟩, fun hc => ?_⟩
  · have h1 : c.toInt = (Int32.ofInt 40).toInt := h1
    rw [e40] at h1
    intro rv w1 hx
    have hx : fLr r_X7_mark [.ref (B 126), .int c] w rv w1 := hx
    have ha1 := ha.keep h.1 hx (bl_R hk) (bt_R hk) (by decide) (by decide)
    obtain ⟨rfl, a1⟩ := s_X7_mark (B, s, c) w w1 rv hx ⟨h, (show s.1.1 < 60 by omega)⟩
    exact fin ⟨rfl, rfl, rfl, rfl, rfl, trivial⟩ (by rw [chA_ps (Or.inl h1)]; exact a1) ha1
  · have hc : (rkc c).toInt ≤ 0 := hc
    have h1 : ¬ c.toInt = (Int32.ofInt 40).toInt := h1
    rw [e40] at h1
    have h2 : ¬ c.toInt = (Int32.ofInt 45).toInt := h2
    rw [e45] at h2
    have h3 : ¬ c.toInt = (Int32.ofInt 41).toInt := h3
    rw [e41] at h3
    have hok2 : okc c := by
      rcases cs with ⟨-, ⟨y, -⟩ | ⟨y, -⟩ | ⟨y, -⟩⟩ | ⟨-, ⟨y, -⟩ | ⟨y, -⟩⟩
      · exact absurd y h1
      · exact absurd y h2
      · exact y
      · omega
      · exact absurd y h3
    intro rv w1 hx
    have hx : fLr r_X7_operand [.ref (B 126), .int c] w rv w1 := hx
    have ha1 := ha.keep h.1 hx (bl_R hk) (bt_R hk) (by decide) (by decide)
    obtain ⟨rfl, a1⟩ := s_X7_operand (B, s, c) w w1 rv hx ⟨h, (show s.2.1 < 32 by omega), hok2⟩
    have a1 : rS B (valS c s) w1 := a1
    intro rv w2 hx2
    have hx2 : fLr r_X7_turnAsMarked [.ref (B 126)] w1 rv w2 := hx2
    have ha2 := ha1.keep a1.1 hx2 (bl_R hk) (bt_R hk) (by decide) (by decide)
    obtain ⟨rfl, a2⟩ := s_X7_turnAsMarked (B, valS c s) w1 w2 rv hx2 ⟨a1, (show 0 < s.2.1 + 1 by omega), (show s.2.1 + 1 ≤ 32 by omega)⟩
    exact fin ⟨rfl, rfl, rfl, rfl, rfl, trivial⟩ (by rw [chA_vl hok2]; exact a2) ha2
  · have h3 : ¬ ¬ c.toInt = (Int32.ofInt 41).toInt := h3
    rw [e41] at h3
    have h3 : c.toInt = 41 := Classical.not_not.mp h3
    obtain ⟨rfl, ho⟩ : b = false ∧ 0 < o := by
      rcases cs with ⟨-, ⟨y, -⟩ | ⟨y, -⟩ | ⟨y, -⟩⟩ | ⟨yb, ⟨y, -⟩ | ⟨-, y, -⟩⟩
      · omega
      · omega
      · unfold okc at y
        omega
      · omega
      · exact ⟨yb, y⟩
    obtain ⟨hp, -⟩ := bd_close hok ho
    have hvc : s.2.1 = cnA isB s.1.1 s.1.2 + 1 := hok.1
    obtain ⟨-, b2, b3, -, -⟩ := bdA_ok (Int.le_refl 1) (k := s.1.1) (m := s.1.2) (v := s.2.2) (vc := s.2.1) hvc
    intro rv w1 hx
    have hx : fLr r_X7_closeBracket [.ref (B 126)] w rv w1 := hx
    have ha1 := ha.keep h.1 hx (bl_R hk) (bt_R hk) (by decide) (by decide)
    obtain ⟨rfl, a1⟩ := s_X7_closeBracket (B, s) w w1 rv hx ⟨h, (show s.2.1 ≤ 32 by omega), bdK_of (Int.le_refl 1) hvc, hp⟩
    have a1 : rS B (popS (bdS 1 s)) w1 := a1
    intro rv w2 hx2
    have hx2 : fLr r_X7_turnAsMarked [.ref (B 126)] w1 rv w2 := hx2
    have ha2 := ha1.keep a1.1 hx2 (bl_R hk) (bt_R hk) (by decide) (by decide)
    obtain ⟨rfl, a2⟩ := s_X7_turnAsMarked (B, popS (bdS 1 s)) w1 w2 rv hx2 ⟨a1, (show 0 < (bdA 1 s.1.1 s.1.2 s.2.2 s.2.1).2.1 by omega), (show (bdA 1 s.1.1 s.1.2 s.2.2 s.2.1).2.1 ≤ 32 by omega)⟩
    exact fin ⟨rfl, rfl, rfl, rfl, rfl, trivial⟩ (by rw [chA_cl h3]; exact a2) ha2
  · have h2 : ¬ ¬ c.toInt = (Int32.ofInt 45).toInt := h2
    rw [e45] at h2
    intro rv w1 hx
    have hx : fLr r_X7_mark [.ref (B 126), .int c] w rv w1 := hx
    have ha1 := ha.keep h.1 hx (bl_R hk) (bt_R hk) (by decide) (by decide)
    obtain ⟨rfl, a1⟩ := s_X7_mark (B, s, c) w w1 rv hx ⟨h, (show s.1.1 < 60 by omega)⟩
    exact fin ⟨rfl, rfl, rfl, rfl, rfl, trivial⟩ (by rw [chA_ps (Or.inr (Classical.not_not.mp h2))]; exact a1) ha1
  · have hc : ¬ (rkc c).toInt ≤ 0 := hc
    have hr : 0 < (rkc c).toInt := by omega
    have r3 := rk_le (c := c)
    obtain rfl : b = false := by
      rcases cs with ⟨-, ⟨y, -⟩ | ⟨y, -⟩ | ⟨y, -⟩⟩ | ⟨yb, -⟩
      · omega
      · omega
      · unfold okc at y
        omega
      · exact yb
    have hvc : s.2.1 = cnA isB s.1.1 s.1.2 + 1 := hok.1
    intro rv w1 hx
    have hx : fLr r_J9_max_7cf53 [.int (rkc c), .int (Int32.ofInt 2)] w rv w1 := hx
    have a0 : rS B s w1 := rX.keep h hx (by decide) (by decide) (by decide)
    have ha1 := ha.keep h.1 hx (bl_R hk) (bt_R hk) (by decide) (by decide)
    obtain ⟨-, er⟩ := (s_J9_max _ _ _ _ _ _ hx).2 (rkc c, Int32.ofInt 2) rfl trivial
    have er : rv = some (.int (if (Int32.ofInt 2).toInt ≤ (rkc c).toInt then rkc c else Int32.ofInt 2)) := er
    subst er
    obtain ⟨l, el⟩ : ∃ l : Int32, (if (Int32.ofInt 2).toInt ≤ (rkc c).toInt then rkc c else Int32.ofInt 2) = l := ⟨_, rfl⟩
    have elI : l.toInt = if (rkc c).toInt ≤ 2 then (2 : Int) else 3 := by
      rw [← el]
      split
      · rename_i y
        rw [e2] at y
        split <;> omega
      · rename_i y
        rw [e2] at y ⊢
        rw [if_pos (by omega)]
    rw [el]
    intro rv w2 hx2
    have hx2 : fLr r_X7_bind [.ref (B 126), .int l] w1 rv w2 := hx2
    have ha2 := ha1.keep a0.1 hx2 (bl_R hk) (bt_R hk) (by decide) (by decide)
    obtain ⟨rfl, a1⟩ := s_X7_bind (B, s, l) w1 w2 rv hx2 ⟨a0, (show s.2.1 ≤ 32 by omega), by rw [elI]; exact bdK_of lv_1 hvc⟩
    have a1 : rS B (bdS l.toInt s) w2 := a1
    rw [elI] at a1
    obtain ⟨b1, -⟩ := bdA_ok (lv_1 (c := c)) (k := s.1.1) (m := s.1.2) (v := s.2.2) (vc := s.2.1) hvc
    intro rv w3 hx3
    have hx3 : fLr r_X7_mark [.ref (B 126), .int c] w2 rv w3 := hx3
    have ha3 := ha2.keep a1.1 hx3 (bl_R hk) (bt_R hk) (by decide) (by decide)
    obtain ⟨rfl, a2⟩ := s_X7_mark (B, bdS (if (rkc c).toInt ≤ 2 then 2 else 3) s, c) w2 w3 rv hx3 ⟨a1, (show (bdA (if (rkc c).toInt ≤ 2 then 2 else 3) s.1.1 s.1.2 s.2.2 s.2.1).1 < 60 by omega)⟩
    exact fin ⟨rfl, rfl, rfl, rfl, rfl, trivial⟩ (by rw [chA_op hr]; exact a2) ha3
set_option maxHeartbeats 4000000 in
theorem vo_h116 (n60 : fr.toInt + n.toInt ≤ 60) (fr0 : 0 ≤ fr.toInt) : ∀ (lg : fL_) (vs : List Value) (w : lW), in_v116 B k fr n f lg vs w → ∃ (L : fL_) (fu : Nat), f_sub L lg ∧ wh oW T_X7_valueOf Sp_vo (vo_Q (B, k, fr, n, f) w0) K_X7_valueOf (vo_hd (B, k, fr, n, f) w0) fu 116 L vs w := by
  rintro lg vs w ⟨i, b, o, pl, hs, rfl, h, ha, ep, hi, hok, hac⟩
  have ep : pl.toInt = fr.toInt + (i : Int) := ep
  have hi : i < n.toInt.toNat := hi
  refine ⟨_, 40, hs, i + 1, b, o, pl + 1, ⟨rfl, rfl, rfl, rfl, rfl, trivial⟩, rfl, h, ha, ?_, hi, hok, hac⟩
  rw [i_inc (by omega) (by omega)]
  omega
end
set_option maxHeartbeats 4000000 in
theorem s_X7_valueOf : ∀ (a : voA) (w w' : lW) (rv : Option Value), fLr r_X7_valueOf (vo_F a) w rv w' → vo_P a w → vo_Q a w rv w' := by
  refine do_ofW vo_F vo_P vo_Q Sp_vo vo_hd 40 fo_X7 Sp_vo_ok k_X7_valueOf (fun a w0 hp => ?_) (fun a w0 hp hd0 => ?_)
  · obtain ⟨B, k, fr, n, f⟩ := a
    obtain ⟨hk, -, -, ⟨fr0, n0, h60⟩, -⟩ := hp
    exact List.forall_mem_cons.mpr ⟨vo_h17 hk fr0 n0 h60, List.forall_mem_cons.mpr ⟨vo_h45 hk (by omega), List.forall_mem_cons.mpr ⟨vo_h116 h60 fr0, fun _ h => absurd h List.not_mem_nil⟩⟩⟩
  · obtain ⟨B, k, fr, n, f⟩ := a
    obtain ⟨hk, ⟨km, kv, h⟩, ha, ⟨fr0, n0, h60⟩, hac⟩ := hp
    have z0 : (Int32.ofInt 0).toInt = ((0 : Nat) : Int) := by decide
    intro q e0 hq
    have hq : w0.1[q]? = some (B 126, e0) := hq
    have h1 := h.p31 hq (E := .int (Int32.ofInt 0)) rfl z0
    have u1 : aI B (336 + k) 60 f (w0.1.set q (B 126, sG pl_X7 31 (.int (Int32.ofInt 0)) (hof w0.1 (B 126))), w0.2) := by
      obtain ⟨x, ox, -⟩ := h.2.1
      obtain ⟨-, b2, -, -⟩ := oF.put (v' := .int (Int32.ofInt 0)) (i := 31) (pl := pl_X7) h.1 ox bl_126 hq rfl (fun r h => by have h : some ((1, 0, 0) : mk_V) = some (2, 0, r) := h; cases h)
      exact ha.upd h.1 (bl_R hk) bl_126 (by omega) b2
    intro q2 e2 hq2
    have hq2 : (w0.1.set q (B 126, sG pl_X7 31 (.int (Int32.ofInt 0)) (hof w0.1 (B 126))))[q2]? = some (B 126, e2) := hq2
    have h2 := h1.p35 hq2 (E := .int (Int32.ofInt 0)) rfl z0
    have u2 : aI B (336 + k) 60 f ((w0.1.set q (B 126, sG pl_X7 31 (.int (Int32.ofInt 0)) (hof w0.1 (B 126)))).set q2 (B 126, sG pl_X7 35 (.int (Int32.ofInt 0)) (hof (w0.1.set q (B 126, sG pl_X7 31 (.int (Int32.ofInt 0)) (hof w0.1 (B 126)))) (B 126))), w0.2) := by
      obtain ⟨x, ox, -⟩ := h1.2.2.1
      obtain ⟨-, b2, -, -⟩ := oF.put (v' := .int (Int32.ofInt 0)) (i := 35) (pl := pl_X7) h1.1 ox bl_126 hq2 rfl (fun r h => by have h : some ((1, 0, 0) : mk_V) = some (2, 0, r) := h; cases h)
      exact u1.upd h1.1 (bl_R hk) bl_126 (by omega) b2
    intro rv w3 hx
    have hx : fLr r_J9_max_7cf53 [.int fr, .int (Int32.ofInt 0)] _ rv w3 := hx
    have h3 : rS B (runA (vo_g fr f) 0) w3 := rX.keep h2 hx (by decide) (by decide) (by decide)
    have u3 := u2.keep h2.1 hx (bl_R hk) (bt_R hk) (by decide) (by decide)
    obtain ⟨-, er⟩ := (s_J9_max _ _ _ _ _ _ hx).2 (fr, Int32.ofInt 0) rfl trivial
    have er : rv = some (.int (if (Int32.ofInt 0).toInt ≤ fr.toInt then fr else Int32.ofInt 0)) := er
    rw [if_pos (by rw [z0]; exact fr0)] at er
    subst er
    exact ⟨0, true, 0, fr, ⟨rfl, rfl, rfl, rfl, rfl, trivial⟩, rfl, h3, u3, (show fr.toInt = fr.toInt + ((0 : Nat) : Int) by omega), Nat.zero_le _, okS_0, hac⟩
