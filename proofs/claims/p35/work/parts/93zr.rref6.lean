/-! texts: the reference's parse, with what it leaves -/
theorem chA_mp {c : Int32} {s : pS} (h : c.toInt = 45 ∨ c.toInt = 40 ∨ okc c) : mpA c s = chA c s := by
  unfold mpA
  by_cases e : c.toInt = 45 ∨ c.toInt = 40
  · rw [if_pos e, chA_ps (by omega)]
  · rw [if_neg e, chA_vl (by rcases h with h | h | h; exact absurd (Or.inl h) e; exact absurd (Or.inr h) e; exact h)]
abbrev qaA : Type := (Nat → Nat) × Int32 × Int32 × (Nat → Int32)
def qa_F : qaA → List Value := fun (B, fr, n, _) => [.ref (B 343), .int fr, .int n]
def qa_P : qaA → lW → Prop := fun (B, fr, n, f) w => (∃ km kv, mX B (runA (vo_g fr f) 0) km kv w) ∧ aI B 383 240 f w ∧ (0 ≤ fr.toInt ∧ 0 ≤ n.toInt ∧ n.toInt ≤ 60 ∧ fr.toInt + n.toInt ≤ 240) ∧ acA (vo_g fr f) n.toInt.toNat 0 (true, 0) = -1
def qa_Q : qaA → lW → Option Value → lW → Prop := fun (B, fr, n, f) _ rv w' => rv = some (.int (-1)) ∧ ∃ g, aJ B 346 256 g w' ∧ ∀ x, x < 4 → g x = txtW (vo_g fr f) n.toInt.toNat x
def q_st (B : Nat → Nat) (fr n : Int32) (f : Nat → Int32) (i o : Int32) (b : Bool) (w : lW) : Prop := mS B (runA (vo_g fr f) i.toInt.toNat) w ∧ aI B 383 240 f w ∧ (0 ≤ i.toInt ∧ i.toInt ≤ n.toInt) ∧ (0 ≤ o.toInt ∧ o.toInt ≤ i.toInt) ∧ okS b o.toInt.toNat i.toInt.toNat (runA (vo_g fr f) i.toInt.toNat) ∧ acA (vo_g fr f) (n.toInt.toNat - i.toInt.toNat) i.toInt.toNat (b, o.toInt.toNat) = -1
def in_qa (B : Nat → Nat) (fr n : Int32) (f : Nat → Int32) : fL_ → List Value → lW → Prop := fun lg vs w => ∃ (i o : Int32) (b : Bool), f_sub [(5, false, .int i), (3, false, .int o), (4, false, .int (wv b)), (0, false, .ref (B 343)), (1, false, .int fr), (2, false, .int n)] lg ∧ vs = [] ∧ q_st B fr n f i o b w
def q_in (fr n : Int32) (f : Nat → Int32) (i o : Int32) (b b' : Bool) (M : Nat) (c : Int32) : Prop := i.toInt < n.toInt ∧ vo_g fr f i.toInt.toNat = c ∧ stA (b, o.toInt.toNat) c = some (b', M) ∧ acA (vo_g fr f) (n.toInt.toNat - (i.toInt.toNat + 1)) (i.toInt.toNat + 1) (b', M) = -1
def in_qo (B : Nat → Nat) (fr n : Int32) (f : Nat → Int32) (b : Bool) : fL_ → List Value → lW → Prop := fun lg vs w => ∃ (i o c : Int32) (b' : Bool) (M : Nat), f_sub [(6, false, .int c), (5, false, .int i), (3, false, .int o), (0, false, .ref (B 343)), (1, false, .int fr), (2, false, .int n)] lg ∧ vs = [] ∧ q_st B fr n f i o b w ∧ q_in fr n f i o b b' M c
def in_qb (B : Nat → Nat) (fr n : Int32) (f : Nat → Int32) : fL_ → List Value → lW → Prop := fun lg vs w => ∃ s : pS, f_sub [(0, false, .ref (B 343))] lg ∧ vs = [] ∧ mS B s w ∧ bdS 1 s = bdS 1 (runA (vo_g fr f) n.toInt.toNat) ∧ (bdS 1 s).1.1 = 0 ∧ bdK 1 s.1.1 s.1.2 s.2.1 ∧ s.2.1 ≤ 60 ∧ 0 < (bdS 1 s).2.1
def qa_hd : qaA → lW → fI lW := fun (B, fr, n, f) _ => [(18, in_qa B fr n f), (86, in_qo B fr n f true), (166, in_qo B fr n f false), (218, in_qb B fr n f)]
theorem q_nxt {B : Nat → Nat} {fr n : Int32} {f : Nat → Int32} {i o o' c : Int32} {b b' : Bool} {M : Nat} {w w1 : lW} {L : fL_} (hs : f_sub [(5, false, .int (i + 1)), (3, false, .int o'), (4, false, .int (wv b')), (0, false, .ref (B 343)), (1, false, .int fr), (2, false, .int n)] L) (h : q_st B fr n f i o b w) (hq : q_in fr n f i o b b' M c) (h1 : mS B (chA c (runA (vo_g fr f) i.toInt.toNat)) w1) (h2 : aI B 383 240 f w1) (ho : o'.toInt = (M : Int)) (hM : M ≤ i.toInt.toNat + 1) : in_qa B fr n f L [] w1 := by
  obtain ⟨-, -, ⟨i0, -⟩, -, hok, -⟩ := h
  obtain ⟨i1, hc, hst, hac⟩ := hq
  have hn := Int32.toInt_lt n
  have m3 : (i + 1).toInt = i.toInt + 1 := i_inc i0 (by omega)
  have g : o'.toInt.toNat = M := by
    rw [ho]
    rfl
  have hok' := ch_ok hok hst
  rw [← hc] at h1 hok'
  generalize i + 1 = i' at hs m3
  have hI1 : i'.toInt.toNat = i.toInt.toNat + 1 := by omega
  refine ⟨i', o', b', hs, rfl, ?_, h2, ⟨by omega, by omega⟩, ⟨by omega, by omega⟩, ?_, ?_⟩
  · rw [hI1]
    exact h1
  · rw [hI1, g]
    exact hok'
  · rw [hI1, g]
    exact hac
section
variable {B : Nat → Nat} {fr n : Int32} {f : Nat → Int32} {w0 : lW}
set_option maxHeartbeats 8000000 in
theorem qa_h18 (fr0 : 0 ≤ fr.toInt) (n60 : n.toInt ≤ 60) (f240 : fr.toInt + n.toInt ≤ 240) : ∀ (lg : fL_) (vs : List Value) (w : lW), in_qa B fr n f lg vs w → ∃ (L : fL_) (fu : Nat), f_sub L lg ∧ wh oW T_X12_parse Sp_pa (qa_Q (B, fr, n, f) w0) K_X12_parse (qa_hd (B, fr, n, f) w0) fu 18 L vs w := by
  rintro lg vs w ⟨i, o, b, hs, rfl, hq⟩
  obtain ⟨h, haf, ⟨i0, i1⟩, ⟨o0, o1⟩, hok, hac⟩ := id hq
  have e40 : (40 : Int32).toInt = 40 := by decide
  have e41 : (41 : Int32).toInt = 41 := by decide
  have e45 : (45 : Int32).toInt = 45 := by decide
  have e48 : (48 : Int32).toInt = 48 := by decide
  have e49 : (49 : Int32).toInt = 49 := by decide
  have e62 : (62 : Int32).toInt = 62 := by decide
  have e124 : (124 : Int32).toInt = 124 := by decide
  have e38 : (38 : Int32).toInt = 38 := by decide
  refine ⟨_, 120, hs, fun hc => ?_, fun hc => ?_⟩
  · have hc : n.toInt ≤ i.toInt := hc
    have ei : i.toInt = n.toInt := by omega
    rw [ei, Nat.sub_self] at hac
    obtain ⟨rfl, hO⟩ := acA_e1 hac
    refine ⟨fun hz => absurd rfl (show ¬ (0 : Int32).toInt = 0 from hz), fun _ => ⟨fun hz => ?_, fun hz => ?_⟩⟩
    · rw [ei] at h hok
      obtain ⟨v30, -⟩ := okS_vc hok (by omega)
      obtain ⟨a1, a2, a3, a4, a5⟩ := bdA_ok (Int.le_refl 1) (k := (runA (vo_g fr f) n.toInt.toNat).1.1) (m := (runA (vo_g fr f) n.toInt.toNat).1.2) (v := (runA (vo_g fr f) n.toInt.toNat).2.2) (vc := (runA (vo_g fr f) n.toInt.toNat).2.1) hok.1
      refine ⟨runA (vo_g fr f) n.toInt.toNat, ⟨rfl, trivial⟩, rfl, h, rfl, ?_, bdK_of (Int.le_refl 1) hok.1, by omega, ?_⟩
      · refine Classical.byContradiction (fun z => ?_)
        have hp : 0 < (bdA 1 (runA (vo_g fr f) n.toInt.toNat).1.1 (runA (vo_g fr f) n.toInt.toNat).1.2 (runA (vo_g fr f) n.toInt.toNat).2.2 (runA (vo_g fr f) n.toInt.toNat).2.1).1 := Nat.pos_of_ne_zero z
        have y := tp_ok hok hp a1 (fun j g1 g2 => by have y := a4 j g1 g2; omega)
        have y2 := a5.resolve_left (by omega)
        have y3 := y.resolve_right (by omega)
        have np := cnA_cut (p := isP) (m := (runA (vo_g fr f) n.toInt.toNat).1.2) a1 (fun j g1 g2 => isP_f.mpr (fun z => by have y := a4 j g1 g2; have y2 := rk_b.mp (show 0 < (rkc ((runA (vo_g fr f) n.toInt.toNat).1.2 j)).toInt by omega); omega))
        have np2 := hok.2.1
        rw [np] at np2
        obtain ⟨k, ek⟩ : ∃ k, (bdA 1 (runA (vo_g fr f) n.toInt.toNat).1.1 (runA (vo_g fr f) n.toInt.toNat).1.2 (runA (vo_g fr f) n.toInt.toNat).2.2 (runA (vo_g fr f) n.toInt.toNat).2.1).1 = k + 1 := ⟨_ - 1, (Nat.sub_add_cancel hp).symm⟩
        rw [ek] at np2 y3
        have y3 : ((runA (vo_g fr f) n.toInt.toNat).1.2 k).toInt = 40 := y3
        have np2 : cnA isP k (runA (vo_g fr f) n.toInt.toNat).1.2 + (if isP ((runA (vo_g fr f) n.toInt.toNat).1.2 k) = true then 1 else 0) = o.toInt.toNat := np2
        rw [if_pos (isP_t.mpr y3), hO] at np2
        omega
      · show 0 < (bdA 1 (runA (vo_g fr f) n.toInt.toNat).1.1 (runA (vo_g fr f) n.toInt.toNat).1.2 (runA (vo_g fr f) n.toInt.toNat).2.2 (runA (vo_g fr f) n.toInt.toNat).2.1).2.1
        omega
    · have hz : ¬ o.toInt ≤ 0 := hz
      omega
  · have hc : ¬ n.toInt ≤ i.toInt := hc
    have hin : i.toInt < n.toInt := by omega
    have ec : (eI (hof w.1 (rv_ (eG fl_X12 130 (hof w.1 (B 343))))) (fr + i).toNatClampNeg) = vo_g fr f i.toInt.toNat := by
      have m1 : (fr + i).toInt = fr.toInt + i.toInt := i_add (by omega) (by omega)
      obtain ⟨x, o1, -⟩ := h.2.1
      rw [bR (fl := fl_X12) (i := 130) (k2 := 66) (r := 383) o1 h.1 bl_343 rfl rfl]
      obtain ⟨cA, hf⟩ := haf
      show eI (hof w.1 (B 383)) _ = _
      rw [hf]
      show f (fr + i).toInt.toNat = f (fr.toInt.toNat + i.toInt.toNat)
      rw [m1]
      congr 1
      omega
    rw [show n.toInt.toNat - i.toInt.toNat = (n.toInt.toNat - (i.toInt.toNat + 1)) + 1 by omega] at hac
    obtain ⟨⟨b', M⟩, hst, hac2⟩ := acA_m1 hac
    obtain ⟨c, ec2⟩ : ∃ c : Int32, vo_g fr f i.toInt.toNat = c := ⟨_, rfl⟩
    have hqi : q_in fr n f i o b b' M c := ⟨hin, ec2, by rw [← ec2]; exact hst, hac2⟩
    rw [ec2] at ec hst
    have cs := st_case hst
    have go : ∀ (L : fL_) (w1 : lW), q_st B fr n f i o b w1 → f_sub [(6, false, .int (eI (hof w.1 (rv_ (eG fl_X12 130 (hof w.1 (B 343))))) (fr + i).toNatClampNeg)), (5, false, .int i), (3, false, .int o), (0, false, .ref (B 343)), (1, false, .int fr), (2, false, .int n)] L → in_qo B fr n f b L [] w1 := fun L w1 hI1 hL => ⟨i, o, c, b', M, by rw [ec] at hL; exact hL, rfl, hI1, hqi⟩
    cases b with
    | true =>
      refine ⟨fun hz => absurd (show (1 : Int32).toInt = 0 from hz) (by decide), fun _ => ⟨fun ha => ?_, fun ha => ⟨fun hb => ?_, fun hb => ⟨fun hd => ?_, fun hd => ⟨fun he => ?_, fun he => ?_⟩⟩⟩⟩⟩
      · exact go _ _ hq ⟨rfl, rfl, rfl, rfl, rfl, rfl, trivial⟩
      · exact go _ _ hq ⟨rfl, rfl, rfl, rfl, rfl, rfl, trivial⟩
      · exact go _ _ hq ⟨rfl, rfl, rfl, rfl, rfl, rfl, trivial⟩
      · exact go _ _ hq ⟨rfl, rfl, rfl, rfl, rfl, rfl, trivial⟩
      · have ha2 : ¬ (eI (hof w.1 (rv_ (eG fl_X12 130 (hof w.1 (B 343))))) (fr + i).toNatClampNeg).toInt = (45 : Int32).toInt := ha
        rw [ec, e45] at ha2
        have hb : ¬ (eI (hof w.1 (rv_ (eG fl_X12 130 (hof w.1 (B 343))))) (fr + i).toNatClampNeg).toInt = (40 : Int32).toInt := hb
        rw [ec, e40] at hb
        have hd : ¬ (eI (hof w.1 (rv_ (eG fl_X12 130 (hof w.1 (B 343))))) (fr + i).toNatClampNeg).toInt = (48 : Int32).toInt := hd
        rw [ec, e48] at hd
        have he : ¬ (eI (hof w.1 (rv_ (eG fl_X12 130 (hof w.1 (B 343))))) (fr + i).toNatClampNeg).toInt = (49 : Int32).toInt := he
        rw [ec, e49] at he
        intro rv w1 hx
        have hx : fLr r_X12_in [.long (eI (hof w.1 (rv_ (eG fl_X12 130 (hof w.1 (B 343))))) (fr + i).toNatClampNeg).toInt64, .long 97, .long 104] w rv w1 := hx
        obtain ⟨-, er⟩ := (s_X12_in _ _ _ _ _ _ hx).2 ((eI (hof w.1 (rv_ (eG fl_X12 130 (hof w.1 (B 343))))) (fr + i).toNatClampNeg).toInt64, 97, 104) rfl trivial
        have er : rv = some (.int (if (97 : Int64).toInt ≤ (eI (hof w.1 (rv_ (eG fl_X12 130 (hof w.1 (B 343))))) (fr + i).toNatClampNeg).toInt64.toInt ∧ (eI (hof w.1 (rv_ (eG fl_X12 130 (hof w.1 (B 343))))) (fr + i).toNatClampNeg).toInt64.toInt ≤ (104 : Int64).toInt then 1 else 0)) := er
        have e97 : (97 : Int64).toInt = 97 := by decide
        have e104 : (104 : Int64).toInt = 104 := by decide
        rw [ec, e97, e104, Int32.toInt_toInt64] at er
        have hok2 : okc c := by
          rcases cs with ⟨-, ⟨y, -⟩ | ⟨y, -⟩ | ⟨y, -⟩⟩ | ⟨y, -⟩
          · exact absurd y hb
          · exact absurd y ha2
          · exact y
          · cases y
        rw [if_pos (by unfold okc at hok2; omega)] at er
        subst er
        refine ⟨fun _ => ?_, fun hy => absurd (fun z => absurd (show (1 : Int32).toInt = 0 from z) (by decide)) (show ¬ ¬ (1 : Int32).toInt = 0 from hy)⟩
        have q1 : q_st B fr n f i o true w1 := ⟨mX.keep h hx (by decide) (by decide), haf.keep h.1 hx bl_383 bt_383 (by decide) (by decide), ⟨i0, i1⟩, ⟨o0, o1⟩, hok, hq.2.2.2.2.2⟩
        exact go _ _ q1 ⟨rfl, rfl, rfl, rfl, rfl, rfl, trivial⟩
    | false =>
      refine ⟨fun _ => ⟨fun ha => ?_, fun ha => ⟨fun hb => ?_, fun hb => ⟨fun hd => ?_, fun hd => ⟨fun he => ?_, fun he => ⟨fun hg => ?_, fun hg => ?_⟩⟩⟩⟩⟩, fun hz => absurd rfl (show ¬ (0 : Int32).toInt = 0 from hz)⟩
      · exact go _ _ hq ⟨rfl, rfl, rfl, rfl, rfl, rfl, trivial⟩
      · exact go _ _ hq ⟨rfl, rfl, rfl, rfl, rfl, rfl, trivial⟩
      · exact go _ _ hq ⟨rfl, rfl, rfl, rfl, rfl, rfl, trivial⟩
      · have ha : ¬ (eI (hof w.1 (rv_ (eG fl_X12 130 (hof w.1 (B 343))))) (fr + i).toNatClampNeg).toInt = (62 : Int32).toInt := ha
        rw [ec, e62] at ha
        have hb : ¬ (eI (hof w.1 (rv_ (eG fl_X12 130 (hof w.1 (B 343))))) (fr + i).toNatClampNeg).toInt = (124 : Int32).toInt := hb
        rw [ec, e124] at hb
        have hd : ¬ (eI (hof w.1 (rv_ (eG fl_X12 130 (hof w.1 (B 343))))) (fr + i).toNatClampNeg).toInt = (38 : Int32).toInt := hd
        rw [ec, e38] at hd
        have he : ¬ (eI (hof w.1 (rv_ (eG fl_X12 130 (hof w.1 (B 343))))) (fr + i).toNatClampNeg).toInt = (41 : Int32).toInt := he
        rw [ec, e41] at he
        exfalso
        rcases cs with ⟨y, -⟩ | ⟨-, ⟨y, -⟩ | ⟨y, -⟩⟩
        · cases y
        · have y := rk_b.mp y
          omega
        · exact he y
      · exact go _ _ hq ⟨rfl, rfl, rfl, rfl, rfl, rfl, trivial⟩
      · have ha : ¬ (eI (hof w.1 (rv_ (eG fl_X12 130 (hof w.1 (B 343))))) (fr + i).toNatClampNeg).toInt = (62 : Int32).toInt := ha
        rw [ec, e62] at ha
        have hb : ¬ (eI (hof w.1 (rv_ (eG fl_X12 130 (hof w.1 (B 343))))) (fr + i).toNatClampNeg).toInt = (124 : Int32).toInt := hb
        rw [ec, e124] at hb
        have hd : ¬ (eI (hof w.1 (rv_ (eG fl_X12 130 (hof w.1 (B 343))))) (fr + i).toNatClampNeg).toInt = (38 : Int32).toInt := hd
        rw [ec, e38] at hd
        have hg : ¬ 0 < o.toInt := hg
        exfalso
        rcases cs with ⟨y, -⟩ | ⟨-, ⟨y, -⟩ | ⟨-, y, -⟩⟩
        · cases y
        · have y := rk_b.mp y
          omega
        · omega
set_option maxHeartbeats 8000000 in
theorem qa_h86 (n60 : n.toInt ≤ 60) : ∀ (lg : fL_) (vs : List Value) (w : lW), in_qo B fr n f true lg vs w → ∃ (L : fL_) (fu : Nat), f_sub L lg ∧ wh oW T_X12_parse Sp_pa (qa_Q (B, fr, n, f) w0) K_X12_parse (qa_hd (B, fr, n, f) w0) fu 86 L vs w := by
  rintro lg vs w ⟨i, o, c, b', M, hs, rfl, hq, hqi⟩
  obtain ⟨h, ha, ⟨i0, i1⟩, ⟨o0, o1⟩, hok, hac⟩ := id hq
  obtain ⟨hin, hc, hst, -⟩ := id hqi
  have e40 : (40 : Int32).toInt = 40 := by decide
  have e45 : (45 : Int32).toInt = 45 := by decide
  have oN : o.toInt.toNat ≤ i.toInt.toNat + 1 := by omega
  have oN1 : o.toInt.toNat + 1 ≤ i.toInt.toNat + 1 := by omega
  obtain ⟨v30, m60⟩ := okS_vc hok (by omega)
  have cs : (c.toInt = 40 ∧ b' = true ∧ M = o.toInt.toNat + 1) ∨ (c.toInt = 45 ∧ b' = true ∧ M = o.toInt.toNat) ∨ (okc c ∧ b' = false ∧ M = o.toInt.toNat) := by
    rcases st_case hst with ⟨-, y⟩ | ⟨y, -⟩
    · exact y
    · cases y
  have hcs : c.toInt = 45 ∨ c.toInt = 40 ∨ okc c := by
    rcases cs with y | y | y
    · exact Or.inr (Or.inl y.1)
    · exact Or.inl y.1
    · exact Or.inr (Or.inr y.1)
  refine ⟨_, 60, hs, ?_⟩
  intro rv w1 hx
  have hx : fLr r_X12_operand [.ref (B 343), .int c] w rv w1 := hx
  have ha1 := ha.keep h.1 hx bl_383 bt_383 (by decide) (by decide)
  obtain ⟨rfl, a1⟩ := s_X12_operand (B, runA (vo_g fr f) i.toInt.toNat, c) w w1 rv hx ⟨h, ⟨(show (runA (vo_g fr f) i.toInt.toNat).2.1 < 59 by omega), (show (runA (vo_g fr f) i.toInt.toNat).1.1 < 60 by omega)⟩, hcs⟩
  have a1 : mS B (mpA c (runA (vo_g fr f) i.toInt.toNat)) w1 := a1
  rw [chA_mp hcs] at a1
  refine ⟨fun hA => ⟨fun hB => ?_, fun hB => ⟨fun hC => ?_, fun hC => ?_⟩⟩, fun hA => ⟨fun hB => ?_, fun hB => ⟨fun hC => ?_, fun hC => ?_⟩⟩⟩
  · have hB : c.toInt = (45 : Int32).toInt := hB
    rw [e45] at hB
    obtain ⟨rfl, rfl⟩ : b' = true ∧ M = o.toInt.toNat := by
      rcases cs with y | y | y
      · omega
      · exact y.2
      · have y1 := y.1
        unfold okc at y1
        omega
    exact q_nxt (i := i) (o := o) (o' := o + 0) (b' := true) ⟨rfl, rfl, rfl, rfl, rfl, rfl, trivial⟩ hq hqi a1 ha1 (z_add o0) oN
  · have hA : ¬ c.toInt = (40 : Int32).toInt := hA
    rw [e40] at hA
    have hB : ¬ c.toInt = (45 : Int32).toInt := hB
    rw [e45] at hB
    obtain ⟨rfl, rfl⟩ : b' = false ∧ M = o.toInt.toNat := by
      rcases cs with y | y | y
      · exact absurd y.1 hA
      · exact absurd y.1 hB
      · exact y.2
    exact q_nxt (i := i) (o := o) (o' := o + 0) (b' := false) ⟨rfl, rfl, rfl, rfl, rfl, rfl, trivial⟩ hq hqi a1 ha1 (z_add o0) oN
  · have hA : ¬ c.toInt = (40 : Int32).toInt := hA
    have hC : ¬ ¬ c.toInt = (40 : Int32).toInt := hC
    exact absurd hA hC
  · have hA : ¬ ¬ c.toInt = (40 : Int32).toInt := hA
    rw [e40] at hA
    have hB : c.toInt = (45 : Int32).toInt := hB
    rw [e45] at hB
    exact absurd (fun z : c.toInt = 40 => absurd (z.symm.trans hB) (by decide)) hA
  · have hA : ¬ ¬ c.toInt = (40 : Int32).toInt := hA
    have hC : ¬ c.toInt = (40 : Int32).toInt := hC
    exact absurd hC hA
  · have hA : ¬ ¬ c.toInt = (40 : Int32).toInt := hA
    rw [e40] at hA
    have hA : c.toInt = 40 := Classical.not_not.mp hA
    obtain ⟨rfl, rfl⟩ : b' = true ∧ M = o.toInt.toNat + 1 := by
      rcases cs with y | y | y
      · exact y.2
      · omega
      · have y1 := y.1
        unfold okc at y1
        omega
    have ho : (o + 1).toInt = ((o.toInt.toNat + 1 : Nat) : Int) := i_incN o0 (by omega)
    exact q_nxt (i := i) (o := o) (o' := o + 1) (b' := true) ⟨rfl, rfl, rfl, rfl, rfl, rfl, trivial⟩ hq hqi a1 ha1 ho oN1
set_option maxHeartbeats 8000000 in
theorem qa_h166 (n60 : n.toInt ≤ 60) : ∀ (lg : fL_) (vs : List Value) (w : lW), in_qo B fr n f false lg vs w → ∃ (L : fL_) (fu : Nat), f_sub L lg ∧ wh oW T_X12_parse Sp_pa (qa_Q (B, fr, n, f) w0) K_X12_parse (qa_hd (B, fr, n, f) w0) fu 166 L vs w := by
  rintro lg vs w ⟨i, o, c, b', M, hs, rfl, hq, hqi⟩
  obtain ⟨h, ha, ⟨i0, i1⟩, ⟨o0, o1⟩, hok, hac⟩ := id hq
  obtain ⟨hin, hc, hst, -⟩ := id hqi
  have e41 : (41 : Int32).toInt = 41 := by decide
  have oN : o.toInt.toNat ≤ i.toInt.toNat + 1 := by omega
  have oN2 : o.toInt.toNat - 1 ≤ i.toInt.toNat + 1 := by omega
  have cs : (0 < (rkc c).toInt ∧ b' = true ∧ M = o.toInt.toNat) ∨ (c.toInt = 41 ∧ 0 < o.toInt.toNat ∧ b' = false ∧ M = o.toInt.toNat - 1) := by
    rcases st_case hst with ⟨y, -⟩ | ⟨-, y⟩
    · cases y
    · exact y
  have hcs : 0 < (rkc c).toInt ∨ (c.toInt = 41 ∧ 0 < o.toInt.toNat) := cs.imp (fun y => y.1) (fun y => ⟨y.1, y.2.1⟩)
  refine ⟨_, 60, hs, ?_⟩
  intro rv w1 hx
  have hx : fLr r_X12_operator [.ref (B 343), .int c] w rv w1 := hx
  have ha1 := ha.keep h.1 hx bl_383 bt_383 (by decide) (by decide)
  obtain ⟨rfl, a1⟩ := s_X12_operator (B, (o.toInt.toNat, i.toInt.toNat, runA (vo_g fr f) i.toInt.toNat), c) w w1 rv hx ⟨h, hok, (show i.toInt.toNat ≤ 60 by omega), hcs⟩
  have a1 : mS B (chA c (runA (vo_g fr f) i.toInt.toNat)) w1 := a1
  refine ⟨fun hA => ⟨fun hB => ?_, fun hB => ?_⟩, fun hA => ⟨fun hB => ?_, fun hB => ?_⟩⟩
  · have hA : ¬ c.toInt = (41 : Int32).toInt := hA
    have hB : c.toInt = (41 : Int32).toInt := hB
    exact absurd hB hA
  · have hA : ¬ c.toInt = (41 : Int32).toInt := hA
    rw [e41] at hA
    obtain ⟨rfl, rfl⟩ : b' = true ∧ M = o.toInt.toNat := (cs.resolve_right (fun y => hA y.1)).2
    exact q_nxt (i := i) (o := o) (o' := o - 0) (b' := true) ⟨rfl, rfl, rfl, rfl, rfl, rfl, trivial⟩ hq hqi a1 ha1 (z_sub o0) oN
  · have hA : ¬ ¬ c.toInt = (41 : Int32).toInt := hA
    rw [e41] at hA
    have hA : c.toInt = 41 := Classical.not_not.mp hA
    obtain ⟨hg, rfl, rfl⟩ : 0 < o.toInt.toNat ∧ b' = false ∧ M = o.toInt.toNat - 1 := (cs.resolve_left (fun y => by have y := rk_b.mp y.1; omega)).2
    exact q_nxt (i := i) (o := o) (o' := o - 1) (b' := false) ⟨rfl, rfl, rfl, rfl, rfl, rfl, trivial⟩ hq hqi a1 ha1 (z_dec (by omega)) oN2
  · have hA : ¬ ¬ c.toInt = (41 : Int32).toInt := hA
    have hB : ¬ c.toInt = (41 : Int32).toInt := hB
    exact absurd hB hA
set_option maxHeartbeats 8000000 in
theorem qa_h218 : ∀ (lg : fL_) (vs : List Value) (w : lW), in_qb B fr n f lg vs w → ∃ (L : fL_) (fu : Nat), f_sub L lg ∧ wh oW T_X12_parse Sp_pa (qa_Q (B, fr, n, f) w0) K_X12_parse (qa_hd (B, fr, n, f) w0) fu 218 L vs w := by
  rintro lg vs w ⟨s, hs, rfl, h, eT, e0, hK, v60, vp⟩
  obtain ⟨x, g1, ex⟩ := mX.gm h
  refine ⟨_, 40, hs, fun hc => ?_, fun hc => ?_⟩
  · have hc : (iv (eG fl_X12 167 (hof w.1 (B 343)))).toInt ≤ 0 := hc
    rw [g1] at hc
    have hc : x.toInt ≤ 0 := hc
    have es := bdS_no (L := 1) (s := s) (Or.inl (by omega))
    rw [es] at eT vp
    obtain ⟨g, hg, hg2⟩ := h.2.2.2.2
    refine ⟨rfl, g, hg, fun y hy => ?_⟩
    have z := hg2 0 vp y hy
    rw [show 4 * 0 + y = y by omega, eT] at z
    exact z
  · have hc : ¬ (iv (eG fl_X12 167 (hof w.1 (B 343)))).toInt ≤ 0 := hc
    rw [g1] at hc
    have hc : ¬ x.toInt ≤ 0 := hc
    have m0 : 0 < s.1.1 := by omega
    have hr : 1 ≤ (rkc (s.1.2 (s.1.1 - 1))).toInt := by
      refine Classical.byContradiction (fun z => ?_)
      rw [bdS_no (Or.inr z)] at e0
      omega
    obtain ⟨k2, hK2⟩ := bdK_yes hK m0 hr
    have ey := bdS_yes m0 hr
    intro rv w1 hx
    have hx : fLr r_X12_reduce [.ref (B 343)] w rv w1 := hx
    obtain ⟨rfl, a1⟩ := s_X12_reduce (B, s) w w1 rv hx ⟨h, m0, k2, v60⟩
    rw [ey] at eT e0 vp
    exact ⟨redS s, ⟨rfl, trivial⟩, rfl, a1, eT, e0, hK2, (show s.2.1 - 1 ≤ 60 by omega), vp⟩
end
set_option maxHeartbeats 4000000 in
theorem s7_X12_parse : ∀ (a : qaA) (w w' : lW) (rv : Option Value), fLr r_X12_parse (qa_F a) w rv w' → qa_P a w → qa_Q a w rv w' := by
  refine do_ofW qa_F qa_P qa_Q Sp_pa qa_hd 60 fo_X12 Sp_pa_ok k_X12_parse (fun a w0 hp => ?_) (fun a w0 hp hd0 => ?_)
  · obtain ⟨B, fr, n, f⟩ := a
    obtain ⟨-, -, ⟨fr0, n0, n60, f240⟩, -⟩ := hp
    exact List.forall_mem_cons.mpr ⟨qa_h18 fr0 n60 f240, List.forall_mem_cons.mpr ⟨qa_h86 n60, List.forall_mem_cons.mpr ⟨qa_h166 n60, List.forall_mem_cons.mpr ⟨qa_h218, fun _ h => absurd h List.not_mem_nil⟩⟩⟩⟩
  · obtain ⟨B, fr, n, f⟩ := a
    obtain ⟨⟨km, kv, h⟩, ha, ⟨fr0, n0, n60, f240⟩, hac⟩ := hp
    have n0 : 0 ≤ n.toInt := n0
    have z0 : (Int32.ofInt 0).toInt = ((0 : Nat) : Int) := by decide
    have e0 : (0 : Int32).toInt = 0 := by decide
    intro q e1 hq
    have hq : w0.1[q]? = some (B 343, e1) := hq
    have h1 := h.pv hq (E := .int (Int32.ofInt 0)) rfl z0
    have u1 : aI B 383 240 f (w0.1.set q (B 343, sG pl_X12 162 (.int (Int32.ofInt 0)) (hof w0.1 (B 343))), w0.2) := by
      obtain ⟨x, ox, -⟩ := h.2.2.1
      obtain ⟨-, b2, -, -⟩ := oF.put (v' := .int (Int32.ofInt 0)) (i := 162) (pl := pl_X12) h.1 ox bl_343 hq rfl (fun r h => by have h : some ((1, 0, 0) : mk_V) = some (2, 0, r) := h; cases h)
      exact ha.upd h.1 bl_383 bl_343 (by decide) b2
    intro q2 e2 hq2
    have hq2 : (w0.1.set q (B 343, sG pl_X12 162 (.int (Int32.ofInt 0)) (hof w0.1 (B 343))))[q2]? = some (B 343, e2) := hq2
    have h2 := h1.pm hq2 (E := .int (Int32.ofInt 0)) rfl z0
    have u2 : aI B 383 240 f ((w0.1.set q (B 343, sG pl_X12 162 (.int (Int32.ofInt 0)) (hof w0.1 (B 343)))).set q2 (B 343, sG pl_X12 167 (.int (Int32.ofInt 0)) (hof (w0.1.set q (B 343, sG pl_X12 162 (.int (Int32.ofInt 0)) (hof w0.1 (B 343)))) (B 343))), w0.2) := by
      obtain ⟨x, ox, -⟩ := h1.2.1
      obtain ⟨-, b2, -, -⟩ := oF.put (v' := .int (Int32.ofInt 0)) (i := 167) (pl := pl_X12) h1.1 ox bl_343 hq2 rfl (fun r h => by have h : some ((1, 0, 0) : mk_V) = some (2, 0, r) := h; cases h)
      exact u1.upd h1.1 bl_383 bl_343 (by decide) b2
    exact ⟨0, 0, true, ⟨rfl, rfl, rfl, rfl, rfl, rfl, trivial⟩, rfl, h2, u2, ⟨by decide, (show (0 : Int32).toInt ≤ n.toInt by rw [e0]; exact n0)⟩, ⟨by decide, by decide⟩, okS_0, hac⟩
