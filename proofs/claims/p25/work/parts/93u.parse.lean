/-! the reference's parser takes or refuses -/
def pa_I (B : Nat → Nat) (cC : ClassId) (f : Nat → Int32) (w : lW) : Prop := f_dj w.1 ∧ Bs B w.1 w.2 ∧ (∃ fs, hof w.1 (B 343) = some (.inr (12, fs))) ∧ hof w.1 (B 383) = some (.inl (cC, 240, .inl f))
theorem pa_keep {B : Nat → Nat} {cC : ClassId} {f : Nat → Int32} {rt : Nat} {Wr : List (Nat × Nat)} {T : fT} {cc : ByteArray} {As : List Value} {w w' : lW} {rv : Option Value} (h : fLr (fq cw_TT cw_SG rt Wr T cc) As w rv w') (hI : pa_I B cC f w) (hk : bs_K.all (fun x => !(Wr.contains x)) = true) (hm : (84, 0) ∉ Wr) : pa_I B cC f w' := by
  obtain ⟨-, hd, hd', hx, -, -⟩ := (show fq cw_TT cw_SG rt Wr T cc As w.1 w.2 rv w'.1 w'.2 from h)
  obtain ⟨-, hB, ⟨fs, hp⟩, hf⟩ := hI
  refine ⟨hd', hB.ex hx hk, ?_, by rw [hB.same hd hd' hx bl_383 bt_383 (by decide) hm]; exact hf⟩
  obtain ⟨e, h1, h2, -⟩ := hB.h hd bl_343
  rw [hp] at h2
  have h2 : .inr (12, fs) = e := Option.some.inj h2
  subst h2
  obtain ⟨e', x1, x2⟩ := hx.2 343 _ _ 17 h1 (hB.1 343 17 bt_343)
  cases e' with
  | inl _ => exact x2.elim
  | inr o' =>
    obtain ⟨y1, -⟩ := x2
    refine ⟨o'.2, ?_⟩
    rw [hof_at hd' x1]
    have y1 : o'.1 = 12 := y1
    rw [← y1]
theorem pa_fld {B : Nat → Nat} {w : lW} {cC : ClassId} {f : Nat → Int32} (hI : pa_I B cC f w) : eG fl_X12 130 (hof w.1 (B 343)) = .ref (B 383) := by
  obtain ⟨hd, hB, ⟨fs, hp⟩, -⟩ := hI
  obtain ⟨e, -, h2, h3⟩ := hB.h hd bl_343
  rw [hp] at h2
  have h2 : .inr (12, fs) = e := Option.some.inj h2
  subst h2
  rw [hp]
  show fs.getD 66 .null = _
  rw [List.getD_eq_getElem?_getD, h3.2 66 383 rfl]
  rfl
/-- a number of the model written that is no reference -/
theorem pa_put {B : Nat → Nat} {w : lW} {cC : ClassId} {f : Nat → Int32} (hI : pa_I B cC f w) {k : Nat} {v : Value} {fs : List Value} (hp : hof w.1 (B 343) = some (.inr (12, fs))) (hk : ∀ r, ([(1, 0, 0), (1, 0, 0), (2, 0, 344), (2, 0, 345), (2, 0, 346), (1, 0, 0), (2, 0, 347), (1, 0, 0), (1, 0, 0), (2, 0, 348), (2, 0, 349), (2, 0, 350), (2, 0, 351), (2, 0, 352), (2, 0, 353), (1, 0, 0), (1, 99, 0), (1, 0, 0), (2, 0, 354), (1, 0, 0), (1, 0, 0), (1, 0, 0), (2, 0, 355), (1, 0, 0), (2, 0, 356), (1, 0, 0), (1, 0, 0), (1, 0, 0), (2, 0, 357), (2, 0, 358), (2, 0, 359), (2, 0, 360), (2, 0, 361), (1, 0, 0), (2, 0, 362), (1, 0, 0), (2, 0, 363), (1, 0, 0), (2, 0, 364), (2, 0, 365), (1, 0, 0), (2, 0, 366), (2, 0, 367), (1, 0, 0), (2, 0, 368), (2, 0, 369), (2, 0, 370), (1, 0, 0), (1, 0, 0), (1, 0, 0), (2, 0, 371), (1, 0, 0), (2, 0, 372), (2, 0, 373), (2, 0, 374), (1, 0, 0), (1, 0, 0), (2, 0, 375), (2, 0, 376), (2, 0, 377), (2, 0, 378), (2, 0, 379), (2, 0, 380), (1, 0, 0), (2, 0, 381), (2, 0, 382), (2, 0, 383), (2, 0, 384)] : List mk_V)[k]? ≠ some (2, 0, r)) {q : Nat} {e0 : va_E} (hq : w.1[q]? = some (B 343, e0)) : pa_I B cC f (w.1.set q (B 343, .inr (12, fs.set k v)), w.2) := by
  obtain ⟨hd, hB, -, hf⟩ := hI
  obtain ⟨e, h1, h2, h3⟩ := hB.h hd bl_343
  rw [hp] at h2
  have h2 : .inr (12, fs) = e := Option.some.inj h2
  subst h2
  have eq : q = 343 := hd q 343 _ _ hq h1 rfl
  subst eq
  refine ⟨hd.set hq, hB.set hq (fun c hc => ?_), ⟨fs.set k v, ?_⟩, ?_⟩
  · rw [bl_343] at hc
    have hc := Option.some.inj hc
    subst hc
    exact cR.fld h3 hk
  · show hof (w.1.set 343 _) (B 343) = _
    rw [hof_set hd hq, hset_at]
  · show hof (w.1.set 343 _) (B 383) = _
    rw [hof_set hd hq, hset_ne (hB.ne hd bl_383 bl_343 (by decide))]
    exact hf
abbrev paA : Type := (Nat → Nat) × Int32 × Int32 × ClassId × (Nat → Int32)
def pa_F (a : paA) : List Value := [.ref (a.1 343), .int a.2.1, .int a.2.2.1]
def pa_P (a : paA) (w : lW) : Prop := pa_I a.1 a.2.2.2.1 a.2.2.2.2 w ∧ 0 ≤ a.2.1.toInt ∧ 0 ≤ a.2.2.1.toInt ∧ a.2.1.toInt + a.2.2.1.toInt ≤ 240
def pa_g (a : paA) : Nat → Int32 := fun x => a.2.2.2.2 (a.2.1.toInt.toNat + x)
def pa_Q (a : paA) (w : lW) (rv : Option Value) (w' : lW) : Prop := pa_I a.1 a.2.2.2.1 a.2.2.2.2 w' ∧ ∃ r : Int32, rv = some (.int r) ∧ r.toInt = acA (pa_g a) a.2.2.1.toInt.toNat 0 (true, 0)
def in_pa (a : paA) : fL_ → List Value → lW → Prop := fun lg vs w => ∃ (i : Int32) (b : Bool) (o : Int32), f_sub [(5, false, .int i), (3, false, .int o), (4, false, .int (wv b)), (0, false, .ref (a.1 343)), (1, false, .int a.2.1), (2, false, .int a.2.2.1)] lg ∧ vs = [] ∧ pa_I a.1 a.2.2.2.1 a.2.2.2.2 w ∧ 0 ≤ i.toInt ∧ i.toInt ≤ a.2.2.1.toInt ∧ 0 ≤ o.toInt ∧ o.toInt ≤ i.toInt ∧ acA (pa_g a) (a.2.2.1.toInt.toNat - i.toInt.toNat) i.toInt.toNat (b, o.toInt.toNat) = acA (pa_g a) a.2.2.1.toInt.toNat 0 (true, 0)
def pa_st (a : paA) (i o : Int32) (b : Bool) (c : Int32) : Prop := 0 ≤ i.toInt ∧ i.toInt < a.2.2.1.toInt ∧ 0 ≤ o.toInt ∧ o.toInt ≤ i.toInt ∧ acA (pa_g a) (a.2.2.1.toInt.toNat - i.toInt.toNat) i.toInt.toNat (b, o.toInt.toNat) = acA (pa_g a) a.2.2.1.toInt.toNat 0 (true, 0) ∧ pa_g a i.toInt.toNat = c
def in_po (a : paA) : fL_ → List Value → lW → Prop := fun lg vs w => ∃ (i o c : Int32), f_sub [(6, false, .int c), (5, false, .int i), (3, false, .int o), (0, false, .ref (a.1 343)), (1, false, .int a.2.1), (2, false, .int a.2.2.1)] lg ∧ vs = [] ∧ pa_I a.1 a.2.2.2.1 a.2.2.2.2 w ∧ pa_st a i o true c ∧ (c.toInt = 45 ∨ c.toInt = 40 ∨ okc c)
def in_pq (a : paA) : fL_ → List Value → lW → Prop := fun lg vs w => ∃ (i o c : Int32), f_sub [(6, false, .int c), (5, false, .int i), (3, false, .int o), (0, false, .ref (a.1 343)), (1, false, .int a.2.1), (2, false, .int a.2.2.1)] lg ∧ vs = [] ∧ pa_I a.1 a.2.2.2.1 a.2.2.2.2 w ∧ pa_st a i o false c ∧ ((c.toInt = 38 ∨ c.toInt = 124 ∨ c.toInt = 62) ∨ (c.toInt = 41 ∧ 0 < o.toInt))
def in_pb (a : paA) : fL_ → List Value → lW → Prop := fun lg vs w => f_sub [(0, false, .ref (a.1 343))] lg ∧ vs = [] ∧ pa_I a.1 a.2.2.2.1 a.2.2.2.2 w ∧ acA (pa_g a) a.2.2.1.toInt.toNat 0 (true, 0) = -1
def pa_hd (a : paA) : fI lW := [(18, in_pa a), (86, in_po a), (166, in_pq a), (218, in_pb a)]
def Sp_pa : fP lW := [(457, 3, fLr r_X12_in), (564, 1, fLr r_X12_reduce), (585, 2, fLr r_X12_operand), (594, 2, fLr r_X12_operator)]
theorem Sp_pa_ok : f_sp T_X12_parse Sp_pa wW := List.forall_mem_cons.mpr ⟨sp_w rfl (fun _ _ _ _ _ _ h => h.2.2.1), List.forall_mem_cons.mpr ⟨sp_w rfl (fun _ _ _ _ _ _ h => h.2.2.1), List.forall_mem_cons.mpr ⟨sp_w rfl (fun _ _ _ _ _ _ h => h.2.2.1), List.forall_mem_cons.mpr ⟨sp_w rfl (fun _ _ _ _ _ _ h => h.2.2.1), fun _ h => absurd h List.not_mem_nil⟩⟩⟩⟩
theorem stA_m {n : Nat} {c : Int32} (h1 : ¬ c.toInt = 40) (h2 : c.toInt = 45) : stA (true, n) c = some (true, n) := by
  unfold stA
  dsimp only
  rw [if_neg h1, if_neg (by unfold okc; omega), if_pos h2]
theorem stA_o {n : Nat} {c : Int32} (h : okc c) : stA (true, n) c = some (false, n) := by
  unfold stA
  dsimp only
  rw [if_neg (by unfold okc at h; omega), if_pos h]
theorem stA_b {n : Nat} {c : Int32} (h : c.toInt = 40) : stA (true, n) c = some (true, n + 1) := by
  unfold stA
  dsimp only
  rw [if_pos h]
theorem stA_s {n : Nat} {c : Int32} (h : c.toInt = 38 ∨ c.toInt = 124 ∨ c.toInt = 62) : stA (false, n) c = some (true, n) := by
  unfold stA
  dsimp only
  rw [if_pos h]
theorem stA_c {n : Nat} {c : Int32} (h : c.toInt = 41) (hn : 0 < n) : stA (false, n) c = some (false, n - 1) := by
  unfold stA
  dsimp only
  rw [if_neg (by omega), if_pos ⟨h, hn⟩]
theorem pa_nxt {B : Nat → Nat} {fr n : Int32} {cC : ClassId} {f : Nat → Int32} {w : lW} {i o o' c : Int32} {b b' : Bool} {M : Nat} {L : fL_} (hs : f_sub [(5, false, .int (i + 1)), (3, false, .int o'), (4, false, .int (wv b')), (0, false, .ref (B 343)), (1, false, .int fr), (2, false, .int n)] L) (hI : pa_I B cC f w) (h : pa_st (B, fr, n, cC, f) i o b c) (ho : o'.toInt = (M : Int)) (hM : M ≤ i.toInt.toNat + 1) (hst : stA (b, o.toInt.toNat) c = some (b', M)) : in_pa (B, fr, n, cC, f) L [] w := by
  obtain ⟨i0, i1, -, -, h, hc⟩ := h
  have i1 : i.toInt < n.toInt := i1
  have h : acA (pa_g (B, fr, n, cC, f)) (n.toInt.toNat - i.toInt.toNat) i.toInt.toNat (b, o.toInt.toNat) = acA (pa_g (B, fr, n, cC, f)) n.toInt.toNat 0 (true, 0) := h
  have hn := Int32.toInt_lt n
  have m3 : (i + 1).toInt = i.toInt + 1 := i_inc i0 (by omega)
  have g : o'.toInt.toNat = M := by
    rw [ho]
    rfl
  generalize i + 1 = i' at hs m3
  have hI1 : i'.toInt.toNat = i.toInt.toNat + 1 := by omega
  refine ⟨i', b', o', hs, rfl, hI, (show 0 ≤ i'.toInt by omega), (show i'.toInt ≤ n.toInt by omega), (show 0 ≤ o'.toInt by omega), (show o'.toInt ≤ i'.toInt by omega), ?_⟩
  show acA (pa_g (B, fr, n, cC, f)) (n.toInt.toNat - i'.toInt.toNat) i'.toInt.toNat (b', o'.toInt.toNat) = _
  rw [hI1, g]
  exact acA_go h (by omega) (by rw [hc]; exact hst)
theorem z_add {o : Int32} (h : 0 ≤ o.toInt) : (o + 0).toInt = ((o.toInt.toNat : Nat) : Int) := by
  have h2 := Int32.toInt_lt o
  have z0 : (0 : Int32).toInt = 0 := by decide
  rw [i_add (by rw [z0]; omega) (by rw [z0]; omega), z0]
  omega
theorem z_sub {o : Int32} (h : 0 ≤ o.toInt) : (o - 0).toInt = ((o.toInt.toNat : Nat) : Int) := by
  have h2 := Int32.toInt_lt o
  have z0 : (0 : Int32).toInt = 0 := by decide
  rw [Int32.toInt_sub, z0, Int.bmod_eq_of_le (by omega) (by omega)]
  omega
theorem z_dec {o : Int32} (h : 0 < o.toInt) : (o - 1).toInt = ((o.toInt.toNat - 1 : Nat) : Int) := by
  have h2 := Int32.toInt_lt o
  have z1 : (1 : Int32).toInt = 1 := by decide
  rw [Int32.toInt_sub, z1, Int.bmod_eq_of_le (by omega) (by omega)]
  omega
section
variable {B : Nat → Nat} {fr n : Int32} {cC : ClassId} {f : Nat → Int32} {w0 : lW}
set_option maxHeartbeats 8000000 in
theorem pa_h18 (fr0 : 0 ≤ fr.toInt) (f240 : fr.toInt + n.toInt ≤ 240) : ∀ (lg : fL_) (vs : List Value) (w : lW), in_pa (B, fr, n, cC, f) lg vs w → ∃ (L : fL_) (fu : Nat), f_sub L lg ∧ wh oW T_X12_parse Sp_pa (pa_Q (B, fr, n, cC, f) w0) K_X12_parse (pa_hd (B, fr, n, cC, f)) fu 18 L vs w := by
  rintro lg vs w ⟨i, b, o, hs, rfl, hI, i0, i1, o0, o1, hinv⟩
  have hI : pa_I B cC f w := hI
  have i1 : i.toInt ≤ n.toInt := i1
  have hinv : acA (pa_g (B, fr, n, cC, f)) (n.toInt.toNat - i.toInt.toNat) i.toInt.toNat (b, o.toInt.toNat) = acA (pa_g (B, fr, n, cC, f)) n.toInt.toNat 0 (true, 0) := hinv
  have done : ∀ r : Int32, r.toInt = acA (pa_g (B, fr, n, cC, f)) n.toInt.toNat 0 (true, 0) → pa_Q (B, fr, n, cC, f) w0 (some (.int r)) w := fun r hr => ⟨hI, r, rfl, hr⟩
  have e40 : (40 : Int32).toInt = 40 := by decide
  have e41 : (41 : Int32).toInt = 41 := by decide
  have e45 : (45 : Int32).toInt = 45 := by decide
  have e48 : (48 : Int32).toInt = 48 := by decide
  have e49 : (49 : Int32).toInt = 49 := by decide
  have e62 : (62 : Int32).toInt = 62 := by decide
  have e124 : (124 : Int32).toInt = 124 := by decide
  have e38 : (38 : Int32).toInt = 38 := by decide
  refine ⟨_, 120, hs, fun hc => ?_, fun hc => ?_⟩
  · have hc : n.toInt ≤ i.toInt := hc
    have ei : i.toInt = n.toInt := by omega
    rw [ei] at hinv
    have hend := acA_end hinv
    cases b with
    | true =>
      refine ⟨fun _ => ?_, fun hz => absurd (show (1 : Int32).toInt = 0 from Classical.not_not.mp hz) (by decide)⟩
      refine done n ?_
      rw [hend, if_pos (Or.inl rfl)]
      omega
    | false =>
      refine ⟨fun hz => absurd rfl (show ¬ (0 : Int32).toInt = 0 from hz), fun _ => ⟨fun hz => ?_, fun hz => ?_⟩⟩
      · have hz : o.toInt ≤ 0 := hz
        refine ⟨⟨rfl, trivial⟩, rfl, hI, ?_⟩
        show acA (pa_g (B, fr, n, cC, f)) n.toInt.toNat 0 (true, 0) = -1
        rw [hend, if_neg (fun z => z.elim (fun z => by cases z) (fun z => by have z : 0 < o.toInt.toNat := z; omega))]
      · have hz : ¬ o.toInt ≤ 0 := hz
        refine done n ?_
        rw [hend, if_pos (Or.inr (show 0 < o.toInt.toNat by omega))]
        omega
  · have hc : ¬ n.toInt ≤ i.toInt := hc
    have hIi : i.toInt.toNat < n.toInt.toNat := by omega
    have hin : i.toInt < n.toInt := by omega
    have ec : (eI (hof w.1 (rv_ (eG fl_X12 130 (hof w.1 (B 343))))) (fr + i).toNatClampNeg) = pa_g (B, fr, n, cC, f) i.toInt.toNat := by
      have m1 : (fr + i).toInt = fr.toInt + i.toInt := i_add (by omega) (by omega)
      rw [pa_fld hI]
      show eI (hof w.1 (B 383)) _ = _
      rw [hI.2.2.2]
      show f (fr + i).toInt.toNat = f (fr.toInt.toNat + i.toInt.toNat)
      rw [m1]
      congr 1
      omega
    have bad : stA (b, o.toInt.toNat) (pa_g (B, fr, n, cC, f) i.toInt.toNat) = none → pa_Q (B, fr, n, cC, f) w0 (some (.int i)) w := fun h3 => done i (by rw [← acA_no hinv hIi h3]; omega)
    obtain ⟨c, ec2⟩ : ∃ c : Int32, pa_g (B, fr, n, cC, f) i.toInt.toNat = c := ⟨_, rfl⟩
    rw [ec2] at ec bad
    have hst : pa_st (B, fr, n, cC, f) i o b c := ⟨i0, hin, o0, o1, hinv, ec2⟩
    clear hinv done
    have eC := ec
    cases b with
    | true =>
      have go : (c.toInt = 45 ∨ c.toInt = 40 ∨ okc c) → ∀ (L : fL_) (w1 : lW), pa_I B cC f w1 → f_sub [(6, false, .int (eI (hof w.1 (rv_ (eG fl_X12 130 (hof w.1 (B 343))))) (fr + i).toNatClampNeg)), (5, false, .int i), (3, false, .int o), (0, false, .ref (B 343)), (1, false, .int fr), (2, false, .int n)] L → in_po (B, fr, n, cC, f) L [] w1 := fun hx L w1 hI1 hL => ⟨i, o, c, by rw [eC] at hL; exact hL, rfl, hI1, hst, hx⟩
      refine ⟨fun hz => absurd (show (1 : Int32).toInt = 0 from hz) (by decide), fun _ => ⟨fun ha => ?_, fun ha => ⟨fun hb => ?_, fun hb => ⟨fun hd => ?_, fun hd => ⟨fun he => ?_, fun he => ?_⟩⟩⟩⟩⟩
      · have ha : (eI (hof w.1 (rv_ (eG fl_X12 130 (hof w.1 (B 343))))) (fr + i).toNatClampNeg).toInt = (45 : Int32).toInt := ha
        rw [eC, e45] at ha
        exact go (Or.inl ha) _ _ hI ⟨rfl, rfl, rfl, rfl, rfl, rfl, trivial⟩
      · have hb : (eI (hof w.1 (rv_ (eG fl_X12 130 (hof w.1 (B 343))))) (fr + i).toNatClampNeg).toInt = (40 : Int32).toInt := hb
        rw [eC, e40] at hb
        exact go (Or.inr (Or.inl hb)) _ _ hI ⟨rfl, rfl, rfl, rfl, rfl, rfl, trivial⟩
      · have hd : (eI (hof w.1 (rv_ (eG fl_X12 130 (hof w.1 (B 343))))) (fr + i).toNatClampNeg).toInt = (48 : Int32).toInt := hd
        rw [eC, e48] at hd
        exact go (Or.inr (Or.inr (Or.inr (Or.inl hd)))) _ _ hI ⟨rfl, rfl, rfl, rfl, rfl, rfl, trivial⟩
      · have he : (eI (hof w.1 (rv_ (eG fl_X12 130 (hof w.1 (B 343))))) (fr + i).toNatClampNeg).toInt = (49 : Int32).toInt := he
        rw [eC, e49] at he
        exact go (Or.inr (Or.inr (Or.inr (Or.inr he)))) _ _ hI ⟨rfl, rfl, rfl, rfl, rfl, rfl, trivial⟩
      · have ha : ¬ (eI (hof w.1 (rv_ (eG fl_X12 130 (hof w.1 (B 343))))) (fr + i).toNatClampNeg).toInt = (45 : Int32).toInt := ha
        rw [eC, e45] at ha
        have hb : ¬ (eI (hof w.1 (rv_ (eG fl_X12 130 (hof w.1 (B 343))))) (fr + i).toNatClampNeg).toInt = (40 : Int32).toInt := hb
        rw [eC, e40] at hb
        have hd : ¬ (eI (hof w.1 (rv_ (eG fl_X12 130 (hof w.1 (B 343))))) (fr + i).toNatClampNeg).toInt = (48 : Int32).toInt := hd
        rw [eC, e48] at hd
        have he : ¬ (eI (hof w.1 (rv_ (eG fl_X12 130 (hof w.1 (B 343))))) (fr + i).toNatClampNeg).toInt = (49 : Int32).toInt := he
        rw [eC, e49] at he
        intro rv w1 hx
        have hx : fLr r_X12_in [.long (eI (hof w.1 (rv_ (eG fl_X12 130 (hof w.1 (B 343))))) (fr + i).toNatClampNeg).toInt64, .long 97, .long 104] w rv w1 := hx
        have hi1 : pa_I B cC f w1 := pa_keep hx hI (by decide) (by decide)
        obtain ⟨-, er⟩ := (s_X12_in _ _ _ _ _ _ hx).2 ((eI (hof w.1 (rv_ (eG fl_X12 130 (hof w.1 (B 343))))) (fr + i).toNatClampNeg).toInt64, 97, 104) rfl trivial
        have er : rv = some (.int (if (97 : Int64).toInt ≤ (eI (hof w.1 (rv_ (eG fl_X12 130 (hof w.1 (B 343))))) (fr + i).toNatClampNeg).toInt64.toInt ∧ (eI (hof w.1 (rv_ (eG fl_X12 130 (hof w.1 (B 343))))) (fr + i).toNatClampNeg).toInt64.toInt ≤ (104 : Int64).toInt then 1 else 0)) := er
        have e97 : (97 : Int64).toInt = 97 := by decide
        have e104 : (104 : Int64).toInt = 104 := by decide
        rw [eC, e97, e104, Int32.toInt_toInt64] at er
        subst er
        refine ⟨fun hy => ?_, fun hy => ?_⟩
        · have hy : ¬ (if 97 ≤ c.toInt ∧ c.toInt ≤ 104 then (1 : Int32) else 0).toInt = 0 := hy
          have hok : 97 ≤ c.toInt ∧ c.toInt ≤ 104 := by
            by_cases z : 97 ≤ c.toInt ∧ c.toInt ≤ 104
            · exact z
            · rw [if_neg z] at hy
              exact absurd rfl hy
          exact go (Or.inr (Or.inr (Or.inl hok))) _ _ hi1 ⟨rfl, rfl, rfl, rfl, rfl, rfl, trivial⟩
        · have hy : ¬ ¬ (if 97 ≤ c.toInt ∧ c.toInt ≤ 104 then (1 : Int32) else 0).toInt = 0 := hy
          have hno : ¬ (97 ≤ c.toInt ∧ c.toInt ≤ 104) := fun z => hy (by rw [if_pos z]; decide)
          obtain ⟨-, r, er, hr⟩ := bad (by unfold stA; dsimp only; rw [if_neg hb, if_neg (by unfold okc; omega), if_neg ha])
          exact ⟨hi1, r, er, hr⟩
    | false =>
      have go : ((c.toInt = 38 ∨ c.toInt = 124 ∨ c.toInt = 62) ∨ (c.toInt = 41 ∧ 0 < o.toInt)) → ∀ (L : fL_), f_sub [(6, false, .int (eI (hof w.1 (rv_ (eG fl_X12 130 (hof w.1 (B 343))))) (fr + i).toNatClampNeg)), (5, false, .int i), (3, false, .int o), (0, false, .ref (B 343)), (1, false, .int fr), (2, false, .int n)] L → in_pq (B, fr, n, cC, f) L [] w := fun hx L hL => ⟨i, o, c, by rw [eC] at hL; exact hL, rfl, hI, hst, hx⟩
      refine ⟨fun _ => ⟨fun ha => ?_, fun ha => ⟨fun hb => ?_, fun hb => ⟨fun hd => ?_, fun hd => ⟨fun he => ?_, fun he => ⟨fun hg => ?_, fun hg => ?_⟩⟩⟩⟩⟩, fun hz => absurd rfl (show ¬ (0 : Int32).toInt = 0 from hz)⟩
      · have ha : (eI (hof w.1 (rv_ (eG fl_X12 130 (hof w.1 (B 343))))) (fr + i).toNatClampNeg).toInt = (62 : Int32).toInt := ha
        rw [eC, e62] at ha
        exact go (Or.inl (Or.inr (Or.inr ha))) _ ⟨rfl, rfl, rfl, rfl, rfl, rfl, trivial⟩
      · have hb : (eI (hof w.1 (rv_ (eG fl_X12 130 (hof w.1 (B 343))))) (fr + i).toNatClampNeg).toInt = (124 : Int32).toInt := hb
        rw [eC, e124] at hb
        exact go (Or.inl (Or.inr (Or.inl hb))) _ ⟨rfl, rfl, rfl, rfl, rfl, rfl, trivial⟩
      · have hd : (eI (hof w.1 (rv_ (eG fl_X12 130 (hof w.1 (B 343))))) (fr + i).toNatClampNeg).toInt = (38 : Int32).toInt := hd
        rw [eC, e38] at hd
        exact go (Or.inl (Or.inl hd)) _ ⟨rfl, rfl, rfl, rfl, rfl, rfl, trivial⟩
      · have ha : ¬ (eI (hof w.1 (rv_ (eG fl_X12 130 (hof w.1 (B 343))))) (fr + i).toNatClampNeg).toInt = (62 : Int32).toInt := ha
        rw [eC, e62] at ha
        have hb : ¬ (eI (hof w.1 (rv_ (eG fl_X12 130 (hof w.1 (B 343))))) (fr + i).toNatClampNeg).toInt = (124 : Int32).toInt := hb
        rw [eC, e124] at hb
        have hd : ¬ (eI (hof w.1 (rv_ (eG fl_X12 130 (hof w.1 (B 343))))) (fr + i).toNatClampNeg).toInt = (38 : Int32).toInt := hd
        rw [eC, e38] at hd
        have he : ¬ (eI (hof w.1 (rv_ (eG fl_X12 130 (hof w.1 (B 343))))) (fr + i).toNatClampNeg).toInt = (41 : Int32).toInt := he
        rw [eC, e41] at he
        refine bad ?_
        unfold stA
        dsimp only
        rw [if_neg (by omega), if_neg (fun z => he z.1)]
      · have he : ¬ ¬ (eI (hof w.1 (rv_ (eG fl_X12 130 (hof w.1 (B 343))))) (fr + i).toNatClampNeg).toInt = (41 : Int32).toInt := he
        rw [eC, e41] at he
        have hg : 0 < o.toInt := hg
        exact go (Or.inr ⟨Classical.not_not.mp he, hg⟩) _ ⟨rfl, rfl, rfl, rfl, rfl, rfl, trivial⟩
      · have ha : ¬ (eI (hof w.1 (rv_ (eG fl_X12 130 (hof w.1 (B 343))))) (fr + i).toNatClampNeg).toInt = (62 : Int32).toInt := ha
        rw [eC, e62] at ha
        have hb : ¬ (eI (hof w.1 (rv_ (eG fl_X12 130 (hof w.1 (B 343))))) (fr + i).toNatClampNeg).toInt = (124 : Int32).toInt := hb
        rw [eC, e124] at hb
        have hd : ¬ (eI (hof w.1 (rv_ (eG fl_X12 130 (hof w.1 (B 343))))) (fr + i).toNatClampNeg).toInt = (38 : Int32).toInt := hd
        rw [eC, e38] at hd
        have hg : ¬ 0 < o.toInt := hg
        have hg2 : ¬ 0 < o.toInt.toNat := by omega
        refine bad ?_
        unfold stA
        dsimp only
        rw [if_neg (by omega), if_neg (fun z => hg2 z.2)]
set_option maxHeartbeats 8000000 in
theorem pa_h86 : ∀ (lg : fL_) (vs : List Value) (w : lW), in_po (B, fr, n, cC, f) lg vs w → ∃ (L : fL_) (fu : Nat), f_sub L lg ∧ wh oW T_X12_parse Sp_pa (pa_Q (B, fr, n, cC, f) w0) K_X12_parse (pa_hd (B, fr, n, cC, f)) fu 86 L vs w := by
  rintro lg vs w ⟨i, o, c, hs, rfl, hI, hst, hcs⟩
  have hI : pa_I B cC f w := hI
  have o0 : 0 ≤ o.toInt := hst.2.2.1
  have oi : o.toInt ≤ i.toInt := hst.2.2.2.1
  have e40 : (40 : Int32).toInt = 40 := by decide
  have e45 : (45 : Int32).toInt = 45 := by decide
  have oN : o.toInt.toNat ≤ i.toInt.toNat + 1 := by omega
  have oN1 : o.toInt.toNat + 1 ≤ i.toInt.toNat + 1 := by omega
  refine ⟨_, 60, hs, ?_⟩
  intro rv w1 hx
  have hx : fLr r_X12_operand [.ref (B 343), .int c] w rv w1 := hx
  have hi1 : pa_I B cC f w1 := pa_keep hx hI (by decide) (by decide)
  obtain rfl : rv = none := hx.2.2.2.2.2
  refine ⟨fun hA => ⟨fun hB => ?_, fun hB => ⟨fun hC => ?_, fun hC => ?_⟩⟩, fun hA => ⟨fun hB => ?_, fun hB => ⟨fun hC => ?_, fun hC => ?_⟩⟩⟩
  · have hA : ¬ c.toInt = (40 : Int32).toInt := hA
    rw [e40] at hA
    have hB : c.toInt = (45 : Int32).toInt := hB
    rw [e45] at hB
    exact pa_nxt (i := i) (o := o) (o' := o + 0) (b' := true) ⟨rfl, rfl, rfl, rfl, rfl, rfl, trivial⟩ hi1 hst (z_add o0) oN (stA_m hA hB)
  · have hA : ¬ c.toInt = (40 : Int32).toInt := hA
    rw [e40] at hA
    have hB : ¬ c.toInt = (45 : Int32).toInt := hB
    rw [e45] at hB
    have hok : okc c := (hcs.resolve_left hB).resolve_left hA
    exact pa_nxt (i := i) (o := o) (o' := o + 0) (b' := false) ⟨rfl, rfl, rfl, rfl, rfl, rfl, trivial⟩ hi1 hst (z_add o0) oN (stA_o hok)
  · have hA : ¬ c.toInt = (40 : Int32).toInt := hA
    have hC : ¬ ¬ c.toInt = (40 : Int32).toInt := hC
    exact absurd hA hC
  · have hA : ¬ ¬ c.toInt = (40 : Int32).toInt := hA
    rw [e40] at hA
    have hB : c.toInt = (45 : Int32).toInt := hB
    rw [e45] at hB
    exact absurd (fun z : c.toInt = 40 => absurd (z.symm.trans hB) (by decide)) hA
  · have hA : ¬ ¬ c.toInt = (40 : Int32).toInt := hA
    have hC : ¬ c.toInt = (40 : Int32).toInt := hC
    exact absurd hC hA
  · have hA : ¬ ¬ c.toInt = (40 : Int32).toInt := hA
    rw [e40] at hA
    have o1000 : o.toInt < 2147483647 := by
      have h1 : i.toInt < n.toInt := hst.2.1
      have h2 := Int32.toInt_lt n
      omega
    have ho : (o + 1).toInt = ((o.toInt.toNat + 1 : Nat) : Int) := by
      rw [i_inc o0 o1000]
      omega
    exact pa_nxt (i := i) (o := o) (o' := o + 1) (b' := true) ⟨rfl, rfl, rfl, rfl, rfl, rfl, trivial⟩ hi1 hst ho oN1 (stA_b (Classical.not_not.mp hA))
set_option maxHeartbeats 8000000 in
theorem pa_h166 : ∀ (lg : fL_) (vs : List Value) (w : lW), in_pq (B, fr, n, cC, f) lg vs w → ∃ (L : fL_) (fu : Nat), f_sub L lg ∧ wh oW T_X12_parse Sp_pa (pa_Q (B, fr, n, cC, f) w0) K_X12_parse (pa_hd (B, fr, n, cC, f)) fu 166 L vs w := by
  rintro lg vs w ⟨i, o, c, hs, rfl, hI, hst, hcs⟩
  have hI : pa_I B cC f w := hI
  have o0 : 0 ≤ o.toInt := hst.2.2.1
  have oi : o.toInt ≤ i.toInt := hst.2.2.2.1
  have e41 : (41 : Int32).toInt = 41 := by decide
  have oN : o.toInt.toNat ≤ i.toInt.toNat + 1 := by omega
  have oN2 : o.toInt.toNat - 1 ≤ i.toInt.toNat + 1 := by omega
  refine ⟨_, 60, hs, ?_⟩
  intro rv w1 hx
  have hx : fLr r_X12_operator [.ref (B 343), .int c] w rv w1 := hx
  have hi1 : pa_I B cC f w1 := pa_keep hx hI (by decide) (by decide)
  obtain rfl : rv = none := hx.2.2.2.2.2
  refine ⟨fun hA => ⟨fun hB => ?_, fun hB => ?_⟩, fun hA => ⟨fun hB => ?_, fun hB => ?_⟩⟩
  · have hA : ¬ c.toInt = (41 : Int32).toInt := hA
    have hB : c.toInt = (41 : Int32).toInt := hB
    exact absurd hB hA
  · have hA : ¬ c.toInt = (41 : Int32).toInt := hA
    rw [e41] at hA
    have h3 : c.toInt = 38 ∨ c.toInt = 124 ∨ c.toInt = 62 := hcs.resolve_right (fun z => hA z.1)
    exact pa_nxt (i := i) (o := o) (o' := o - 0) (b' := true) ⟨rfl, rfl, rfl, rfl, rfl, rfl, trivial⟩ hi1 hst (z_sub o0) oN (stA_s h3)
  · have hA : ¬ ¬ c.toInt = (41 : Int32).toInt := hA
    rw [e41] at hA
    have hc : c.toInt = 41 := Classical.not_not.mp hA
    have hg : 0 < o.toInt := (hcs.resolve_left (fun z => by omega)).2
    have hg2 : 0 < o.toInt.toNat := by omega
    exact pa_nxt (i := i) (o := o) (o' := o - 1) (b' := false) ⟨rfl, rfl, rfl, rfl, rfl, rfl, trivial⟩ hi1 hst (z_dec hg) oN2 (stA_c hc hg2)
  · have hA : ¬ ¬ c.toInt = (41 : Int32).toInt := hA
    have hB : ¬ c.toInt = (41 : Int32).toInt := hB
    exact absurd hB hA
theorem pa_h218 : ∀ (lg : fL_) (vs : List Value) (w : lW), in_pb (B, fr, n, cC, f) lg vs w → ∃ (L : fL_) (fu : Nat), f_sub L lg ∧ wh oW T_X12_parse Sp_pa (pa_Q (B, fr, n, cC, f) w0) K_X12_parse (pa_hd (B, fr, n, cC, f)) fu 218 L vs w := by
  rintro lg vs w ⟨hs, rfl, hI, ht⟩
  have hI : pa_I B cC f w := hI
  refine ⟨_, 30, hs, fun hc => ?_, fun hc => ?_⟩
  · refine ⟨hI, -1, rfl, ?_⟩
    rw [ht]
    decide
  · intro rv w1 hx
    have hx : fLr r_X12_reduce _ w rv w1 := hx
    have er : rv = none := hx.2.2.2.2.2
    subst er
    exact ⟨⟨rfl, trivial⟩, rfl, pa_keep hx hI (by decide) (by decide), ht⟩
end
theorem s_X12_parse : ∀ (a : paA) (w w' : lW) (rv : Option Value), fLr r_X12_parse (pa_F a) w rv w' → pa_P a w → pa_Q a w rv w' := by
  refine do_ofW pa_F pa_P pa_Q Sp_pa (fun a _ => pa_hd a) 120 fo_X12 Sp_pa_ok k_X12_parse (fun a w0 hp => ?_) (fun a w0 hp hd0 => ?_)
  · obtain ⟨B, fr, n, cC, f⟩ := a
    obtain ⟨-, fr0, n0, f240⟩ := hp
    exact List.forall_mem_cons.mpr ⟨pa_h18 fr0 f240, List.forall_mem_cons.mpr ⟨pa_h86, List.forall_mem_cons.mpr ⟨pa_h166, List.forall_mem_cons.mpr ⟨pa_h218, fun _ h => absurd h List.not_mem_nil⟩⟩⟩⟩
  · obtain ⟨B, fr, n, cC, f⟩ := a
    obtain ⟨hI, fr0, n0, -⟩ := hp
    have hI : pa_I B cC f w0 := hI
    have n0 : 0 ≤ n.toInt := n0
    have z0 : (0 : Int32).toInt = 0 := by decide
    obtain ⟨fs, hp0⟩ := hI.2.2.1
    intro q e0 hq
    have s1 : sG pl_X12 162 (.int 0) (hof w0.1 (B 343)) = .inr (12, fs.set 5 (.int 0)) := by
      rw [hp0]
      rfl
    have I1 : pa_I B cC f (w0.1.set q (B 343, sG pl_X12 162 (.int 0) (hof w0.1 (B 343))), w0.2) := by
      rw [s1]
      exact pa_put hI hp0 (fun r h => by have h : some ((1, 0, 0) : mk_V) = some (2, 0, r) := h; cases h) hq
    obtain ⟨fs1, hp1⟩ := I1.2.2.1
    intro q2 e2 hq2
    have s2 : sG pl_X12 167 (.int 0) (hof (w0.1.set q (B 343, sG pl_X12 162 (.int 0) (hof w0.1 (B 343)))) (B 343)) = .inr (12, fs1.set 7 (.int 0)) := by
      have hp1 : hof (w0.1.set q (B 343, sG pl_X12 162 (.int 0) (hof w0.1 (B 343)))) (B 343) = some (.inr (12, fs1)) := hp1
      rw [hp1]
      rfl
    have I2 : pa_I B cC f ((w0.1.set q (B 343, sG pl_X12 162 (.int 0) (hof w0.1 (B 343)))).set q2 (B 343, sG pl_X12 167 (.int 0) (hof (w0.1.set q (B 343, sG pl_X12 162 (.int 0) (hof w0.1 (B 343)))) (B 343))), w0.2) := by
      rw [s2]
      exact pa_put I1 hp1 (fun r h => by have h : some ((1, 0, 0) : mk_V) = some (2, 0, r) := h; cases h) hq2
    exact ⟨0, true, 0, ⟨rfl, rfl, rfl, rfl, rfl, rfl, trivial⟩, rfl, I2, by decide, (show (0 : Int32).toInt ≤ n.toInt by rw [z0]; exact n0), by decide, by decide, rfl⟩
