/-! the reference's sheets: copy -/
theorem s_X12_isBeyond : f_do r_X12_isBeyond (fun As h rv h' => ∀ a : Int32 × Int32 × Int32, As = [.int a.1, .long a.2.1.toInt64, .int a.2.2] → True → h' = h ∧ rv = some (.int (if (0 ≤ a.1.toInt ∧ 0 ≤ a.2.1.toInt) ∧ a.1.toInt + a.2.1.toInt ≤ a.2.2.toInt then 0 else 1))) := by
  refine do_ofP (fun a : Int32 × Int32 × Int32 => [.int a.1, .long a.2.1.toInt64, .int a.2.2]) (fun _ _ => True) (fun a h rv h' => h' = h ∧ rv = some (.int (if (0 ≤ a.1.toInt ∧ 0 ≤ a.2.1.toInt) ∧ a.1.toInt + a.2.1.toInt ≤ a.2.2.toInt then 0 else 1))) [] (fun _ _ => []) 40 fo_X12 no_sp k_X12_isBeyond (fun _ _ _ => no_hd) (fun a h0 _ => ?_)
  obtain ⟨i, n, s⟩ := a
  have tn : n.toInt64.toInt = n.toInt := Int32.toInt_toInt64 n
  have tz : (0 : Int64).toInt = 0 := by decide
  have ts : (i.toInt64 + n.toInt64).toInt = i.toInt + n.toInt := by
    have a1 := Int32.toInt_lt i
    have a2 := Int32.le_toInt i
    have a3 := Int32.toInt_lt n
    have a4 := Int32.le_toInt n
    rw [Int64.toInt_add, Int32.toInt_toInt64, Int32.toInt_toInt64]
    exact Int.bmod_eq_of_le (by omega) (by omega)
  have yes : ¬ ((0 ≤ i.toInt ∧ 0 ≤ n.toInt) ∧ i.toInt + n.toInt ≤ s.toInt) → h0 = h0 ∧ some (Value.int 1) = some (Value.int (if (0 ≤ i.toInt ∧ 0 ≤ n.toInt) ∧ i.toInt + n.toInt ≤ s.toInt then 0 else 1)) := by
    intro hx
    rw [if_neg hx]
    exact ⟨rfl, rfl⟩
  refine ⟨fun hc => ?_, fun hc => ⟨fun hd => ?_, fun hd => ⟨fun he => ?_, fun he => ?_⟩⟩⟩
  · have hc : i.toInt < 0 := hc
    exact yes (by omega)
  · have hd : ck_cm .lt (lg_cmp n.toInt64 0).toInt 0 := hd
    have hd : n.toInt64.toInt < (0 : Int64).toInt := ck_cm_lg.mp hd
    exact yes (by omega)
  · have hc : ¬ i.toInt < 0 := hc
    have hd : ¬ ck_cm .lt (lg_cmp n.toInt64 0).toInt 0 := hd
    have hd : ¬ n.toInt64.toInt < (0 : Int64).toInt := fun z => hd (ck_cm_lg.mpr z)
    have he : ck_cm .le (lg_cmp (i.toInt64 + n.toInt64) s.toInt64).toInt 0 := he
    have he : (i.toInt64 + n.toInt64).toInt ≤ s.toInt64.toInt := ck_cm_lg.mp he
    rw [ts, Int32.toInt_toInt64] at he
    refine ⟨rfl, ?_⟩
    show some (Value.int 0) = some (Value.int (if (0 ≤ i.toInt ∧ 0 ≤ n.toInt) ∧ i.toInt + n.toInt ≤ s.toInt then 0 else 1))
    rw [if_pos (by omega)]
  · have he : ¬ ck_cm .le (lg_cmp (i.toInt64 + n.toInt64) s.toInt64).toInt 0 := he
    have he : ¬ (i.toInt64 + n.toInt64).toInt ≤ s.toInt64.toInt := fun z => he (ck_cm_lg.mpr z)
    rw [ts, Int32.toInt_toInt64] at he
    exact yes (by omega)
def mh_at (d : md_) (q : Nat × ClassId × (Nat → Int32)) (h : fH) : Prop := d.fs.getD 67 .null = .ref q.1 ∧ h q.1 = some (.inl (q.2.1, 60, .inl q.2.2)) ∧ q.1 ≠ d.aC
def cp_ok (d : md_) (k i o j n : Int32) : Prop := ((0 ≤ k.toInt ∧ k.toInt < 4) ∧ (0 ≤ o.toInt ∧ o.toInt < 4)) ∧ ((0 ≤ i.toInt ∧ 0 ≤ j.toInt ∧ 0 ≤ n.toInt) ∧ (i.toInt + n.toInt ≤ (d.z k.toInt.toNat).toInt ∧ j.toInt + n.toInt ≤ (d.z o.toInt.toNat).toInt)) ∧ ((d.z k.toInt.toNat).toInt ≤ 60 ∧ (d.z o.toInt.toNat).toInt ≤ 60) ∧ (d.l k.toInt.toNat).toInt = (d.l o.toInt.toNat).toInt
def cp_g (d : md_) (k i : Int32) (t : Nat) (g : Nat → Int32) : Prop := ∀ u, u < t → g u = d.f (60 * k.toInt.toNat + i.toInt.toNat + u)
def cp_f (d : md_) (k i o j : Int32) (t : Nat) (f : Nat → Int32) : Prop := ∀ x, f x = if 60 * o.toInt.toNat + j.toInt.toNat ≤ x ∧ x < 60 * o.toInt.toNat + j.toInt.toNat + t then d.f (60 * k.toInt.toNat + i.toInt.toNat + (x - (60 * o.toInt.toNat + j.toInt.toNat))) else d.f x
def cp_w (d : md_) (q : Nat × ClassId × (Nat → Int32)) (g f : Nat → Int32) (h : fH) : fH := hset (hset h q.1 (.inl (q.2.1, 60, .inl g))) d.aC (.inl (d.cC, 240, .inl f))
def Q12_copy (d : md_) (q : Nat × ClassId × (Nat → Int32)) (k i o j n : Int32) (h : fH) (rv : Option Value) (h' : fH) : Prop :=
  if (0 ≤ k.toInt ∧ k.toInt < 4) ∧ (0 ≤ o.toInt ∧ o.toInt < 4) then
    if (d.z k.toInt.toNat).toInt < 0 ∨ (d.z o.toInt.toNat).toInt < 0 then rv = some (.int (-11)) ∧ h' = hset h d.p (md_f d 1)
    else if (d.l k.toInt.toNat).toInt = (d.l o.toInt.toNat).toInt then
      if (0 ≤ i.toInt ∧ 0 ≤ j.toInt ∧ 0 ≤ n.toInt) ∧ (i.toInt + n.toInt ≤ (d.z k.toInt.toNat).toInt ∧ j.toInt + n.toInt ≤ (d.z o.toInt.toNat).toInt) then rv = some (.int n) ∧ ∃ g f : Nat → Int32, cp_f d k i o j n.toInt.toNat f ∧ h' = hset (cp_w d q g f h) d.p (md_f d 0)
      else rv = some (.int (-13)) ∧ h' = hset h d.p (md_f d 3)
    else rv = some (.int (-12)) ∧ h' = hset h d.p (md_f d 2)
  else rv = some (.int (-1)) ∧ h' = hset h d.p (md_f d 0)
def in_c1 (d : md_) (q : Nat × ClassId × (Nat → Int32)) (k i o j n : Int32) (h0 : fH) : fL_ → List Value → fH → Prop := fun lg vs w => ∃ (t : Int32) (g : Nat → Int32), f_sub [(6, false, .int t), (0, false, .ref d.p), (1, false, .int k), (2, false, .int i), (3, false, .int o), (4, false, .int j), (5, false, .int n)] lg ∧ vs = [] ∧ w = cp_w d q g d.f h0 ∧ cp_ok d k i o j n ∧ 0 ≤ t.toInt ∧ t.toInt ≤ n.toInt ∧ cp_g d k i t.toInt.toNat g
def in_c2 (d : md_) (q : Nat × ClassId × (Nat → Int32)) (k i o j n : Int32) (h0 : fH) : fL_ → List Value → fH → Prop := fun lg vs w => ∃ (t : Int32) (g f : Nat → Int32), f_sub [(6, false, .int t), (0, false, .ref d.p), (1, false, .int k), (2, false, .int i), (3, false, .int o), (4, false, .int j), (5, false, .int n)] lg ∧ vs = [] ∧ w = cp_w d q g f h0 ∧ cp_ok d k i o j n ∧ 0 ≤ t.toInt ∧ t.toInt ≤ n.toInt ∧ cp_g d k i n.toInt.toNat g ∧ cp_f d k i o j t.toInt.toNat f
def in_c0 (d : md_) (k i o j n : Int32) (h0 : fH) : fL_ → List Value → fH → Prop := fun lg vs w => f_sub [(0, false, .ref d.p), (1, false, .int k), (2, false, .int i), (3, false, .int o), (4, false, .int j), (5, false, .int n)] lg ∧ vs = [] ∧ w = h0 ∧ ((0 ≤ k.toInt ∧ k.toInt < 4) ∧ (0 ≤ o.toInt ∧ o.toInt < 4)) ∧ ¬ ((d.z k.toInt.toNat).toInt < 0 ∨ (d.z o.toInt.toNat).toInt < 0) ∧ (d.l k.toInt.toNat).toInt = (d.l o.toInt.toNat).toInt
def in_c8 (d : md_) (k i o j n : Int32) (h0 : fH) : fL_ → List Value → fH → Prop := fun lg vs w => in_c0 d k i o j n h0 lg vs w ∧ ((0 ≤ i.toInt ∧ 0 ≤ n.toInt) ∧ i.toInt + n.toInt ≤ (d.z k.toInt.toNat).toInt)
abbrev cpM : Type := (md_ × (Nat × ClassId × (Nat → Int32))) × Int32 × Int32 × Int32 × Int32 × Int32
def cp_F (a : cpM) : List Value := [.ref a.1.1.p, .int a.2.1, .int a.2.2.1, .int a.2.2.2.1, .int a.2.2.2.2.1, .int a.2.2.2.2.2]
def cp_P (a : cpM) (h : fH) : Prop := md_at a.1.1 h ∧ mh_at a.1.1 a.1.2 h ∧ ∀ x, x < 4 → (a.1.1.z x).toInt ≤ 60
def cp_Q (a : cpM) (h : fH) (rv : Option Value) (h' : fH) : Prop := Q12_copy a.1.1 a.1.2 a.2.1 a.2.2.1 a.2.2.2.1 a.2.2.2.2.1 a.2.2.2.2.2 h rv h'
/-- what the loops see -/
theorem cp_see {d : md_} {q : Nat × ClassId × (Nat → Int32)} {h0 : fH} (hd : md_at d h0) (hq : mh_at d q h0) (g f : Nat → Int32) : cp_w d q g f h0 d.p = some (.inr (12, d.fs)) ∧ cp_w d q g f h0 q.1 = some (.inl (q.2.1, 60, .inl g)) ∧ cp_w d q g f h0 d.aC = some (.inl (d.cC, 240, .inl f)) ∧ eG fl_X12 130 (cp_w d q g f h0 d.p) = .ref d.aC ∧ eG fl_X12 133 (cp_w d q g f h0 d.p) = .ref q.1 := by
  obtain ⟨hp, -, -, ⟨hC, hf⟩, -⟩ := hd
  obtain ⟨hH, hh, nC⟩ := hq
  have pC := ne_of_h hp hf
  have pH := ne_of_h hp hh
  have e1 : cp_w d q g f h0 d.p = some (.inr (12, d.fs)) := by
    unfold cp_w
    rw [hset_ne (Ne.symm pC), hset_ne (Ne.symm pH), hp]
  refine ⟨e1, ?_, hset_at, ?_, ?_⟩
  · unfold cp_w
    rw [hset_ne nC, hset_at]
  · rw [e1, ← hC]
    rfl
  · rw [e1, ← hH]
    rfl
theorem cp_ix {k i t : Int32} (h1 : 0 ≤ k.toInt ∧ k.toInt < 4) (h2 : 0 ≤ i.toInt) (h3 : 0 ≤ t.toInt) (h4 : i.toInt + t.toInt ≤ 60) : (60 * k + i + t).toInt = 60 * k.toInt + i.toInt + t.toInt := by
  have e60 : (60 : Int32).toInt = 60 := by decide
  have m1 : (60 * k).toInt = 60 * k.toInt := by
    rw [i_mul (by rw [e60]; omega) (by rw [e60]; omega), e60]
  have m2 : (60 * k + i).toInt = 60 * k.toInt + i.toInt := by
    rw [i_add (by rw [m1]; omega) (by rw [m1]; omega), m1]
  rw [i_add (by rw [m2]; omega) (by rw [m2]; omega), m2]
def Pi_noSheet : fPh := fun As h rv h' => ∀ k : Int32, As = [.int k] → True → h' = h ∧ rv = some (.int (if 0 ≤ k.toInt ∧ k.toInt < 4 then 0 else 1))
def Pi_refused : fPh := fun As h rv h' => ∀ a : Nat × Int32 × List Value, As = [.ref a.1, .int a.2.1] → h a.1 = some (.inr (12, a.2.2)) → h' = hset h a.1 (.inr (12, a.2.2.set 0 (.int 0))) ∧ rv = some (.int a.2.1)
def Pi_failed : fPh := fun As h rv h' => ∀ a : Nat × Int32 × List Value, As = [.ref a.1, .int a.2.1] → h a.1 = some (.inr (12, a.2.2)) → h' = hset h a.1 (.inr (12, a.2.2.set 0 (.int a.2.1))) ∧ rv = some (.int (Int32.ofInt (-10) - a.2.1))
def Pi_isBeyond : fPh := fun As h rv h' => ∀ a : Int32 × Int32 × Int32, As = [.int a.1, .long a.2.1.toInt64, .int a.2.2] → True → h' = h ∧ rv = some (.int (if (0 ≤ a.1.toInt ∧ 0 ≤ a.2.1.toInt) ∧ a.1.toInt + a.2.1.toInt ≤ a.2.2.toInt then 0 else 1))
def SpC : fP fH := [(604, 1, Pi_noSheet), (615, 2, Pi_refused), (630, 2, Pi_failed), (640, 3, Pi_isBeyond)]
theorem SpC_ok : f_sp T_X12_copy SpC wH := List.forall_mem_cons.mpr ⟨sp_one rfl (show f_do r_X12_noSheet Pi_noSheet from s_X12_noSheet), List.forall_mem_cons.mpr ⟨sp_one rfl (show f_do r_X12_refused Pi_refused from s_X12_refused), List.forall_mem_cons.mpr ⟨sp_one rfl (show f_do r_X12_failed Pi_failed from s_X12_failed), List.forall_mem_cons.mpr ⟨sp_one rfl (show f_do r_X12_isBeyond Pi_isBeyond from s_X12_isBeyond), no_sp⟩⟩⟩⟩
def hdC (a : cpM) (h : fH) : fI fH := [(65, in_c0 a.1.1 a.2.1 a.2.2.1 a.2.2.2.1 a.2.2.2.2.1 a.2.2.2.2.2 h), (81, in_c8 a.1.1 a.2.1 a.2.2.1 a.2.2.2.1 a.2.2.2.2.1 a.2.2.2.2.2 h), (107, in_c1 a.1.1 a.1.2 a.2.1 a.2.2.1 a.2.2.2.1 a.2.2.2.2.1 a.2.2.2.2.2 h), (144, in_c2 a.1.1 a.1.2 a.2.1 a.2.2.1 a.2.2.2.1 a.2.2.2.2.1 a.2.2.2.2.2 h)]
set_option maxHeartbeats 4000000 in
theorem cp_h1 {d : md_} {q : Nat × ClassId × (Nat → Int32)} {k i o j n : Int32} {h0 : fH} (hd : md_at d h0) (hq : mh_at d q h0) : ∀ (lg : fL_) (vs : List Value) (w : fH), in_c1 d q k i o j n h0 lg vs w → ∃ (L : fL_) (f : Nat), f_sub L lg ∧ wh oH T_X12_copy SpC (cp_Q ((d, q), k, i, o, j, n) h0) K_X12_copy (hdC ((d, q), k, i, o, j, n) h0) f 107 L vs w := by
  rintro lg vs w ⟨t, g, hs, rfl, ew, hok, t0, t1, hg⟩
  have ew : w = cp_w d q g d.f h0 := ew
  have hok : cp_ok d k i o j n := hok
  have t1 : t.toInt ≤ n.toInt := t1
  have hg : cp_g d k i t.toInt.toNat g := hg
  obtain ⟨⟨hk, ho⟩, ⟨⟨i0, j0, n0⟩, b1, b2⟩, ⟨c1, c2⟩, hl⟩ := id hok
  obtain ⟨s1, s2, s3, s4, s5⟩ := cp_see hd hq g d.f
  rw [← ew] at s1 s2 s3 s4 s5
  have e0 : (0 : Int32).toInt = 0 := by decide
  refine ⟨_, 60, hs, fun hc => ?_, fun hc => ?_⟩
  · have hc : n.toInt ≤ t.toInt := hc
    have et : t.toInt = n.toInt := by omega
    rw [et] at hg
    refine ⟨0, g, d.f, ⟨rfl, rfl, rfl, rfl, rfl, rfl, rfl, trivial⟩, rfl, ew, hok, by decide, (show (0 : Int32).toInt ≤ n.toInt by rw [e0]; exact n0), hg, fun x => ?_⟩
    rw [e0, if_neg (by omega)]
  · have hc : ¬ n.toInt ≤ t.toInt := hc
    have m3 : (t + 1).toInt = t.toInt + 1 := i_inc t0 (by omega)
    have m4 := cp_ix (t := t) hk i0 t0 (by omega)
    refine ⟨t + 1, upd g t.toInt.toNat (d.f (60 * k + i + t).toInt.toNat), ⟨rfl, rfl, rfl, rfl, rfl, rfl, rfl, trivial⟩, rfl, ?_, hok, (show 0 ≤ (t + 1).toInt by omega), (show (t + 1).toInt ≤ n.toInt by omega), fun u hu => ?_⟩
    · show hset w (rv_ (eG fl_X12 133 (w d.p))) (sI t.toNatClampNeg (eI (w (rv_ (eG fl_X12 130 (w d.p)))) (60 * k + i + t).toNatClampNeg) (w (rv_ (eG fl_X12 133 (w d.p))))) = cp_w d q (upd g t.toInt.toNat (d.f (60 * k + i + t).toInt.toNat)) d.f h0
      rw [s4, s5]
      show hset w q.1 (sI t.toNatClampNeg (eI (w d.aC) (60 * k + i + t).toNatClampNeg) (w q.1)) = _
      rw [s2, s3, ew]
      have nC : q.1 ≠ d.aC := hq.2.2
      funext x
      unfold cp_w hset
      by_cases x1 : x = q.1
      · subst x1
        rw [if_pos rfl, if_neg nC, if_pos rfl]
        rfl
      · rw [if_neg x1]
        by_cases x2 : x = d.aC
        · rw [if_pos x2, if_pos x2]
        · rw [if_neg x2, if_neg x2, if_neg x1, if_neg x1]
    · have hu : u < (t + 1).toInt.toNat := hu
      show upd g t.toInt.toNat (d.f (60 * k + i + t).toInt.toNat) u = d.f (60 * k.toInt.toNat + i.toInt.toNat + u)
      by_cases eu : u = t.toInt.toNat
      · rw [eu, upd_at, m4]
        congr 1
        omega
      · rw [upd_ne eu]
        exact hg u (by omega)
set_option maxHeartbeats 4000000 in
theorem cp_h2 {d : md_} {q : Nat × ClassId × (Nat → Int32)} {k i o j n : Int32} {h0 : fH} (hd : md_at d h0) (hq : mh_at d q h0) : ∀ (lg : fL_) (vs : List Value) (w : fH), in_c2 d q k i o j n h0 lg vs w → ∃ (L : fL_) (f : Nat), f_sub L lg ∧ wh oH T_X12_copy SpC (cp_Q ((d, q), k, i, o, j, n) h0) K_X12_copy (hdC ((d, q), k, i, o, j, n) h0) f 144 L vs w := by
  rintro lg vs w ⟨t, g, f, hs, rfl, ew, hok, t0, t1, hg, hf⟩
  have ew : w = cp_w d q g f h0 := ew
  have hok : cp_ok d k i o j n := hok
  have t1 : t.toInt ≤ n.toInt := t1
  have hg : cp_g d k i n.toInt.toNat g := hg
  have hf : cp_f d k i o j t.toInt.toNat f := hf
  obtain ⟨⟨hk, ho⟩, ⟨⟨i0, j0, n0⟩, b1, b2⟩, ⟨c1, c2⟩, hl⟩ := id hok
  obtain ⟨s1, s2, s3, s4, s5⟩ := cp_see hd hq g f
  rw [← ew] at s1 s2 s3 s4 s5
  refine ⟨_, 60, hs, fun hc => ?_, fun hc => ?_⟩
  · have hc : n.toInt ≤ t.toInt := hc
    have et : t.toInt = n.toInt := by omega
    rw [et] at hf
    intro rv h3 hc3
    obtain ⟨e3, rfl⟩ := hc3 (d.p, n, d.fs) rfl s1
    have e3 : h3 = hset w d.p (md_f d 0) := e3
    show Q12_copy d q k i o j n h0 _ h3
    unfold Q12_copy
    rw [if_pos ⟨hk, ho⟩, if_neg (by omega), if_pos hl, if_pos ⟨⟨i0, j0, n0⟩, b1, b2⟩]
    refine ⟨rfl, g, f, hf, ?_⟩
    rw [e3, ew]
  · have hc : ¬ n.toInt ≤ t.toInt := hc
    have m3 : (t + 1).toInt = t.toInt + 1 := i_inc t0 (by omega)
    have m4 := cp_ix (t := t) ho j0 t0 (by omega)
    refine ⟨t + 1, g, upd f (60 * o + j + t).toInt.toNat (g t.toInt.toNat), ⟨rfl, rfl, rfl, rfl, rfl, rfl, rfl, trivial⟩, rfl, ?_, hok, (show 0 ≤ (t + 1).toInt by omega), (show (t + 1).toInt ≤ n.toInt by omega), hg, fun x => ?_⟩
    · show hset w (rv_ (eG fl_X12 130 (w d.p))) (sI (60 * o + j + t).toNatClampNeg (eI (w (rv_ (eG fl_X12 133 (w d.p)))) t.toNatClampNeg) (w (rv_ (eG fl_X12 130 (w d.p))))) = cp_w d q g (upd f (60 * o + j + t).toInt.toNat (g t.toInt.toNat)) h0
      rw [s4, s5]
      show hset w d.aC (sI (60 * o + j + t).toNatClampNeg (eI (w q.1) t.toNatClampNeg) (w d.aC)) = _
      rw [s2, s3, ew]
      exact hset_hset
    · show upd f (60 * o + j + t).toInt.toNat (g t.toInt.toNat) x = if 60 * o.toInt.toNat + j.toInt.toNat ≤ x ∧ x < 60 * o.toInt.toNat + j.toInt.toNat + (t + 1).toInt.toNat then d.f (60 * k.toInt.toNat + i.toInt.toNat + (x - (60 * o.toInt.toNat + j.toInt.toNat))) else d.f x
      rw [m3, m4]
      by_cases ex : x = (60 * o.toInt + j.toInt + t.toInt).toNat
      · rw [if_pos (by omega), ex, upd_at, hg t.toInt.toNat (by omega)]
        congr 1
        omega
      · rw [upd_ne ex, hf x]
        by_cases hx : 60 * o.toInt.toNat + j.toInt.toNat ≤ x ∧ x < 60 * o.toInt.toNat + j.toInt.toNat + t.toInt.toNat
        · rw [if_pos hx, if_pos (by omega)]
        · rw [if_neg hx, if_neg (by omega)]
set_option maxHeartbeats 4000000 in
set_option maxRecDepth 100000 in
theorem cp_en (a : cpM) (h0 : fH) (hp : cp_P a h0) : wl oH T_X12_copy SpC (cp_Q a h0) K_X12_copy (hdC a h0) 66 K_X12_copy 0 (la 0 (cp_F a)) [] h0 := by
  obtain ⟨⟨d, q⟩, k, i, o, j, n⟩ := a
  obtain ⟨hd, hq, h60⟩ := hp
  have hd : md_at d h0 := hd
  have hq : mh_at d q h0 := hq
  have h60 : ∀ x, x < 4 → (d.z x).toInt ≤ 60 := h60
  rw [show la 0 (cp_F ((d, q), k, i, o, j, n)) = [(0, false, .ref d.p), (1, false, .int k), (2, false, .int i), (3, false, .int o), (4, false, .int j), (5, false, .int n)] from rfl]
  obtain ⟨hp, ⟨hZ, hz⟩, ⟨hL, hl⟩, ⟨hC, hf⟩, -⟩ := id hd
  have g1 : eG fl_X12 124 (h0 d.p) = .ref d.aZ := by
    rw [hp, ← hZ]
    rfl
  have g2 : eG fl_X12 127 (h0 d.p) = .ref d.aL := by
    rw [hp, ← hL]
    rfl
  have iZ : ∀ k : Int32, eI (h0 (rv_ (eG fl_X12 124 (h0 d.p)))) k.toNatClampNeg = d.z k.toInt.toNat := by
    intro k
    rw [g1]
    show eI (h0 d.aZ) _ = _
    rw [hz]
    rfl
  have iL : ∀ k : Int32, eI (h0 (rv_ (eG fl_X12 127 (h0 d.p)))) k.toNatClampNeg = d.l k.toInt.toNat := by
    intro k
    rw [g2]
    show eI (h0 d.aL) _ = _
    rw [hl]
    rfl
  have bad : ¬ ((0 ≤ k.toInt ∧ k.toInt < 4) ∧ (0 ≤ o.toInt ∧ o.toInt < 4)) → ∀ (rv : Option Value) (h3 : fH), (∀ a : Nat × Int32 × List Value, [Value.ref d.p, .int (Int32.ofInt (-1))] = [.ref a.1, .int a.2.1] → h0 a.1 = some (.inr (12, a.2.2)) → h3 = hset h0 a.1 (.inr (12, a.2.2.set 0 (.int 0))) ∧ rv = some (.int a.2.1)) → rv = some (.int (-1)) ∧ Q12_copy d q k i o j n h0 (some (.int (-1))) h3 := by
    intro hb rv h3 hc
    obtain ⟨e3, rfl⟩ := hc (d.p, -1, d.fs) rfl hp
    refine ⟨rfl, ?_⟩
    unfold Q12_copy
    rw [if_neg hb]
    exact ⟨rfl, e3⟩
  intro rv h1 hc
  obtain ⟨e1, rfl⟩ := hc k rfl trivial
  have e1 : h1 = h0 := e1
  subst h1
  refine ⟨fun hc => ?_, fun hc => ?_⟩
  · have hk : ¬ (0 ≤ k.toInt ∧ k.toInt < 4) := by
      intro hk
      have hc : ¬ (if 0 ≤ k.toInt ∧ k.toInt < 4 then (0 : Int32) else 1).toInt = 0 := hc
      rw [if_pos hk] at hc
      exact hc (by decide)
    intro rv h3 hc3
    obtain ⟨rfl, hx⟩ := bad (fun z => hk z.1) rv h3 hc3
    exact hx
  have hk : 0 ≤ k.toInt ∧ k.toInt < 4 := by
    by_cases hk : 0 ≤ k.toInt ∧ k.toInt < 4
    · exact hk
    · have hc : ¬ ¬ (if 0 ≤ k.toInt ∧ k.toInt < 4 then (0 : Int32) else 1).toInt = 0 := hc
      rw [if_neg hk] at hc
      exact absurd (by decide) hc
  intro rv h2 hc
  obtain ⟨e2, rfl⟩ := hc o rfl trivial
  have e2 : h2 = h0 := e2
  subst h2
  refine ⟨fun hc => ?_, fun hc => ?_⟩
  rotate_left
  · have ho : ¬ (0 ≤ o.toInt ∧ o.toInt < 4) := by
      intro ho
      have hc : ¬ (if 0 ≤ o.toInt ∧ o.toInt < 4 then (0 : Int32) else 1).toInt = 0 := hc
      rw [if_pos ho] at hc
      exact hc (by decide)
    intro rv h3 hc3
    obtain ⟨rfl, hx⟩ := bad (fun z => ho z.2) rv h3 hc3
    exact hx
  have ho : 0 ≤ o.toInt ∧ o.toInt < 4 := by
    by_cases ho : 0 ≤ o.toInt ∧ o.toInt < 4
    · exact ho
    · have hc : (if 0 ≤ o.toInt ∧ o.toInt < 4 then (0 : Int32) else 1).toInt = 0 := hc
      rw [if_neg ho] at hc
      exact absurd hc (by decide)
  have flt : ∀ (x : Int32) (rv : Option Value) (h3 : fH), (∀ a : Nat × Int32 × List Value, [Value.ref d.p, .int x] = [.ref a.1, .int a.2.1] → h0 a.1 = some (.inr (12, a.2.2)) → h3 = hset h0 a.1 (.inr (12, a.2.2.set 0 (.int a.2.1))) ∧ rv = some (.int (Int32.ofInt (-10) - a.2.1))) → rv = some (.int (Int32.ofInt (-10) - x)) ∧ h3 = hset h0 d.p (md_f d x) := by
    intro x rv h3 hc
    obtain ⟨e3, e4⟩ := hc (d.p, x, d.fs) rfl hp
    exact ⟨e4, e3⟩
  have nul : ((d.z k.toInt.toNat).toInt < 0 ∨ (d.z o.toInt.toNat).toInt < 0) → ∀ h3 : fH, h3 = hset h0 d.p (md_f d 1) → Q12_copy d q k i o j n h0 (some (.int (Int32.ofInt (-10) - 1))) h3 := by
    intro hx h3 e3
    unfold Q12_copy
    rw [if_pos ⟨hk, ho⟩, if_pos hx]
    exact ⟨f10_1, e3⟩
  refine ⟨fun ha => ?_, fun ha => ?_⟩
  · have ha : (eI (h0 (rv_ (eG fl_X12 124 (h0 d.p)))) k.toNatClampNeg).toInt < 0 := ha
    rw [iZ] at ha
    intro rv h3 hc
    obtain ⟨rfl, e3⟩ := flt 1 rv h3 hc
    exact nul (Or.inl ha) h3 e3
  have ha : ¬ (eI (h0 (rv_ (eG fl_X12 124 (h0 d.p)))) k.toNatClampNeg).toInt < 0 := ha
  rw [iZ] at ha
  refine ⟨fun hb => ?_, fun hb => ?_⟩
  rotate_left
  · have hb : ¬ 0 ≤ (eI (h0 (rv_ (eG fl_X12 124 (h0 d.p)))) o.toNatClampNeg).toInt := hb
    rw [iZ] at hb
    intro rv h3 hc
    obtain ⟨rfl, e3⟩ := flt 1 rv h3 hc
    exact nul (Or.inr (by omega)) h3 e3
  have hb : 0 ≤ (eI (h0 (rv_ (eG fl_X12 124 (h0 d.p)))) o.toNatClampNeg).toInt := hb
  rw [iZ] at hb
  have nn : ¬ ((d.z k.toInt.toNat).toInt < 0 ∨ (d.z o.toInt.toNat).toInt < 0) := by omega
  refine ⟨fun hm => ?_, fun hm => ?_⟩
  rotate_left
  · have hm : ¬ (eI (h0 (rv_ (eG fl_X12 127 (h0 d.p)))) k.toNatClampNeg).toInt = (eI (h0 (rv_ (eG fl_X12 127 (h0 d.p)))) o.toNatClampNeg).toInt := hm
    rw [iL, iL] at hm
    intro rv h3 hc
    obtain ⟨rfl, e3⟩ := flt 2 rv h3 hc
    show Q12_copy d q k i o j n h0 _ h3
    unfold Q12_copy
    rw [if_pos ⟨hk, ho⟩, if_neg nn, if_neg hm]
    exact ⟨f10_2, e3⟩
  have hm : (eI (h0 (rv_ (eG fl_X12 127 (h0 d.p)))) k.toNatClampNeg).toInt = (eI (h0 (rv_ (eG fl_X12 127 (h0 d.p)))) o.toNatClampNeg).toInt := hm
  rw [iL, iL] at hm
  exact ⟨⟨rfl, rfl, rfl, rfl, rfl, rfl, trivial⟩, rfl, rfl, ⟨hk, ho⟩, nn, hm⟩
set_option maxHeartbeats 4000000 in
set_option maxRecDepth 100000 in
theorem cp_h0 {d : md_} {q : Nat × ClassId × (Nat → Int32)} {k i o j n : Int32} {h0 : fH} (hd : md_at d h0) : ∀ (lg : fL_) (vs : List Value) (w : fH), in_c0 d k i o j n h0 lg vs w → ∃ (L : fL_) (f : Nat), f_sub L lg ∧ wh oH T_X12_copy SpC (cp_Q ((d, q), k, i, o, j, n) h0) K_X12_copy (hdC ((d, q), k, i, o, j, n) h0) f 65 L vs w := by
  rintro lg vs w ⟨hs0, rfl, ew, ⟨hk, ho⟩, nn, hm⟩
  have ew : w = h0 := ew
  subst w
  obtain ⟨hp, ⟨hZ, hz⟩, -, ⟨hC, hf⟩, -⟩ := id hd
  have g1 : eG fl_X12 124 (h0 d.p) = .ref d.aZ := by
    rw [hp, ← hZ]
    rfl
  have iZ : ∀ k : Int32, eI (h0 (rv_ (eG fl_X12 124 (h0 d.p)))) k.toNatClampNeg = d.z k.toInt.toNat := by
    intro k
    rw [g1]
    show eI (h0 d.aZ) _ = _
    rw [hz]
    rfl
  have flt : ∀ (x : Int32) (rv : Option Value) (h3 : fH), (∀ a : Nat × Int32 × List Value, [Value.ref d.p, .int x] = [.ref a.1, .int a.2.1] → h0 a.1 = some (.inr (12, a.2.2)) → h3 = hset h0 a.1 (.inr (12, a.2.2.set 0 (.int a.2.1))) ∧ rv = some (.int (Int32.ofInt (-10) - a.2.1))) → rv = some (.int (Int32.ofInt (-10) - x)) ∧ h3 = hset h0 d.p (md_f d x) := by
    intro x rv h3 hc
    obtain ⟨e3, e4⟩ := hc (d.p, x, d.fs) rfl hp
    exact ⟨e4, e3⟩
  have out : ¬ ((0 ≤ i.toInt ∧ 0 ≤ j.toInt ∧ 0 ≤ n.toInt) ∧ (i.toInt + n.toInt ≤ (d.z k.toInt.toNat).toInt ∧ j.toInt + n.toInt ≤ (d.z o.toInt.toNat).toInt)) → ∀ h3 : fH, h3 = hset h0 d.p (md_f d 3) → Q12_copy d q k i o j n h0 (some (.int (Int32.ofInt (-10) - 3))) h3 := by
    intro hx h3 e3
    unfold Q12_copy
    rw [if_pos ⟨hk, ho⟩, if_neg nn, if_pos hm, if_neg hx]
    exact ⟨f10_3, e3⟩
  refine ⟨_, 60, hs0, ?_⟩
  intro rv h2 hc
  obtain ⟨e2, rfl⟩ := hc (i, n, eI (h0 (rv_ (eG fl_X12 124 (h0 d.p)))) k.toNatClampNeg) rfl trivial
  have e2 : h2 = h0 := e2
  subst h2
  refine ⟨fun hs => ?_, fun hs => ?_⟩
  · have hs : ¬ (if (0 ≤ i.toInt ∧ 0 ≤ n.toInt) ∧ i.toInt + n.toInt ≤ (eI (h0 (rv_ (eG fl_X12 124 (h0 d.p)))) k.toNatClampNeg).toInt then (0 : Int32) else 1).toInt = 0 := hs
    rw [iZ] at hs
    have hs : ¬ ((0 ≤ i.toInt ∧ 0 ≤ n.toInt) ∧ i.toInt + n.toInt ≤ (d.z k.toInt.toNat).toInt) := by
      intro hx
      rw [if_pos hx] at hs
      exact hs (by decide)
    intro rv h3 hc
    obtain ⟨rfl, e3⟩ := flt 3 rv h3 hc
    exact out (fun z => by omega) h3 e3
  have hs : ¬ ¬ (if (0 ≤ i.toInt ∧ 0 ≤ n.toInt) ∧ i.toInt + n.toInt ≤ (eI (h0 (rv_ (eG fl_X12 124 (h0 d.p)))) k.toNatClampNeg).toInt then (0 : Int32) else 1).toInt = 0 := hs
  rw [iZ] at hs
  have hs : (0 ≤ i.toInt ∧ 0 ≤ n.toInt) ∧ i.toInt + n.toInt ≤ (d.z k.toInt.toNat).toInt := by
    by_cases hx : (0 ≤ i.toInt ∧ 0 ≤ n.toInt) ∧ i.toInt + n.toInt ≤ (d.z k.toInt.toNat).toInt
    · exact hx
    · rw [if_neg hx] at hs
      exact absurd (by decide) hs
  exact ⟨⟨⟨rfl, rfl, rfl, rfl, rfl, rfl, trivial⟩, rfl, rfl, ⟨hk, ho⟩, nn, hm⟩, hs⟩
set_option maxHeartbeats 4000000 in
set_option maxRecDepth 100000 in
theorem cp_h8 {d : md_} {q : Nat × ClassId × (Nat → Int32)} {k i o j n : Int32} {h0 : fH} (hd : md_at d h0) (hq : mh_at d q h0) (h60 : ∀ x, x < 4 → (d.z x).toInt ≤ 60) : ∀ (lg : fL_) (vs : List Value) (w : fH), in_c8 d k i o j n h0 lg vs w → ∃ (L : fL_) (f : Nat), f_sub L lg ∧ wh oH T_X12_copy SpC (cp_Q ((d, q), k, i, o, j, n) h0) K_X12_copy (hdC ((d, q), k, i, o, j, n) h0) f 81 L vs w := by
  rintro lg vs w ⟨⟨hs0, rfl, ew, ⟨hk, ho⟩, nn, hm⟩, hs⟩
  have ew : w = h0 := ew
  subst w
  obtain ⟨hp, ⟨hZ, hz⟩, -, ⟨hC, hf⟩, -⟩ := id hd
  have g1 : eG fl_X12 124 (h0 d.p) = .ref d.aZ := by
    rw [hp, ← hZ]
    rfl
  have iZ : ∀ k : Int32, eI (h0 (rv_ (eG fl_X12 124 (h0 d.p)))) k.toNatClampNeg = d.z k.toInt.toNat := by
    intro k
    rw [g1]
    show eI (h0 d.aZ) _ = _
    rw [hz]
    rfl
  have flt : ∀ (x : Int32) (rv : Option Value) (h3 : fH), (∀ a : Nat × Int32 × List Value, [Value.ref d.p, .int x] = [.ref a.1, .int a.2.1] → h0 a.1 = some (.inr (12, a.2.2)) → h3 = hset h0 a.1 (.inr (12, a.2.2.set 0 (.int a.2.1))) ∧ rv = some (.int (Int32.ofInt (-10) - a.2.1))) → rv = some (.int (Int32.ofInt (-10) - x)) ∧ h3 = hset h0 d.p (md_f d x) := by
    intro x rv h3 hc
    obtain ⟨e3, e4⟩ := hc (d.p, x, d.fs) rfl hp
    exact ⟨e4, e3⟩
  have out : ¬ ((0 ≤ i.toInt ∧ 0 ≤ j.toInt ∧ 0 ≤ n.toInt) ∧ (i.toInt + n.toInt ≤ (d.z k.toInt.toNat).toInt ∧ j.toInt + n.toInt ≤ (d.z o.toInt.toNat).toInt)) → ∀ h3 : fH, h3 = hset h0 d.p (md_f d 3) → Q12_copy d q k i o j n h0 (some (.int (Int32.ofInt (-10) - 3))) h3 := by
    intro hx h3 e3
    unfold Q12_copy
    rw [if_pos ⟨hk, ho⟩, if_neg nn, if_pos hm, if_neg hx]
    exact ⟨f10_3, e3⟩
  refine ⟨_, 60, hs0, ?_⟩
  intro rv h2 hc
  obtain ⟨e2, rfl⟩ := hc (j, n, eI (h0 (rv_ (eG fl_X12 124 (h0 d.p)))) o.toNatClampNeg) rfl trivial
  have e2 : h2 = h0 := e2
  subst h2
  refine ⟨fun ht => ?_, fun ht => ?_⟩
  rotate_left
  · have ht : ¬ (if (0 ≤ j.toInt ∧ 0 ≤ n.toInt) ∧ j.toInt + n.toInt ≤ (eI (h0 (rv_ (eG fl_X12 124 (h0 d.p)))) o.toNatClampNeg).toInt then (0 : Int32) else 1).toInt = 0 := ht
    rw [iZ] at ht
    have ht : ¬ ((0 ≤ j.toInt ∧ 0 ≤ n.toInt) ∧ j.toInt + n.toInt ≤ (d.z o.toInt.toNat).toInt) := by
      intro hx
      rw [if_pos hx] at ht
      exact ht (by decide)
    intro rv h3 hc
    obtain ⟨rfl, e3⟩ := flt 3 rv h3 hc
    exact out (fun z => by omega) h3 e3
  have ht : (if (0 ≤ j.toInt ∧ 0 ≤ n.toInt) ∧ j.toInt + n.toInt ≤ (eI (h0 (rv_ (eG fl_X12 124 (h0 d.p)))) o.toNatClampNeg).toInt then (0 : Int32) else 1).toInt = 0 := ht
  rw [iZ] at ht
  have ht : (0 ≤ j.toInt ∧ 0 ≤ n.toInt) ∧ j.toInt + n.toInt ≤ (d.z o.toInt.toNat).toInt := by
    by_cases hx : (0 ≤ j.toInt ∧ 0 ≤ n.toInt) ∧ j.toInt + n.toInt ≤ (d.z o.toInt.toNat).toInt
    · exact hx
    · rw [if_neg hx] at ht
      exact absurd ht (by decide)
  have e0 : (0 : Int32).toInt = 0 := by decide
  have hself : cp_w d q q.2.2 d.f h0 = h0 := by
    unfold cp_w
    rw [hset_self (show h0 q.1 = some (.inl (q.2.1, 60, .inl q.2.2)) from hq.2.1), hset_self hf]
  have hok : cp_ok d k i o j n := ⟨⟨hk, ho⟩, ⟨⟨hs.1.1, ht.1.1, hs.1.2⟩, hs.2, ht.2⟩, ⟨h60 k.toInt.toNat (by omega), h60 o.toInt.toNat (by omega)⟩, hm⟩
  have hle : (0 : Int32).toInt ≤ n.toInt := by rw [e0]; exact hs.1.2
  have hgg : cp_g d k i (0 : Int32).toInt.toNat q.2.2 := fun u hu => by
    rw [e0] at hu
    exact absurd hu (Nat.not_lt_zero _)
  have hfin : in_c1 d q k i o j n h0 [(6, false, .int 0), (0, false, .ref d.p), (1, false, .int k), (2, false, .int i), (3, false, .int o), (4, false, .int j), (5, false, .int n)] [] h0 := ⟨0, q.2.2, ⟨rfl, rfl, rfl, rfl, rfl, rfl, rfl, trivial⟩, rfl, hself.symm, hok, by decide, hle, hgg⟩
  exact hfin
theorem s_X12_copy : f_do r_X12_copy (fun As h rv h' => ∀ a : cpM, As = cp_F a → cp_P a h → cp_Q a h rv h') := by
  refine do_ofP cp_F cp_P cp_Q SpC hdC 66 fo_X12 SpC_ok k_X12_copy (fun a h0 hp => ?_) cp_en
  obtain ⟨⟨d, q⟩, k, i, o, j, n⟩ := a
  obtain ⟨hd, hq, h60⟩ := hp
  exact List.forall_mem_cons.mpr ⟨cp_h0 hd, List.forall_mem_cons.mpr ⟨cp_h8 hd hq h60, List.forall_mem_cons.mpr ⟨cp_h1 hd hq, List.forall_mem_cons.mpr ⟨cp_h2 hd hq, fun _ h => absurd h List.not_mem_nil⟩⟩⟩⟩
