/-! a method over places -/
section
variable {T : fT} {Sp : zP} {Post : Option Value → zW → Prop} {cc : ByteArray} {code : ck_cd} {hd : zH}
theorem zret_ok {k : Nat → fL_ → List Value → zW → Prop} {len pc kd : Nat} {lgS : fL_} {ru : Option Value} {A : zW} (h : zstep T Sp Post k (ck_ri kd) len pc lgS ru.toList A) : Post ru A := by
  unfold ck_ri at h
  split at h <;> cases ru <;> first | exact h | exact (show False from h).elim
def zfin (Post : Option Value → zW → Prop) (fin : fS) (rv : Option Value) : Prop := ∃ (A' : zW) (u : Option Value), zA A' fin.2.2.2.1 fin.2.2.2.2 ∧ zvs fin.2.2.2.1 rv.toList u.toList ∧ Post u A'
theorem zvs_opt {ws : va_W} {rv : Option Value} {us : List Value} (h : zvs ws rv.toList us) : ∃ u : Option Value, us = u.toList := by
  cases rv with
  | none =>
    cases us with
    | nil => exact ⟨none, rfl⟩
    | cons _ _ => exact h.elim
  | some v =>
    obtain ⟨u, s, rfl, -, h2⟩ := zvs.cons (v := v) (r := []) h
    cases s with
    | nil => exact ⟨some u, rfl⟩
    | cons _ _ => exact h2.elim
theorem zgo_ok (hT : f_ok T = true) (hN : T.2.2.2.2.2.2 = none) (hS : zsp T Sp) (hcode : ∀ x ∈ code, decode cc x.1 = .ok (x.2.1, x.2.2)) {n : Nat}
    (ih : ∀ m, m < n → ∀ (a fin : fS) (rv : Option Value) (kd : Nat), fn_ T cc m a fin → decode cc fin.1 = .ok (ck_ri kd, 1) → fin.2.2.1 = rv.toList → ∀ (f : Nat) (suf : ck_cd) (lgS : fL_) (us : List Value) (A : zW), (∀ x ∈ suf, x ∈ code) → zrel a.2.2.2.1 lgS a.2.1 → zvs a.2.2.2.1 a.2.2.1 us → zA A a.2.2.2.1 a.2.2.2.2 → zwl T Sp Post code hd f suf a.1 lgS us A → zfin Post fin rv)
    {a fin : fS} {rv : Option Value} {kd : Nat} (hn : fn_ T cc n a fin) (hret : decode cc fin.1 = .ok (ck_ri kd, 1)) (hrv : fin.2.2.1 = rv.toList) {f : Nat} {ins : Instr} {len : Nat} {suf : ck_cd} {lgS : fL_} {us : List Value} {A : zW} (hm : (a.1, ins, len) ∈ code) (hsuf : ∀ x ∈ suf, x ∈ code) (hr : zrel a.2.2.2.1 lgS a.2.1) (hv : zvs a.2.2.2.1 a.2.2.1 us) (hA : zA A a.2.2.2.1 a.2.2.2.2)
    (h : zstep T Sp Post (zwl T Sp Post code hd f suf) ins len a.1 lgS us A) : zfin Post fin rv := by
  have hdc := hcode _ hm
  dsimp only at hdc
  cases n with
  | zero =>
    have e : a = fin := hn
    subst e
    rw [hdc] at hret
    have e1 : ins = ck_ri kd := by injection hret with z; exact congrArg Prod.fst z
    subst e1
    rw [hrv] at hv
    obtain ⟨u, rfl⟩ := zvs_opt hv
    exact ⟨A, u, hA, hv, zret_ok h⟩
  | succ n =>
    obtain ⟨b, ⟨ins', len', hd', hx⟩, hn'⟩ := hn
    rw [hdc] at hd'
    have e1 : (ins, len) = (ins', len') := by injection hd'
    have e2 : ins = ins' := congrArg Prod.fst e1
    have e3 : len = len' := congrArg Prod.snd e1
    subst e2
    subst e3
    obtain ⟨lg', us', A', r1, r2, r3, r4⟩ := zstep_ok (lg := a.2.1) (vs := a.2.2.1) (ws := a.2.2.2.1) (sh := a.2.2.2.2) hT hN hS hr hv hA hx h
    exact ih n (Nat.lt_succ_self n) b fin rv kd hn' hret hrv f suf lg' us' A' hsuf r1 r2 r3 r4
theorem zwl_ok (hT : f_ok T = true) (hN : T.2.2.2.2.2.2 = none) (hS : zsp T Sp) (hcode : ∀ x ∈ code, decode cc x.1 = .ok (x.2.1, x.2.2))
    (hh : ∀ x ∈ hd, ∀ (lg : fL_) (vs : List Value) (A : zW), x.2 lg vs A → ∃ (L : fL_) (f : Nat), f_sub L lg ∧ zwh T Sp Post code hd f x.1 L vs A) :
    ∀ (n : Nat) (a fin : fS) (rv : Option Value) (kd : Nat), fn_ T cc n a fin → decode cc fin.1 = .ok (ck_ri kd, 1) → fin.2.2.1 = rv.toList → ∀ (f : Nat) (suf : ck_cd) (lgS : fL_) (us : List Value) (A : zW), (∀ x ∈ suf, x ∈ code) → zrel a.2.2.2.1 lgS a.2.1 → zvs a.2.2.2.1 a.2.2.1 us → zA A a.2.2.2.1 a.2.2.2.2 → zwl T Sp Post code hd f suf a.1 lgS us A → zfin Post fin rv := by
  intro n
  induction n using Nat.strongRecOn with
  | ind n ih =>
    intro a fin rv kd hn hret hrv f suf lgS us A hsuf hr hv hA h
    cases f with
    | zero => exact h.elim
    | succ f =>
      unfold zwl at h
      split at h
      · rename_i x hx
        have hm := List.mem_of_find?_eq_some hx
        have hp0 := List.find?_some hx
        have hp : x.1 = a.1 := Nat.eq_of_beq_eq_true hp0
        obtain ⟨L, f', hL, hwh⟩ := hh x hm lgS _ A h
        unfold zwh at hwh
        split at hwh
        · rename_i y hy
          obtain ⟨e1, hy⟩ := ck_fndN_ok hy
          rw [hp] at e1 hy
          rw [e1] at hwh
          obtain ⟨y1, y2⟩ := ck_fnd_ok (i := y.2.1) (l := y.2.2.1) (t := y.2.2.2) hy
          exact zgo_ok hT hN hS hcode ih hn hret hrv y1 y2 (hr.sub hL) hv hA (Eq.mp zstepG_eq hwh)
        · exact hwh.elim
      · split at h
        · rename_i y hy
          obtain ⟨e1, hy⟩ := ck_sfxN_ok hy
          rw [e1] at h
          obtain ⟨y1, y2⟩ := ck_sfx_ok (i := y.2.1) (l := y.2.2.1) (t := y.2.2.2) hy hsuf
          exact zgo_ok hT hN hS hcode ih hn hret hrv y1 y2 hr hv hA (Eq.mp zstepG_eq h)
        · exact h.elim
theorem zfr_ok (hT : f_ok T = true) (hN : T.2.2.2.2.2.2 = none) (hS : zsp T Sp) (hcode : ∀ x ∈ code, decode cc x.1 = .ok (x.2.1, x.2.2))
    (hh : ∀ x ∈ hd, ∀ (lg : fL_) (vs : List Value) (A : zW), x.2 lg vs A → ∃ (L : fL_) (f : Nat), f_sub L lg ∧ zwh T Sp Post code hd f x.1 L vs A)
    {As Us : List Value} {ws : va_W} {sh : List Nat} {rv : Option Value} {ws' : va_W} {sh' : List Nat} (hf : fr T cc As ws sh rv ws' sh') {A : zW} {f : Nat} (hv : zvs ws As Us) (hA : zA A ws sh) (h : zwl T Sp Post code hd f code 0 (la 0 Us) [] A) : ∃ (A' : zW) (u : Option Value), zA A' ws' sh' ∧ zvs ws' rv.toList u.toList ∧ Post u A' := by
  obtain ⟨pc, lg, kd, h1, h2⟩ := hf
  obtain ⟨n, hn⟩ := gr_fn h1
  exact zwl_ok hT hN hS hcode hh n _ _ rv kd hn h2 rfl f code (la 0 Us) [] A (fun _ h => h) (z_la 0 hv) trivial hA h
end
/-- places stay over a call -/
theorem zx_ex {Wr : List (Nat × Nat)} {ws ws' : va_W} {sh sh' : List Nat} (hl : sh.length = ws.length) (h : ck_ex Wr ws sh ws' sh') : zx ws ws' := fun j p e hj => by
  have hlt := (List.getElem?_eq_some_iff.mp hj).1
  obtain ⟨e', h1, -⟩ := h.2 j p e (sh[j]'(by omega)) hj (List.getElem?_eq_getElem (by omega))
  exact ⟨e', h1⟩
theorem zx_fq {TT : List ck_D} {SG : List Nat} {rt : Nat} {Wr : List (Nat × Nat)} {T : fT} {cc : ByteArray} {As : List Value} {ws : va_W} {sh : List Nat} {rv : Option Value} {ws' : va_W} {sh' : List Nat} (h : fq TT SG rt Wr T cc As ws sh rv ws' sh') : zx ws ws' := by
  obtain ⟨-, -, -, h1, ⟨tys, h2, -⟩, -⟩ := h
  exact zx_ex h2.1 h1
/-- a spec: its parameters, what it asks, what it gives -/
def zs {α : Type} (F : α → List Value) (Pre : α → zW → Prop) (Q : α → zW → Option Value → zW → Prop) : zQ := fun Us A K => ∃ a, Us = F a ∧ Pre a A ∧ ∀ rv A', Q a A rv A' → K rv A'
theorem zdo_of {α : Type} {TT : List ck_D} {SG : List Nat} {rt : Nat} {Wr : List (Nat × Nat)} {T : fT} {cc : ByteArray} {code : ck_cd} (F : α → List Value) (Pre : α → zW → Prop) (Q : α → zW → Option Value → zW → Prop) (Sp : zP) (hd : α → zW → zH) (f : Nat) (hT : f_ok T = true) (hN : T.2.2.2.2.2.2 = none) (hS : zsp T Sp) (hcode : ∀ x ∈ code, decode cc x.1 = .ok (x.2.1, x.2.2))
    (hh : ∀ (a : α) (A0 : zW), Pre a A0 → ∀ x ∈ hd a A0, ∀ (lg : fL_) (vs : List Value) (A : zW), x.2 lg vs A → ∃ (L : fL_) (f : Nat), f_sub L lg ∧ zwh T Sp (Q a A0) code (hd a A0) f x.1 L vs A)
    (h : ∀ (a : α) (A0 : zW), Pre a A0 → zwl T Sp (Q a A0) code (hd a A0) f code 0 (la 0 (F a)) [] A0) : zdo (fq TT SG rt Wr T cc) (zs F Pre Q) := by
  intro As ws sh rv ws' sh' hx
  refine ⟨zx_fq hx, fun A Us K hA hv hP => ?_⟩
  obtain ⟨a, rfl, hp, hK⟩ := hP
  obtain ⟨A', u, h1, h2, h3⟩ := zfr_ok hT hN hS hcode (hh a A hp) hx.1 hv hA (h a A hp)
  exact ⟨A', u, h1, h2, hK u A' h3⟩
theorem zs_nil {T : fT} : zsp T [] := fun _ h => absurd h List.not_mem_nil
theorem zs_cons {T : fT} {key na : Nat} {P : zQ} {l : zP} {r : fR} (hT : T.2.2.2.2.2.1 key = (na, r)) (hr : zdo r P) (h : zsp T l) : zsp T ((key, na, P) :: l) := fun x hx => by
  rcases List.mem_cons.mp hx with rfl | hx
  · refine ⟨?_, ?_⟩
    · show (T.2.2.2.2.2.1 key).1 = na
      rw [hT]
    · show zdo (T.2.2.2.2.2.1 key).2 P
      rw [hT]
      exact hr
  · exact h x hx
theorem z_nop : zdo f_nop (fun _ A K => K none A) := by
  intro As ws sh rv ws' sh' hx
  obtain ⟨rfl, rfl, rfl⟩ := hx
  exact ⟨zx.rf, fun A Us K hA hv hK => ⟨A, none, hA, trivial, hK⟩⟩
theorem no_zh {Q : Nat × (fL_ → List Value → zW → Prop) → Prop} : ∀ x ∈ ([] : zH), Q x := fun _ h => absurd h List.not_mem_nil
