noncomputable section
/-! a whole trace -/
def fn_ (T : fT) (cc : ByteArray) : Nat → fS → fS → Prop
  | 0, a, b => a = b
  | n + 1, a, b => ∃ c, fx T cc a c ∧ fn_ T cc n c b
theorem fn_snoc {T : fT} {cc : ByteArray} : ∀ {n : Nat} {a b c : fS}, fn_ T cc n a b → fx T cc b c → fn_ T cc (n + 1) a c
  | 0, a, b, c, h, hx => by
    have h : a = b := h
    subst h
    exact ⟨c, hx, rfl⟩
  | n + 1, a, b, c, h, hx => by
    obtain ⟨d, h1, h2⟩ := h
    exact ⟨d, h1, fn_snoc h2 hx⟩
theorem gr_fn {T : fT} {cc : ByteArray} {s0 a : fS} (h : gr T cc s0 a) : ∃ n, fn_ T cc n s0 a :=
  h (fun a => ∃ n, fn_ T cc n s0 a) ⟨0, rfl⟩ (fun _ _ ⟨n, hn⟩ hx => ⟨n + 1, fn_snoc hn hx⟩)
section
variable {W : Type} {O : fO W} {T : fT} {Sp : fP W} {Rw : W → va_W → List Nat → Prop} {Post : Option Value → W → Prop} {cc : ByteArray} {code : ck_cd} {hd : fI W}
theorem wret_ok {k : Nat → fL_ → List Value → W → Prop} {len pc kd : Nat} {lgS : fL_} {rv : Option Value} {w : W} (h : wstep O T Sp Post k (ck_ri kd) len pc lgS rv.toList w) : Post rv w := by
  unfold ck_ri at h
  split at h <;> cases rv <;> first | exact h | exact (show False from h).elim
theorem wgo_ok (hO : f_wr O Rw) (hT : f_ok T = true) (hS : f_sp T Sp Rw) (hcode : ∀ x ∈ code, decode cc x.1 = .ok (x.2.1, x.2.2)) {n : Nat}
    (ih : ∀ m, m < n → ∀ (a fin : fS) (rv : Option Value) (kd : Nat), fn_ T cc m a fin → decode cc fin.1 = .ok (ck_ri kd, 1) → fin.2.2.1 = rv.toList → ∀ (f : Nat) (suf : ck_cd) (lgS : fL_) (w : W), (∀ x ∈ suf, x ∈ code) → f_rel lgS a.2.1 → Rw w a.2.2.2.1 a.2.2.2.2 → wl O T Sp Post code hd f suf a.1 lgS a.2.2.1 w → ∃ wF, Rw wF fin.2.2.2.1 fin.2.2.2.2 ∧ Post rv wF)
    {a fin : fS} {rv : Option Value} {kd : Nat} (hn : fn_ T cc n a fin) (hret : decode cc fin.1 = .ok (ck_ri kd, 1)) (hrv : fin.2.2.1 = rv.toList) {f : Nat} {ins : Instr} {len : Nat} {suf : ck_cd} {lgS : fL_} {w : W} (hm : (a.1, ins, len) ∈ code) (hsuf : ∀ x ∈ suf, x ∈ code) (hr : f_rel lgS a.2.1) (hw : Rw w a.2.2.2.1 a.2.2.2.2)
    (h : wstep O T Sp Post (wl O T Sp Post code hd f suf) ins len a.1 lgS a.2.2.1 w) : ∃ wF, Rw wF fin.2.2.2.1 fin.2.2.2.2 ∧ Post rv wF := by
  have hdc := hcode _ hm
  dsimp only at hdc
  cases n with
  | zero =>
    have e : a = fin := hn
    subst e
    rw [hdc] at hret
    have e1 : ins = ck_ri kd := by injection hret with z; exact congrArg Prod.fst z
    subst e1
    rw [hrv] at h
    exact ⟨w, hw, wret_ok h⟩
  | succ n =>
    obtain ⟨b, ⟨ins', len', hd', hx⟩, hn'⟩ := hn
    rw [hdc] at hd'
    have e1 : (ins, len) = (ins', len') := by injection hd'
    have e2 : ins = ins' := congrArg Prod.fst e1
    have e3 : len = len' := congrArg Prod.snd e1
    subst e2
    subst e3
    obtain ⟨lg', w', r1, r2, r3⟩ := wstep_ok (lg := a.2.1) (ws := a.2.2.2.1) (sh := a.2.2.2.2) hO hT hS hr hw hx h
    exact ih n (Nat.lt_succ_self n) b fin rv kd hn' hret hrv f suf lg' w' hsuf r1 r2 r3
theorem wl_ok (hO : f_wr O Rw) (hT : f_ok T = true) (hS : f_sp T Sp Rw) (hcode : ∀ x ∈ code, decode cc x.1 = .ok (x.2.1, x.2.2))
    (hh : ∀ x ∈ hd, ∀ (lg : fL_) (vs : List Value) (w : W), x.2 lg vs w → ∃ (L : fL_) (f : Nat), f_sub L lg ∧ wh O T Sp Post code hd f x.1 L vs w) :
    ∀ (n : Nat) (a fin : fS) (rv : Option Value) (kd : Nat), fn_ T cc n a fin → decode cc fin.1 = .ok (ck_ri kd, 1) → fin.2.2.1 = rv.toList → ∀ (f : Nat) (suf : ck_cd) (lgS : fL_) (w : W), (∀ x ∈ suf, x ∈ code) → f_rel lgS a.2.1 → Rw w a.2.2.2.1 a.2.2.2.2 → wl O T Sp Post code hd f suf a.1 lgS a.2.2.1 w → ∃ wF, Rw wF fin.2.2.2.1 fin.2.2.2.2 ∧ Post rv wF := by
  intro n
  induction n using Nat.strongRecOn with
  | ind n ih =>
    intro a fin rv kd hn hret hrv f suf lgS w hsuf hr hw h
    cases f with
    | zero => exact h.elim
    | succ f =>
      unfold wl at h
      split at h
      · rename_i x hx
        have hm := List.mem_of_find?_eq_some hx
        have hp0 := List.find?_some hx
        have hp : x.1 = a.1 := Nat.eq_of_beq_eq_true hp0
        obtain ⟨L, f', hL, hwh⟩ := hh x hm lgS _ w h
        unfold wh at hwh
        split at hwh
        · rename_i y hy
          obtain ⟨e1, hy⟩ := ck_fndN_ok hy
          rw [hp] at e1 hy
          rw [e1] at hwh
          obtain ⟨y1, y2⟩ := ck_fnd_ok (i := y.2.1) (l := y.2.2.1) (t := y.2.2.2) hy
          exact wgo_ok hO hT hS hcode ih hn hret hrv y1 y2 (hr.sub hL) hw (Eq.mp wstepG_eq hwh)
        · exact hwh.elim
      · split at h
        · rename_i y hy
          obtain ⟨e1, hy⟩ := ck_sfxN_ok hy
          rw [e1] at h
          obtain ⟨y1, y2⟩ := ck_sfx_ok (i := y.2.1) (l := y.2.2.1) (t := y.2.2.2) hy hsuf
          exact wgo_ok hO hT hS hcode ih hn hret hrv y1 y2 hr hw (Eq.mp wstepG_eq h)
        · exact h.elim
/-- a method: what is said of its traces holds of what it does -/
theorem fr_ok (hO : f_wr O Rw) (hT : f_ok T = true) (hS : f_sp T Sp Rw) (hcode : ∀ x ∈ code, decode cc x.1 = .ok (x.2.1, x.2.2))
    (hh : ∀ x ∈ hd, ∀ (lg : fL_) (vs : List Value) (w : W), x.2 lg vs w → ∃ (L : fL_) (f : Nat), f_sub L lg ∧ wh O T Sp Post code hd f x.1 L vs w)
    {As : List Value} {ws : va_W} {sh : List Nat} {rv : Option Value} {ws' : va_W} {sh' : List Nat} (hf : fr T cc As ws sh rv ws' sh') {lgS : fL_} {w : W} {f : Nat} (hr : f_rel lgS (lv_args 0 As)) (hw : Rw w ws sh) (h : wl O T Sp Post code hd f code 0 lgS [] w) : ∃ wF, Rw wF ws' sh' ∧ Post rv wF := by
  obtain ⟨pc, lg, kd, h1, h2⟩ := hf
  obtain ⟨n, hn⟩ := gr_fn h1
  exact wl_ok hO hT hS hcode hh n _ _ rv kd hn h2 rfl f code lgS w (fun _ h => h) hr hw h
end
/-- the worlds of methods: what they hold by address -/
def oH : fO fH := (fun h => h, fun h p e K => K (hset h p e), fun h q e _ K => K (hset h q e))
def wH (h : fH) (ws : va_W) (_ : List Nat) : Prop := h = hof ws ∧ f_dj ws
theorem oH_ok : f_wr oH wH := by
  refine ⟨fun w ws sh h => h, fun w ws sh p q e e' K h hq hk => ?_, fun w ws sh q t e K h hd hk => ?_⟩
  · obtain ⟨rfl, hdj⟩ := h
    exact ⟨_, ⟨(hof_set hdj hq).symm, hdj.set hq⟩, hk⟩
  · obtain ⟨rfl, hdj⟩ := h
    exact ⟨_, ⟨(hof_app hd).1.symm, hd⟩, hk⟩
end
