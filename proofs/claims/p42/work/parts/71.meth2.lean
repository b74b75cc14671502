noncomputable section
theorem ck_ofW {l : Launch} {y : MethodName} {ws ws' : List Cond} {rm : Room} {Pc : Array Value → State → Prop} {Qc : Array Value → State → Outcome → State → Prop} {mc ms : Nat} {free : Addr → Prop} {cc : ByteArray} {maxL : Nat} {ret : Option FieldType}
    (hy : plainFor y = true) (hw : ws = Cond.code y cc maxL ret :: ws')
    (body : ∀ p e s m args below meth c s₁, BodyLoose p l y (headSpec ws rm) cc maxL ret e s m args below meth c s₁ → c.maxLocals = maxL → Pc args s →
      W p l e (headSpec ws rm).room s m args below meth c s.heap [] 0 0 (MQ below Qc args s mc ms free) (entryFrame m args maxL)) : Met l y ws rm Pc Qc mc ms free := by
  refine MetFree.of_bodySF (code := cc) (maxLocals := maxL) (ret := ret) hy (fun args s m h hn => ?_) (fun p e s m args below meth c s₁ B hml hP _ => ?_)
  · obtain ⟨meth, c, h1, h2, h3, h4, h5, h6, -, -⟩ := Cond.code_spec hn (atoms_spec (ws := ws) h _ (by rw [hw]; exact List.mem_cons_self))
    exact ⟨meth, c, h1, h2, h3, h4, h5, h6⟩
  · have hh0 : s₁.heap = s.heap := by rw [B.state]; rfl
    obtain ⟨t, a1, o, b1, b2, b3⟩ := body p e s m args below meth c s₁ B hml hP s₁ hh0 (Stand.of_body B)
    exact ⟨t, o, a1, b1, b2, ⟨b3.1, b3.2⟩⟩
/-- the tables' facts of a method, where the tables' words hold -/
def ck_tb (V : ck_Wd) (own : String) (init : Bool) (M : ck_Me) : Prop := ∀ (s : State) (args : Array Value) (tys : List (ClassId × FieldType)) (meth : Method) (sw : Option Nat), (∀ w ∈ V.2.2.2.2.1, w.before args s = true) → tys.map Prod.snd = V.2.2.2.1 → ck_nq V s → (init = true → meth.name = "<init>") → sw.isSome = true →
  (∀ x ∈ mfl M, ck_hg s args own V.1 x) ∧ (∀ x ∈ mpl M, ck_hp s args own V.1 (meth.name = "<init>") x) ∧ (∀ x ∈ mnw M, ck_hn s args own V.1 (mTT M) x) ∧ (∀ x ∈ mkl M, ck_hk s args own x) ∧ (∀ x ∈ mil M, ck_hi s args own V.1 x) ∧ (∀ x ∈ mxl M, ck_hx s args own V.1 x) ∧ (∀ x ∈ mal M, ck_ha s tys V.1 x) ∧
  ∀ i ∈ mgl M, ∀ b, ck_hs s args own (none, sw, b) i
def ck_rt (rt : Nat) (ret : Option FieldType) : Prop := match rt with
  | 0 => ret = none
  | 1 => ret = some .int
  | 2 => ret = some .boolean
  | 3 => ret = some .long
  | _ => ∃ t, ret = some t ∧ ((∃ n, t = .object n) ∨ ∃ u, t = .array u)
/-- the calls' meaning, wherever the method runs -/
def ck_ca (Fc : Nat → Nat × fR) (V : ck_Wd) (own : String) (cc : ByteArray) (rm : Room) (M : ck_Me) : Prop := ∀ (s0 : fS) (p : Program) (l : Launch) (e : Env) (s : State) (m : MethodId) (args : Array Value) (below : List Frame) (meth : Method) (c : Code) (Q : State → Prop) (D : va_G) (tys : List (ClassId × FieldType)) (sc : ck_sc) (A : Nat → Prop),
  ck_cx p l e rm s m args below meth c cc own D V.1 tys M sc A → (∀ w ∈ V.2.2.2.2.1, w.before args s = true) → tys.map Prod.snd = V.2.2.2.1 → sc.2.1.isSome = true → ck_nq V s → ∀ x ∈ mvl M, ck_cs Fc s0 p l e rm s m args below meth c Q cc D V.1 tys M sc A x
theorem ck_rt_end {p : Program} {l : Launch} {e : Env} {R : Room} {s : State} {m : MethodId} {args : Array Value} {below : List Frame} {meth : Method} {c : Code} {cc : ByteArray} {ret : Option FieldType} {rt kd : Nat} {H : Heap} {locs : List Loc} {cells slots : Nat} {pc : Nat} {ls : Array Slot} {vs : List Value} {Qc : Array Value → State → Outcome → State → Prop} {free : Addr → Prop} {S : ck_S} {n : ck_N} {nL : Nat} {SG : List Nat} {ws : va_W} {sh : List Nat} {sc : ck_sc} {F nE : Nat} {C : ck_C}
    (hx : p.tables.exec = Jvm.exec) (hb : c.code = cc) (hr : meth.sig.returnType = ret) (hlocks : meth.locks = false) (hrt : ck_rt rt ret) (hkr : ck_kr F nE rt C kd S = true) (hst : ck_rst kd S) (o : ck_so nL SG S n ws sh sc ls vs) (hdg : decode cc pc = .ok (ck_ri kd, 1))
    (hq : ∀ (t : State) (rv : Option Value), rv.toList = vs → t.heap = H → s.WarmedH t.vm → Qc args s (.returned rv) t) (hf : ∀ q ∈ locs, free q.base) : W p l e R s m args below meth c H locs cells slots (MQ below Qc args s cells slots free) (F0 m pc ls vs) := by
  have hk := hkr
  unfold ck_kr at hkr
  simp only [Bool.and_eq_true] at hkr
  obtain ⟨⟨-, -, -, h4⟩, -⟩ := hkr
  have o3 := o.2.2.1
  unfold ck_rt at hrt
  split at hrt
  · subst hrt
    have ek := eq_of_beq h4
    subst ek
    rw [show S.2.1 = [] from hst] at o3
    cases vs with
    | nil => exact W.vret hx hb hr (fun t ht hW => hq t none rfl ht hW) hf hdg hlocks
    | cons _ _ => exact o3.elim
  · subst hrt
    have ek := eq_of_beq h4
    subst ek
    obtain ⟨v, hv, e0⟩ := (show ∃ v, S.2.1 = [v] ∧ v.1 = 0 from hst)
    rw [hv] at o3
    obtain ⟨u, vs', rfl, h2, h3⟩ := ck_hd o3
    obtain ⟨-, x, rfl, -⟩ := h2.i e0
    cases vs' with
    | nil => exact W.iret hx hb hr (fun t ht hW => hq t (some (.int x)) rfl ht hW) hf hdg hlocks
    | cons _ _ => exact h3.elim
  · subst hrt
    have h4 : (kd == 1 && (match S.2.1 with
      | v :: _ => ck_ent S.2.2.2.1 S.2.2.2.2.1 F v.2.1 0 1 && ck_ent S.2.2.2.1 S.2.2.2.2.1 F 0 v.2.1 0
      | [] => false)) = true := h4
    rw [Bool.and_eq_true] at h4
    have ek := eq_of_beq h4.1
    subst ek
    obtain ⟨v, hv, e0⟩ := (show ∃ v, S.2.1 = [v] ∧ v.1 = 0 from hst)
    have h5 := h4.2
    rw [hv] at o3 h5
    dsimp only at h5
    rw [Bool.and_eq_true] at h5
    obtain ⟨u, vs', rfl, h2, h3⟩ := ck_hd o3
    obtain ⟨-, x, rfl, ex⟩ := h2.i e0
    have p1 := ck_ent_ok o.2.2.2.2.1 o.2.2.2.2.2 F _ _ _ h5.1
    have p2 := ck_ent_ok o.2.2.2.2.1 o.2.2.2.2.2 F _ _ _ h5.2
    rw [o.1.2] at p1 p2
    cases vs' with
    | nil => exact W.zret hx hb hr (ck_nar_b (by rw [ex]; omega) (by rw [ex]; omega)).1 (fun t ht hW => hq t (some (.int x)) rfl ht hW) hf hdg hlocks
    | cons _ _ => exact h3.elim
  · subst hrt
    have ek := eq_of_beq h4
    subst ek
    obtain ⟨v, hv, e0⟩ := (show ∃ v, S.2.1 = [v] ∧ v.1 = 1 from hst)
    rw [hv] at o3
    obtain ⟨u, vs', rfl, h2, h3⟩ := ck_hd o3
    obtain ⟨-, x, rfl, -⟩ := h2.j e0
    cases vs' with
    | nil => exact W.lret hx hb hr (fun t ht hW => hq t (some (.long x)) rfl ht hW) hf hdg hlocks
    | cons _ _ => exact h3.elim
  · obtain ⟨t, rfl, ht⟩ := hrt
    have ek : kd = 3 := by
      revert h4
      split
      · rename_i z1 z2 z3 z4; exact absurd rfl z1
      · rename_i z1 z2 z3 z4; exact absurd rfl z2
      · rename_i z1 z2 z3 z4; exact absurd rfl z3
      · rename_i z1 z2 z3 z4; exact absurd rfl z4
      · exact eq_of_beq
    subst ek
    obtain ⟨v, hv, e0⟩ := (show ∃ v, S.2.1 = [v] ∧ (v.1 = 2 ∨ (v.1 = 3 ∨ v.1 = 4)) from hst)
    rw [hv] at o3
    obtain ⟨u, vs', rfl, h2, h3⟩ := ck_hd o3
    have hu : u = .null ∨ ∃ a : Nat, u = .ref a := by
      unfold ck_vo at h2
      rcases e0 with e | e | e <;> rw [e] at h2
      · obtain ⟨-, -, q, a, e', t', rfl, -⟩ := h2
        exact Or.inr ⟨a, rfl⟩
      · rcases h2.2.2 with w | ⟨q, a, e', t', rfl, -⟩
        · exact Or.inl w
        · exact Or.inr ⟨a, rfl⟩
      · exact Or.inl h2.2.2
    cases vs' with
    | nil => exact W.aret hx hb hr ht hu (fun t ht hW => hq t (some u) rfl ht hW) hf hdg hlocks
    | cons _ _ => exact h3.elim
theorem ck_wid_ok {ws : va_W} {sh : List Nat} {sc : ck_sc} {n : ck_N} {N : Nat} : ∀ {vs : List ck_V} {xs : List Value}, ck_two (ck_vo ws sh sc n N) vs xs → (lg_sl xs).length = ck_wid vs
  | [], [], _ => rfl
  | v :: vs, x :: xs, h => by
    have ih := ck_wid_ok h.2
    have hc := ck_cat_ok h.1
    have hcat : x.category = 1 ∨ x.category = 2 := lv_cat x
    have key : (lg_sl (x :: xs)).length = x.category + (lg_sl xs).length := by
      rcases hcat with q | q <;> simp [lg_sl, q] <;> omega
    rw [key, ih, hc]
    rfl
  | [], _ :: _, h => h.elim
  | _ :: _, [], h => h.elim
set_option maxHeartbeats 4000000 in
/-- the steps proved by hand, wherever the method runs -/
def ck_sph (Fc : Nat → Nat × fR) (V : ck_Wd) (own : String) (cc : ByteArray) (ret : Option FieldType) (rm : Room) (M : ck_Me) (C : ck_C) (Ph : ck_Ph) (Ps : fR) (sp : ck_spc) : Prop := ∀ (p : Program) (l : Launch) (e : Env) (s : State) (m : MethodId) (As : List Value) (below : List Frame) (meth : Method) (c : Code) (D : va_G) (tys : List (ClassId × FieldType)) (ws : va_W) (sh : List Nat) (n1 : ck_N) (sw : Option Nat),
  (∀ b : Nat → Int, ck_cx p l e rm s m As.toArray below meth c cc own D V.1 tys M (none, sw, b) (va_A ws s.heap.size)) → (∀ w ∈ V.2.2.2.2.1, w.before As.toArray s = true) → tys.map Prod.snd = V.2.2.2.1 → sw.isSome = true → ck_nq V s → meth.sig.returnType = ret → Ph ws sh n1 → ck_po V.2.2.1 ws sh (none, sw, fun _ => 0) n1 C.1.2.2.1.length C.1 As → ck_wo tys V.2.1 V.2.2.1 ws sh →
  ∀ x ∈ sp, ∀ (S : ck_S) (L : List ck_S), x.2.2 S = some L → ∀ b : Nat → Int, (∀ k, k < C.1.2.2.1.length → b (1000 + k) = (n1 k).1) →
    (∀ S' ∈ L, ck_g Fc (0, lv_args 0 As, [], ws, sh) p l e rm s m As.toArray below meth c (MQ below (ck_qp V D tys ws sh s.heap.size sw n1 C Ps As) As.toArray s C.2.2.2.1 C.2.2.2.2 (va_A ws s.heap.size)) D V.1 tys M (none, sw, b) (va_A ws s.heap.size) ws sh S' x.2.1) →
    ck_g Fc (0, lv_args 0 As, [], ws, sh) p l e rm s m As.toArray below meth c (MQ below (ck_qp V D tys ws sh s.heap.size sw n1 C Ps As) As.toArray s C.2.2.2.1 C.2.2.2.2 (va_A ws s.heap.size)) D V.1 tys M (none, sw, b) (va_A ws s.heap.size) ws sh S x.1
theorem ck_ex.wk {W1 W2 : List (Nat × Nat)} {ws ws' : va_W} {sh sh' : List Nat} (hw : ∀ x ∈ W2, x ∈ W1) (h : ck_ex W2 ws sh ws' sh') : ck_ex W1 ws sh ws' sh' := ck_ex.tr hw ck_ex.rf h
/-- a method as a relation: the traces of its instructions, from its entry to its end -/
def fr (T : fT) (cc : ByteArray) : fR := fun As ws sh rv ws' sh' => ∃ (pc : Nat) (lg : List (Nat × Value)) (kd : Nat), gr T cc (0, lv_args 0 As, [], ws, sh) (pc, lg, rv.toList, ws', sh') ∧ decode cc pc = .ok (ck_ri kd, 1)
/-- what kind of answer: 0 none, 1 int, 2 truth, 3 long, 4 reference -/
def f_rk (rt : Nat) (rv : Option Value) : Prop := match rt with
  | 0 => rv = none
  | 1 => ∃ x : Int32, rv = some (.int x)
  | 2 => ∃ x : Int32, rv = some (.int x) ∧ 0 ≤ x.toInt ∧ x.toInt ≤ 1
  | 3 => ∃ x : Int64, rv = some (.long x)
  | _ => ∃ v : Value, rv = some v ∧ (v = .null ∨ ∃ a : Nat, v = .ref a)
theorem ck_rk_ok {rt kd : Nat} {S : ck_S} {n : ck_N} {nL : Nat} {SG : List Nat} {ws : va_W} {sh : List Nat} {sc : ck_sc} {ls : Array Slot} {F nE : Nat} {C : ck_C} {rv : Option Value} (hkr : ck_kr F nE rt C kd S = true) (hst : ck_rst kd S) (o : ck_so nL SG S n ws sh sc ls rv.toList) : f_rk rt rv := by
  unfold ck_kr at hkr
  simp only [Bool.and_eq_true] at hkr
  obtain ⟨⟨-, -, -, h4⟩, -⟩ := hkr
  have o3 := o.2.2.1
  have one : ∀ (v : ck_V), S.2.1 = [v] → ∃ u, rv = some u ∧ ck_vo ws sh sc n S.2.2.2.1.length v u := by
    intro v hv
    rw [hv] at o3
    cases rv with
    | none => exact o3.elim
    | some u => exact ⟨u, rfl, o3.1⟩
  unfold f_rk
  split at h4
  · have ek := eq_of_beq h4
    subst ek
    rw [show S.2.1 = [] from hst] at o3
    cases rv with
    | none => rfl
    | some u => exact o3.elim
  · have ek := eq_of_beq h4
    subst ek
    obtain ⟨v, hv, e0⟩ := (show ∃ v, S.2.1 = [v] ∧ v.1 = 0 from hst)
    obtain ⟨u, e1, h2⟩ := one v hv
    obtain ⟨-, x, rfl, -⟩ := h2.i e0
    exact ⟨x, e1⟩
  · rw [Bool.and_eq_true] at h4
    have ek := eq_of_beq h4.1
    subst ek
    obtain ⟨v, hv, e0⟩ := (show ∃ v, S.2.1 = [v] ∧ v.1 = 0 from hst)
    have h5 := h4.2
    rw [hv] at h5
    dsimp only at h5
    rw [Bool.and_eq_true] at h5
    obtain ⟨u, e1, h2⟩ := one v hv
    obtain ⟨-, x, rfl, ex⟩ := h2.i e0
    have p1 := ck_ent_ok o.2.2.2.2.1 o.2.2.2.2.2 F _ _ _ h5.1
    have p2 := ck_ent_ok o.2.2.2.2.1 o.2.2.2.2.2 F _ _ _ h5.2
    rw [o.1.2] at p1 p2
    exact ⟨x, e1, by omega, by omega⟩
  · have ek := eq_of_beq h4
    subst ek
    obtain ⟨v, hv, e0⟩ := (show ∃ v, S.2.1 = [v] ∧ v.1 = 1 from hst)
    obtain ⟨u, e1, h2⟩ := one v hv
    obtain ⟨-, x, rfl, -⟩ := h2.j e0
    exact ⟨x, e1⟩
  · rename_i z0 z1 z2 z3
    have ek := eq_of_beq h4
    subst ek
    obtain ⟨v, hv, e0⟩ := (show ∃ v, S.2.1 = [v] ∧ (v.1 = 2 ∨ (v.1 = 3 ∨ v.1 = 4)) from hst)
    obtain ⟨u, e1, h2⟩ := one v hv
    have hu : u = .null ∨ ∃ a : Nat, u = .ref a := by
      unfold ck_vo at h2
      rcases e0 with e | e | e <;> rw [e] at h2
      · obtain ⟨-, -, q, a, e', t', rfl, -⟩ := h2
        exact Or.inr ⟨a, rfl⟩
      · rcases h2.2.2 with w | ⟨q, a, e', t', rfl, -⟩
        · exact Or.inl w
        · exact Or.inr ⟨a, rfl⟩
      · exact Or.inl h2.2.2
    split
    · exact absurd rfl z0
    · exact absurd rfl z1
    · exact absurd rfl z2
    · exact absurd rfl z3
    · exact ⟨u, e1, hu⟩
/-- and what it leaves alone -/
def fq (TT : List ck_D) (SG : List Nat) (rt : Nat) (Wr : List (Nat × Nat)) (T : fT) (cc : ByteArray) : fR := fun As ws sh rv ws' sh' => fr T cc As ws sh rv ws' sh' ∧ f_dj ws ∧ f_dj ws' ∧ ck_ex Wr ws sh ws' sh' ∧ (∃ tys, ck_wo tys TT SG ws sh ∧ ck_wo tys TT SG ws' sh') ∧ f_rk rt rv
theorem fq.mono {TT : List ck_D} {SG : List Nat} {rt : Nat} {W1 W2 : List (Nat × Nat)} {T : fT} {cc : ByteArray} (hw : ∀ x ∈ W2, x ∈ W1) {As : List Value} {ws : va_W} {sh : List Nat} {rv : Option Value} {ws' : va_W} {sh' : List Nat} (h : fq TT SG rt W2 T cc As ws sh rv ws' sh') : fq TT SG rt W1 T cc As ws sh rv ws' sh' :=
  ⟨h.1, h.2.1, h.2.2.1, ck_ex.wk hw h.2.2.2.1, h.2.2.2.2⟩
theorem ck_methX {Fc : Nat → Nat × fR} {Ph : ck_Ph} {Ps : fR} {sp : ck_spc} {V : ck_Wd} {l : Launch} {y : MethodName} {own : String} {cc : ByteArray} {nL : Nat} {ret : Option FieldType} {rm : Room} {C : ck_C} {M : ck_Me} {code : ck_cd} {ivs : List (Nat × ck_I)} {f rt : Nat} {pre : List (Nat × Nat)} {S0 : ck_S} (init : Bool)
    (hy : plainFor y = true) (ho : y.cls = own) (hinit : init = true → y.name = "<init>") (hM : mTT M = V.2.1 ∧ mSG M = V.2.2.1 ∧ mnL M = nL ∧ (∀ x ∈ mWr M, x ∈ C.2.2.1) ∧ mRm M = (C.2.2.2.1, C.2.2.2.2)) (hrm : rm.cells = C.2.2.2.1 ∧ rm.slots = C.2.2.2.2) (hrt : ck_rt rt ret)
    (hw : ck_wid C.1.1 ≤ nL) (h0 : 0 < C.1.2.2.1.length) (hmz : C.1.2.1.all (fun m => !(m.1 == 0)) = true) (hsp : ck_sph Fc V own cc ret rm M C Ph Ps sp)
    (hps : ∀ (As : List Value) (ws : va_W) (sh : List Nat) (rv : Option Value) (ws' : va_W) (sh' : List Nat), fq V.2.1 V.2.2.1 rt (mWr M) (tM M Fc none) cc As ws sh rv ws' sh' → Ps As ws sh rv ws' sh')
    (hcode : ∀ x ∈ code, decode cc x.1 = .ok (x.2.1, x.2.2)) (htb : ck_tb V own init M) (hcl : ck_ca Fc V own cc rm M) (hchk : ck_chk M (ck_kr (mF M) C.1.2.2.1.length rt C) sp code ivs C.1.2.2.1.length f S0 = true) (hpre : ck_pn M pre (ck_en C) = some S0) :
    ck_mtx V l y cc nL ret rm C Ph Ps := by
  obtain ⟨m1, m2, m3, m4, m5⟩ := hM
  intro D tys ws sh sz n1 As sw htl hsw1 hn0 hpo hwo hph
  refine ck_ofW (cc := cc) (maxL := nL) (ret := ret) hy rfl ?_
  intro p e s m args below meth c s₁ B hml hv
  obtain ⟨rfl, hsz, hP, hK, hD0, hnc, hsw⟩ := hv
  have hx := B.exec
  have hb := B.bytes
  have hr := B.returns
  have hts0 := atoms_spec (ws := .code y cc nL ret :: V.2.2.2.2.1) B.pre
  have hts : ∀ w ∈ V.2.2.2.2.1, w.before As.toArray s = true := fun w hw => hts0 w (List.mem_cons_of_mem _ hw)
  have hown : s.vm.findClass own = some m.cls := by rw [← ho]; exact findClass_of_methodNamed B.named
  have hlocks := B.notSynchronized
  have hmn : meth.name = y.name := (name_of_methodNamed B.named B.method).1
  subst hsz
  have hD := hD0.self (sz := s.heap.size)
  have hA : ∀ q : Nat, s.heap.size ≤ q → va_A ws s.heap.size q := fun q h => Or.inr h
  have hS : va_S (va_A ws s.heap.size) s.heap s.heap [] := va_S.rf
  have X : ck_cx p l e rm s m As.toArray below meth c cc own D V.1 tys M (none, sw, fun k => (n1 (k - 1000)).1) (va_A ws s.heap.size) :=
    ⟨hx, hb, hown, hK, hA, by rw [m3]; exact hml, by rw [m5]; exact ⟨by rw [hrm.1]; exact Nat.le_refl _, by rw [hrm.2]; exact Nat.le_refl _⟩, hlocks, (fun _ _ _ h => by cases h), hsw⟩
  obtain ⟨t1, t2, t3, t4, t5, t6, t7, t8⟩ := htb s As.toArray tys meth sw hts htl hnc (fun z => by rw [hmn]; exact hinit z) hsw1
  have hl := lv_entry As (n := nL) (by rw [ck_wid_ok hpo.1]; exact hw)
  rw [lg_entry_eq]
  generalize (lg_sl As ++ List.replicate (nL - (lg_sl As).length) Slot.unset).toArray = ls at hl ⊢
  refine W.widen (k := 0) (n := 0) (Nat.le_refl _) (Nat.le_refl _) ?_
  have hb0 : ∀ k, k < C.1.2.2.1.length → (fun j : Nat => (n1 (j - 1000)).1) (1000 + k) = (n1 k).1 := fun k _ => by
    have e9 : 1000 + k - 1000 = k := by omega
    dsimp only
    rw [e9]
  have hrun := ck_run_ok (Fc := Fc) (s0 := (0, lv_args 0 As, [], ws, sh)) (p := p) (l := l) (e := e) (R := rm) (s := s) (m := m) (args := As.toArray) (below := below) (meth := meth) (c := c) (Q := MQ below (ck_qp V D tys ws sh s.heap.size sw n1 C Ps As) As.toArray s C.2.2.2.1 C.2.2.2.2 (va_A ws s.heap.size)) (cc := cc) (own := own) (D := D) (cl := V.1) (tys := tys) (M := M) (sc := (none, sw, fun k => (n1 (k - 1000)).1)) (A := va_A ws s.heap.size) (ws0 := ws) (sh0 := sh) (n1 := n1) (b := fun k => (n1 (k - 1000)).1) h0 X t1 t2 t3 t4 t5 t6 t7 (fun i hi => t8 i hi _) (fun b => hcl _ p l e s m As.toArray below meth c _ D tys (none, sw, b) (va_A ws s.heap.size) X hts htl hsw1 hnc) hcode ?_ (fun x hx S L hS b hb hk => hsp p l e s m As below meth c D tys ws sh n1 sw (fun b => X) hts htl hsw1 hnc hr hph hpo hwo x hx S L hS b hb hk) hchk hb0
  · have oe : ck_so (mnL M) (mSG M) (ck_en C) n1 ws sh (none, sw, fun k => (n1 (k - 1000)).1) ls [] := by
      refine ⟨⟨h0, hn0⟩, ?_, trivial, ?_, hpo.2.2.1, hpo.2.2.2⟩
      · refine ⟨_, by rw [m3]; exact hl, ck_two_args 0 (hpo.1.imp fun a b hab => hab.sc rfl rfl)⟩
      · intro z hz
        rcases List.mem_append.mp hz with hz | hz
        · have hzn : z.1 ≠ 0 := by
            have := List.all_eq_true.mp hmz z hz
            rw [Bool.not_eq_true', beq_eq_false_iff_ne] at this
            exact this
          rcases hpo.2.1 z hz with ⟨q, -⟩ | ⟨z0, z1, q, a, oo, v, z2, z3, z4, z5⟩ | hy
          · exact absurd q hzn
          · exact Or.inr (Or.inl ⟨z0, by rw [m2]; exact z1, q, a, oo, v, z2, z3, z4, z5.sc rfl rfl⟩)
          · exact Or.inr (Or.inr ⟨hy.1, hy.2.1, by rw [m2]; exact hy.2.2.1, hy.2.2.2⟩)
        · obtain ⟨k, hk, rfl⟩ := List.mem_map.mp hz
          have hk := List.mem_range.mp hk
          exact Or.inl ⟨rfl, hk, Or.inr ⟨rfl, (hb0 k hk).symm⟩⟩
    have hwo' : ck_wo tys (mTT M) (mSG M) ws sh := by rw [m1, m2]; exact hwo
    obtain ⟨n', o', ec⟩ := ck_pn_ok hwo' hpre oe
    have hfin := hrun n' ws sh s.heap [] ls [] o' hwo' ck_ex.rf hP hD hS (lv_args 0 As) (by rw [hml]; exact hl) gr.rf
    rw [ec] at hfin
    have hoc : ck_oc rm M = 0 := by unfold ck_oc; rw [m5, hrm.1]; exact Nat.sub_self _
    have hos : ck_os rm M = 0 := by unfold ck_os; rw [m5, hrm.2]; exact Nat.sub_self _
    rw [hoc, hos] at hfin
    exact hfin
  · intro b hbb kd S hkr hst pc hdg n ws' sh' H locs ls vs o hw' hx' hP' hD' hS' lg hlg hgr
    obtain ⟨P, hPm, n2, q1, q2⟩ := ck_kr_ok (sc := (none, sw, fun _ => 0)) hkr o hbb
    have hk2 := hkr
    unfold ck_kr at hk2
    simp only [Bool.and_eq_true, decide_eq_true_eq] at hk2
    have hoc : ck_oc rm M = 0 := by unfold ck_oc; rw [m5, hrm.1]; exact Nat.sub_self _
    have hos : ck_os rm M = 0 := by unfold ck_os; rw [m5, hrm.2]; exact Nat.sub_self _
    rw [hoc, hos, Nat.zero_add, Nat.zero_add]
    show W _ _ _ _ _ _ _ _ _ _ _ _ _ _ _ _
    refine W.widen hk2.1.1 hk2.1.2.1 ?_
    refine ck_rt_end hx hb hr hlocks hrt hkr hst o hdg (fun t rv hrv ht hW => ?_) hS'.2.2
    subst hrv
    rw [m1, m2] at hw'
    rw [m2] at q2
    exact ⟨⟨P, hPm, rv, n2, ws', sh', rfl, q1, hw', hx'.wk m4, by rw [ht]; exact hP', hD', q2, hps As ws sh rv ws' sh' ⟨⟨pc, lg, kd, by rw [hb] at hgr; exact hgr, hdg⟩, hD0.1, hD'.1, hx', ⟨tys, hwo, hw'⟩, ck_rk_ok hkr hst o⟩⟩, hS'.F ht⟩

theorem ck_meth {r : fR} {Fc : Nat → Nat × fR} {V : ck_Wd} {l : Launch} {y : MethodName} {own : String} {cc : ByteArray} {nL : Nat} {ret : Option FieldType} {rm : Room} {C : ck_C} {M : ck_Me} {code : ck_cd} {ivs : List (Nat × ck_I)} {f rt : Nat} {pre : List (Nat × Nat)} {S0 : ck_S} (init : Bool) (hr : ∀ (As : List Value) (ws : va_W) (sh : List Nat) (rv : Option Value) (ws' : va_W) (sh' : List Nat), fq V.2.1 V.2.2.1 rt (mWr M) (tM M Fc none) cc As ws sh rv ws' sh' → r As ws sh rv ws' sh') 
    (hy : plainFor y = true) (ho : y.cls = own) (hinit : init = true → y.name = "<init>") (hM : mTT M = V.2.1 ∧ mSG M = V.2.2.1 ∧ mnL M = nL ∧ mWr M = C.2.2.1 ∧ mRm M = (C.2.2.2.1, C.2.2.2.2)) (hrm : rm.cells = C.2.2.2.1 ∧ rm.slots = C.2.2.2.2) (hrt : ck_rt rt ret)
    (hw : ck_wid C.1.1 ≤ nL) (h0 : 0 < C.1.2.2.1.length) (hmz : C.1.2.1.all (fun m => !(m.1 == 0)) = true) (hcode : ∀ x ∈ code, decode cc x.1 = .ok (x.2.1, x.2.2)) (htb : ck_tb V own init M) (hcl : ck_ca Fc V own cc rm M) (hchk : ck_chk M (ck_kr (mF M) C.1.2.2.1.length rt C) [] code ivs C.1.2.2.1.length f S0 = true) (hpre : ck_pn M pre (ck_en C) = some S0) :
    ck_met V l y cc nL ret rm C r :=
  ck_methX (sp := []) init hy ho hinit ⟨hM.1, hM.2.1, hM.2.2.1, fun x hx => by rw [← hM.2.2.2.1]; exact hx, hM.2.2.2.2⟩ hrm hrt hw h0 hmz (fun _ _ _ _ _ _ _ _ _ _ _ _ _ _ _ _ _ _ _ _ _ _ _ _ x hx => absurd hx List.not_mem_nil) hr hcode htb hcl hchk hpre
/-- with steps proved by hand -/
theorem ck_methS {r : fR} {Fc : Nat → Nat × fR} {sp : ck_spc} {V : ck_Wd} {l : Launch} {y : MethodName} {own : String} {cc : ByteArray} {nL : Nat} {ret : Option FieldType} {rm : Room} {C : ck_C} {M : ck_Me} {code : ck_cd} {ivs : List (Nat × ck_I)} {f rt : Nat} {pre : List (Nat × Nat)} {S0 : ck_S} (init : Bool) (hr : ∀ (As : List Value) (ws : va_W) (sh : List Nat) (rv : Option Value) (ws' : va_W) (sh' : List Nat), fq V.2.1 V.2.2.1 rt (mWr M) (tM M Fc none) cc As ws sh rv ws' sh' → r As ws sh rv ws' sh') 
    (hsp : ck_sph Fc V own cc ret rm M C (fun _ _ _ => True) r sp)
    (hy : plainFor y = true) (ho : y.cls = own) (hinit : init = true → y.name = "<init>") (hM : mTT M = V.2.1 ∧ mSG M = V.2.2.1 ∧ mnL M = nL ∧ mWr M = C.2.2.1 ∧ mRm M = (C.2.2.2.1, C.2.2.2.2)) (hrm : rm.cells = C.2.2.2.1 ∧ rm.slots = C.2.2.2.2) (hrt : ck_rt rt ret)
    (hw : ck_wid C.1.1 ≤ nL) (h0 : 0 < C.1.2.2.1.length) (hmz : C.1.2.1.all (fun m => !(m.1 == 0)) = true) (hcode : ∀ x ∈ code, decode cc x.1 = .ok (x.2.1, x.2.2)) (htb : ck_tb V own init M) (hcl : ck_ca Fc V own cc rm M) (hchk : ck_chk M (ck_kr (mF M) C.1.2.2.1.length rt C) sp code ivs C.1.2.2.1.length f S0 = true) (hpre : ck_pn M pre (ck_en C) = some S0) :
    ck_met V l y cc nL ret rm C r :=
  ck_methX (sp := sp) init hy ho hinit ⟨hM.1, hM.2.1, hM.2.2.1, fun x hx => by rw [← hM.2.2.2.1]; exact hx, hM.2.2.2.2⟩ hrm hrt hw h0 hmz hsp hr hcode htb hcl hchk hpre
end
