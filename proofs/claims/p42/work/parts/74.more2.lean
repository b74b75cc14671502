noncomputable section
/-! a static method that the named class inherits; System.arraycopy of longs -/
section
theorem ck_coldS {Q : Unit → Pre} {E : CtlPost} {e : Env} {d : Bool} {acts : List Action} {s s₀ : State} {f : JFrame} {index ci n c : Nat} {m : MethodId} {dk ck : Class} {cf : ClassFile} {name desc : String} (ht : s.topJava?.isSome) (hp : e.platform.polymorphicOnlyByInvokevirtual = true)
    (hW : s₀.WarmedH s.vm) (hE : s₀.MethodEntryUp e s.vm f.method.cls index c m ci) (hd : s₀.vm.classes[f.method.cls]? = some dk) (hcf : dk.cf = some cf) (hcp : cf.constantPool[index]? = some (if false then .interfaceMethodref ci n else .methodref ci n)) (hnt : cf.constantPool.nameAndType? n = some (name, desc))
    (hck : s₀.vm.classes[c]? = some ck) (hno : (ck.methods.any fun x => x.name == name && !x.isStatic && signaturePolymorphic ck x) = false) :
    wp (invokestatic.sem index) Q E e d acts (s.setTop f) ↔ wp (invokestatic.sem index) Q E e d acts ((s.setVm (s.vm.calledUp f.method.cls ci index c m)).setTop f) := by
  have hF := hE.classFirst
  have tn : (s.setVm (s.vm.noted f.method.cls ci (.cls c))).topJava?.isSome := ht
  have tc : (s.setVm (s.vm.calledUp f.method.cls ci index c m)).topJava?.isSome := ht
  obtain ⟨d0, hd0, ed0⟩ := hW.alike.2.2 _ _ hd
  obtain ⟨d2, hd2, ed2⟩ := hE.warmed.alike.2.2 _ _ hd
  obtain ⟨k1, hk1, ek1⟩ := hF.2.2.1.alike.2.2 _ _ hck
  obtain ⟨k2, hk2, ek2⟩ := hE.warmed.alike.2.2 _ _ hck
  have b0 := memberRef_ask_via (e := e) hd0 (by rw [ed0]; exact hcf) hcp hnt
  have b2 := memberRef_ask_via (e := e) hd2 (by rw [ed2]; exact hcf) hcp hnt
  have no1 : (k1.methods.any fun x => x.name == name && !x.isStatic && signaturePolymorphic k1 x) = false := by rw [ek1]; exact hno
  have no2 : (k2.methods.any fun x => x.name == name && !x.isStatic && signaturePolymorphic k2 x) = false := by rw [ek2]; exact hno
  have L : ∀ {Q' : ClassId → Pre} {d' : Bool} {a' : List Action}, wp (Jvm.resolveClassAt ci) Q' E e d' a' (s.setTop f) ↔ Q' c d' a' ((s.setVm (s.vm.noted f.method.cls ci (.cls c))).setTop f) := W.resolveClassAt_links (t := s.setTop f) (State.method?_setTop f ht) hF.1
  have Mt : ∀ {Q' : MethodId → Pre} {d' : Bool} {a' : List Action}, wp (Jvm.resolveMethodAt index) Q' E e d' a' ((s.setVm (s.vm.noted f.method.cls ci (.cls c))).setTop f) ↔ Q' m d' a' ((s.setVm (s.vm.calledUp f.method.cls ci index c m)).setTop f) := W.resolveMethodAt_links (t := (s.setVm (s.vm.noted f.method.cls ci (.cls c))).setTop f) (State.method?_setTop f tn) hF.2.2.2
  simp [invokestatic.sem, hp, Seam.memberRefOf, State.method?_setTop f ht, State.method?_setTop f tc, b0, b2, L, W.resolveClassAt_ready (s := (s.setVm (s.vm.calledUp f.method.cls ci index c m)).setTop f) (State.method?_setTop f tc) hE.classReady, hk1, hk2, no1, no2, Mt, W.resolveMethodAt_ready (s := (s.setVm (s.vm.calledUp f.method.cls ci index c m)).setTop f) (State.method?_setTop f tc) hE.ready, -Array.any_eq_true]
variable {Fc : Nat → Nat × fR} {s0 : fS} {p : Program} {l : Launch} {e : Env} {R : Room} {s : State} {m : MethodId} {args : Array Value} {below : List Frame} {meth : Method} {c : Code} {T : State} {locs : List Loc} {cells slots : Nat}
theorem ck_stUp (X : Stand p l e R s m args below meth c T locs cells slots) (hexec : p.tables.exec = Jvm.exec)
    {own : String} {index : Nat} {x y : MethodName} (hown : s.vm.findClass own = some m.cls) (hlink : (Cond.methodLink own index x).before args s = true) (hyx : y = ⟨y.cls, x.name, x.desc⟩)
    (hsame : (Cond.sameMethod x.cls y.cls x.name x.desc).before args s = true) (hy : y.cls ≠ "java/lang/invoke/MethodHandle" ∧ y.cls ≠ "java/lang/invoke/VarHandle")
    {mk : MethodId} {methM : Method} {kP : Class} (hn : s.methodNamed? y = some mk) (hmk : s.vm.method? mk = some methM) (hst : methM.isStatic = true) (hkP : s.vm.classes[mk.cls]? = some kP) (hini : kP.init = .initialized)
    {g : JFrame} (hg : g.method = m) {As rest : List Value} (hlen : As.length = methM.sig.parameters.length) (hstack : g.stack = As.reverse ++ rest) (hdg : decode c.code g.pc = .ok (.invokestatic index, 3)) :
    ∃ vm', Stand p l e R s m args below meth c (T.setVm vm') locs cells slots ∧
      ∀ target, (∀ acts, Steps p.tables e below (doInvoke e ((T.setVm vm').setTop { g with stack := rest }) acts mk As.toArray).1 target) → Steps p.tables e below (T.setTop g) target := by
  have adm := X.admits.platform
  obtain ⟨cn, ck, r1, hcn, hck, hni, hf, hn1⟩ := Cond.sameMethod_found hsame
  rw [← hyx] at hn1
  cases hn.symm.trans hn1
  obtain ⟨ci, hl, hright⟩ := Cond.methodLink_specUp hown hcn hck hni hf hlink e.platform (by rw [adm]) (by rw [adm])
  have hE : s.MethodEntryUp e T.vm m.cls index cn mk ci := State.methodEntryUp X.warmed hl hright
  obtain ⟨ky, hky, hnm⟩ := className_of_methodNamed hn
  cases hkP.symm.trans hky
  obtain ⟨dk, cf, nt, mname, mdesc, ck', -, -, hd, hcf, hcp, hnt, -, -, hck', -, hnp, -⟩ := hl.here
  cases hck.symm.trans hck'
  have al := hE.warmed.alike
  obtain ⟨d2, hd2, ed2⟩ := al.2.2 _ _ hd
  obtain ⟨p2, hp2, ep2⟩ := al.2.2 _ _ hkP
  obtain ⟨k2, hk2, ek2⟩ := al.2.2 _ _ hck
  have hno : (ck.methods.any fun y => y.name == mname && !y.isStatic && signaturePolymorphic ck y) = false := by simp [hnp]
  have hcp' : cf.constantPool[index]? = some (if false then .interfaceMethodref ci nt else .methodref ci nt) := hcp
  refine ⟨T.vm.calledUp m.cls ci index cn mk, X.noted hE.warmed, fun target hrest => ?_⟩
  subst hg
  jvm_step X.here [hexec, hdg, ck_coldS (e := e) (s := T) (s₀ := s) (f := g) X.here.top (by rw [adm]) X.warmed hE hd hcf hcp' hnt hck hno,
    invokestatic.wp_ready (e := e) (s := T.setVm (T.vm.calledUp g.method.cls ci index cn mk)) (k := p2) (meth := methM) (m := mk) (args := As) (rest := rest) (f := g)
      X.here.top ⟨ci, mname, mdesc, false, cn, k2, memberRef_ask_via (e := e) hd2 (by rw [ed2]; exact hcf) hcp' hnt, hE.classReady, hk2, by rw [ek2]; exact hno⟩ hE.ready hp2
      (by show (T.vm.calledUp g.method.cls ci index cn mk).method? mk = some methM; rw [al.method?]; exact hmk)
      (by rw [ep2]; show signaturePolymorphic kP methM = false; simp [signaturePolymorphic, hnm, hy.1, hy.2]) hst (by rw [ep2]; exact hini) hlen hstack]
  exact fun acts => hrest _
end
section
variable {Fc : Nat → Nat × fR} {s0 : fS} {p : Program} {l : Launch} {e : Env} {R : Room} {s : State} {m : MethodId} {args : Array Value} {below : List Frame} {meth : Method} {c : Code} {Q : State → Prop} {cc : ByteArray} {own : String} {D : va_G} {tys : List (ClassId × FieldType)} {M : ck_Me} {sc : ck_sc} {A : Nat → Prop} {V : ck_Wd}
theorem ck_runSI {H : Heap} {locs : List Loc} {cells slots : Nat} {x y : MethodName} {bytes cc : ByteArray} {maxL nL mc ms n index : Nat} {ret : Option FieldType} {ws : List Cond} {rm : Room} {Pc : Array Value → State → Prop} {Qc : Array Value → State → Outcome → State → Prop} {free : Addr → Prop} {Ts : List Cond} {own : String} {As rest : List Value} {g : JFrame}
    (S : CallFix p m c cc nL s args Ts own) (hM : Met l y ws rm Pc Qc mc ms free) (hbk : rm.cells = mc ∧ rm.slots = ms ∧ rm.frames + 1 ≤ R.frames ∧ 8 + (maxL + 11) + rm.locals ≤ R.locals ∧ (∀ w ∈ ws, ∀ (a' : Array Value) (U : State), s.WarmedH U.vm → w.before a' U = true) ∧ Cond.code y bytes maxL ret ∈ ws) (hlink : (Cond.methodLink own index x).before args s = true) (hsame : (Cond.sameMethod x.cls y.cls x.name x.desc).before args s = true) (hyx : y = ⟨y.cls, x.name, x.desc⟩)
    (hst : (Cond.static y).before args s = true) (hini : (Cond.initialized y.cls).before args s = true) (hcode : (Cond.code y bytes maxL ret).before args s = true) (hy : y.cls ≠ "java/lang/invoke/MethodHandle" ∧ y.cls ≠ "java/lang/invoke/VarHandle") (hle : ∀ sig, parseMethodDescriptor y.desc = some sig → n = sig.parameters.length) (hp : PreS s H Pc As)
    (hg : g.method = m) (hn : As.length = n) (hsize : g.locals.size = nL) (hstack : g.stack = As.reverse ++ rest) (hW : 2 * g.monitorRoom + (rest.map fun v => v.category).sum ≤ 8) (hdg : decode cc g.pc = .ok (.invokestatic index, 3)) (hf : cells + mc ≤ R.cells ∧ slots + ms ≤ R.slots) :
    va_Run p l e R s m args below meth c H locs cells slots mc ms g rest (Qc As.toArray) (free) := by
  obtain ⟨hrc, hrs, hfr, hlo, hws, hcw⟩ := hbk
  have hK : Back l R p e below s args y 3 8 (PreOf R mc ms Pc) (PostOf Qc mc ms free) := back_of (bytes := bytes) (maxL := maxL) (ret := ret) hM hp.1 hrc hrs hfr hlo hws hcw (fun a' U hW => word_at hW (Or.inl (by first | rfl | simp [Cond.onTables, Cond.keeps, Cond.steady])) hini)
  obtain ⟨hx, hb, hml, ho, -⟩ := S
  obtain ⟨mk, hnamed⟩ := Cond.code_named hcode
  obtain ⟨methM, cM, hmethM, -, -, -, -, -, -, hsigM⟩ := Cond.code_spec hnamed hcode
  have hstatic : methM.isStatic = true := Cond.static_spec hnamed hmethM hst
  obtain ⟨kP, hkP, -⟩ := className_of_methodNamed hnamed
  have hinitP : kP.init = .initialized := Cond.initialized_spec (findClass_of_methodNamed hnamed) hkP hini
  intro T hT X
  obtain ⟨vm₁, X₁, hstep₁⟩ := ck_stUp X hx ho hlink hyx hsame hy hnamed hmethM hstatic hkP hinitP (g := g) hg (As := As) (rest := rest) (hn.trans (hle _ hsigM)) hstack (by rw [hb]; exact hdg)
  obtain ⟨v, B, X', hpost, hsteps⟩ := hK m meth c ⟨T.setVm vm₁, locs, cells, slots⟩ { g with stack := rest } (.invokestatic index) mk As.toArray X₁ hg (hsize.trans hml.symm) (by rw [hb]; exact hdg) hW (X₁.named hnamed) ⟨hf.1, hf.2, hp.2 (T.setVm vm₁) hT X₁.warmed⟩
  obtain ⟨U', l2, c2, s2⟩ := B
  obtain ⟨g', mk', t, L, e1, e2, hq, h1, hL, h2, h3⟩ := hpost
  dsimp only [Pt.U, Pt.locs, Pt.cells, Pt.slots] at X' e1 e2 h1 h2 h3 hsteps
  subst h1; subst h2; subst h3
  exact ⟨v, (T.setVm vm₁).calling g' mk' As.toArray, t, U', L, hT, X', hL, e1, e2, hq, fun target h => hstep₁ _ fun acts => by rw [doInvoke_state]; exact hsteps.trans h⟩
theorem ck_cs_SI {rr : fR} {x y : MethodName} {cc' : ByteArray} {nL' idx : Nat} {ret : Option FieldType} {rm : Room} {C : ck_C} {na : Nat} (hmet : ck_met V l y cc' nL' ret rm C rr) (hF : (Fc (3 * idx + 1)).1 = na ∧ ∀ (As : List Value) (ws : va_W) (sh : List Nat) (rv : Option Value) (ws' : va_W) (sh' : List Nat), (0 ≠ 0 → ∃ v, As[0]? = some v ∧ ck_rf ws sh [0] v) → rr As ws sh rv ws' sh' → (Fc (3 * idx + 1)).2 As ws sh rv ws' sh') (X : ck_cx p l e R s m args below meth c cc own D V.1 tys M sc A) (hts : ∀ w ∈ V.2.2.2.2.1, w.before args s = true) (htl : tys.map Prod.snd = V.2.2.2.1) (hsw : sc.2.1.isSome = true) (hnc : ck_nq V s) (hM : mTT M = V.2.1 ∧ mSG M = V.2.2.1) (h5 : ck_ok5 C = true)
    (hg : ck_gd V.2.2.2.2.1) (hyx : y = ⟨y.cls, x.name, x.desc⟩) (hw : ∀ w ∈ ([.methodLink own idx x, .sameMethod x.cls y.cls x.name x.desc, .static y, .initialized y.cls, .code y cc' nL' ret] : List Cond), w ∈ V.2.2.2.2.1)
    (hd : y.cls ≠ "java/lang/invoke/MethodHandle" ∧ y.cls ≠ "java/lang/invoke/VarHandle" ∧ (parseMethodDescriptor y.desc).map (fun d => d.parameters.length) = some na) (hrm : rm.cells = C.2.2.2.1 ∧ rm.slots = C.2.2.2.2) (hR : rm.frames + 1 ≤ R.frames ∧ 8 + (nL' + 11) + rm.locals ≤ R.locals) :
    ck_cs Fc s0 p l e R s m args below meth c Q cc D V.1 tys M sc A (3 * idx + 1, 0, na, C) := by
  refine ck_cs_gen hmet hF X htl hsw hnc hM h5 ?_
  intro pc ls ws sh H locs cells slots As rest Pc Qc free hdg hls hlen hrec hwo hP hsum hc hs hMet hbl hpre
  rw [ck_ik1] at hdg
  have hGi : GoodIn V.2.2.2.2.1 (.code y cc' nL' ret :: V.2.2.2.2.1) := ck_good hg (fun w hww => by
    rcases List.mem_cons.mp hww with rfl | q
    · exact hw _ (by simp)
    · exact q)
  exact ck_runSI (Ts := V.2.2.2.2.1) (rest := rest) (n := na) ⟨X.1, X.2.1, X.2.2.2.2.2.1, X.2.2.1, hts⟩ hMet ⟨hrm.1, hrm.2, hR.1, hR.2, pay_in hts hGi, List.mem_cons_self⟩ (hts _ (hw _ (by simp))) (hts _ (hw _ (by simp))) hyx (hts _ (hw _ (by simp))) (hts _ (hw _ (by simp))) (hts _ (hw _ (by simp))) ⟨hd.1, hd.2.1⟩ (fun sig h => by
    have h2 := hd.2.2
    rw [h] at h2
    exact (Option.some.inj h2).symm) ⟨hbl, hpre⟩ (g := F0 m pc ls (As.reverse ++ rest)) rfl hlen hls rfl (ck_lroom hsum) hdg ⟨hc, hs⟩
/-- System.arraycopy(a, 0, b, 0, n) of longs -/
def ck_yC (t0 t1 : Nat) (mx : Int) : ck_C := (([(2, 1, [t0]), (0, 2, []), (2, 3, [t1]), (0, 4, []), (0, 5, [])], [], [(0, 0), (1, 0), (0, 0), (1, 0), (0, 0), (0, mx)], []), [([], [], [(1, 0), (1, 0), (1, 0), (1, 0), (1, 0), (1, 0)], [])], [(t1, 0)], 0, 0)
/-- what is copied -/
def f_cpl : fR := fun As ws sh rv ws' sh' => ∃ (a0 a1 : Nat) (sp dp n : Int32) (q0 q1 n0 n1 : Nat) (c0 c1 : ClassId) (f g : Nat → Int64), As = [.ref a0, .int sp, .ref a1, .int dp, .int n] ∧ ws[q0]? = some (a0, .inl (c0, n0, .inr (.inl f))) ∧ ws[q1]? = some (a1, .inl (c1, n1, .inr (.inl g))) ∧ rv = none ∧ sh' = sh ∧ ws' = ws.set q1 (a1, .inl (c1, n1, .inr (.inl (va_cpy f g sp.toNatClampNeg dp.toNatClampNeg n.toNatClampNeg))))
def f_cpi : fR := fun As ws sh rv ws' sh' => ∃ (a0 a1 : Nat) (sp dp n : Int32) (q0 q1 n0 n1 : Nat) (c0 c1 : ClassId) (f g : Nat → Int32), As = [.ref a0, .int sp, .ref a1, .int dp, .int n] ∧ ws[q0]? = some (a0, .inl (c0, n0, .inl f)) ∧ ws[q1]? = some (a1, .inl (c1, n1, .inl g)) ∧ rv = none ∧ sh' = sh ∧ ws' = ws.set q1 (a1, .inl (c1, n1, .inl (va_cpy f g sp.toNatClampNeg dp.toNatClampNeg n.toNatClampNeg)))
theorem ck_cs_Y {idx : Nat} (hF : Fc (3 * idx + 1) = (5, f_cpl)) (X : ck_cx p l e R s m args below meth c cc own D V.1 tys M sc A) (hts : ∀ w ∈ V.2.2.2.2.1, w.before args s = true) {t0 t1 : Nat} {mx : Int} {n0 n1 k0 k1 : Nat} {F0' F1' : List ck_T} (htl : tys.map Prod.snd = V.2.2.2.1) (h0 : (mTT M)[t0]? = some (2, n0, k0, F0')) (h1 : (mTT M)[t1]? = some (2, n1, k1, F1')) (hmn : 0 ≤ mx) (hm0 : mx ≤ (n0 : Int)) (hm1 : mx ≤ (n1 : Int)) (hw : ∀ w ∈ ([.methodLink own idx arraycopyName, .native arraycopyName, .static arraycopyName, .initialized "java/lang/System"] : List Cond), w ∈ V.2.2.2.2.1) (hR : 1 ≤ R.frames ∧ 60 ≤ R.locals) :
    ck_cs Fc s0 p l e R s m args below meth c Q cc D V.1 tys M sc A (3 * idx + 1, 0, 5, ck_yC t0 t1 mx) := by
  intro pc ls nn ws sh H locs cells slots As rest hdg hls hlen hn0 hpo hrec hwo hP hD hS hc hs hsum hk
  rw [ck_ik1] at hdg
  have hnf : nativeFrameWords "java/lang/System" "arraycopy" 5 + 11 ≤ 52 := by decide +kernel
  obtain ⟨v0, As, rfl, w0, g⟩ := ck_hd hpo.1
  obtain ⟨v1, As, rfl, w1, g⟩ := ck_hd g
  obtain ⟨v2, As, rfl, w2, g⟩ := ck_hd g
  obtain ⟨v3, As, rfl, w3, g⟩ := ck_hd g
  obtain ⟨v4, As, rfl, w4, g⟩ := ck_hd g
  cases As with
  | cons _ _ => exact g.elim
  | nil =>
    have E := hpo.2.2.1
    obtain ⟨-, -, q0, a0, e0, u0, rfl, hq0, hu0, hm0'⟩ := w0.r rfl
    obtain ⟨-, -, q1, a1, e1, u1, rfl, hq1, hu1, hm1'⟩ := w2.r rfl
    rw [List.mem_singleton.mp hm0'] at hu0
    rw [List.mem_singleton.mp hm1'] at hu1
    obtain ⟨-, sp, rfl, hsp⟩ := w1.i rfl
    obtain ⟨-, dp, rfl, hdp⟩ := w3.i rfl
    obtain ⟨-, n, rfl, hn⟩ := w4.i rfl
    have E2 := E 2 (0, 0) rfl (by decide)
    have E4 := E 4 (0, 0) rfl (by decide)
    obtain ⟨td0, g0, c0⟩ := hwo.2.1 q0 a0 e0 t0 hq0 hu0
    obtain ⟨td1, g1, c1⟩ := hwo.2.1 q1 a1 e1 t1 hq1 hu1
    have e0' : td0 = (2, n0, k0, F0') := Option.some.inj (g0.symm.trans h0)
    have e1' : td1 = (2, n1, k1, F1') := Option.some.inj (g1.symm.trans h1)
    subst e0' e1'
    have c1' := c1
    obtain ⟨cA0, f0, y0, rfl⟩ := c0
    obtain ⟨cA1, f1, y1, rfl⟩ := c1
    have s1 : sp.toInt = 0 := by have a := E2.1; have b := E2.2; rw [← hsp] at a b; exact Int.le_antisymm b a
    have s2 : dp.toInt = 0 := by have a := E4.1; have b := E4.2; rw [← hdp] at a b; exact Int.le_antisymm b a
    have sz : sp.toNatClampNeg = 0 := by show sp.toInt.toNat = 0; omega
    have dz : dp.toNatClampNeg = 0 := by show dp.toInt.toNat = 0; omega
    have nneg : ∀ z : Int32, 0 ≤ z.toInt → ¬ z < 0 := fun z hz => by rw [Int32.lt_iff_toInt_lt]; simpa using hz
    have c5 := E 5 (0, mx) rfl hmn
    rw [← hn] at c5
    have nz : (n.toNatClampNeg : Int) = n.toInt := Int.toNat_of_nonneg c5.1
    intro lg hlg hgr
    refine va_copyl (rest := rest) X.1 X.2.1 (X.2.2.2.2.2.1.trans hls.symm) X.2.2.1 (hts _ (hw _ (by simp))) (hts _ (hw _ (by simp))) (hts _ (hw _ (by simp))) (hts _ (hw _ (by simp))) X.2.2.2.1 hP hD hS q0 q1 k0 k1 hq0 hq1 y0 y1 rfl (nneg _ (by omega)) (nneg _ (by omega)) (nneg _ c5.1) (show sp.toNatClampNeg + n.toNatClampNeg ≤ n0 by omega) (show dp.toNatClampNeg + n.toNatClampNeg ≤ n1 by omega) (fun _ _ => rfl) hR.1 (by omega) hdg (fun H1 locs1 P1 D1 S1 => ?_)
    obtain ⟨W1, W2⟩ := ck_wo_set (Wr := [(t1, 0)]) (e' := .inl (cA1, n1, .inr (.inl (va_cpy f0 f1 sp.toNatClampNeg dp.toNatClampNeg n.toNatClampNeg)))) hwo hq1 hu1 (fun z => absurd (List.mem_singleton.mpr rfl) z) h1 ⟨cA1, _, y1, rfl⟩
    exact hk _ List.mem_cons_self none nn _ sh H1 locs1 (fun _ _ => rfl) W1 W2 P1 D1 S1 ⟨trivial, fun _ h => (List.not_mem_nil h).elim, fun k z hz hle => by
      have hz' : ([(1, 0), (1, 0), (1, 0), (1, 0), (1, 0), (1, 0)] : List (Int × Int))[k]? = some z := hz
      have hzm := List.mem_of_getElem? hz'
      simp at hzm
      rw [hzm] at hle
      exact absurd hle (by decide), fun _ h => (List.not_mem_nil h).elim⟩ lg hlg (hgr.nx X.2.1 hdg ⟨[.ref a0, .int sp, .ref a1, .int dp, .int n], rest, none, _, sh, rfl, by show _ = (Fc (3 * idx + 1)).1; rw [hF]; rfl, by show (Fc (3 * idx + 1)).2 _ _ _ _ _ _; rw [hF]; exact ⟨a0, a1, sp, dp, n, q0, q1, n0, n1, cA0, cA1, f0, f1, rfl, hq0, hq1, rfl, rfl, rfl⟩, rfl⟩)
end
end
