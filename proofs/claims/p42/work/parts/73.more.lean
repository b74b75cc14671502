noncomputable section
/-! calls of the other kinds: of a nest mate's private method, of a method that is inherited, of the superclass's own, of Object.<init>, of System.arraycopy -/
section
variable {Fc : Nat → Nat × fR} {s0 : fS} {p : Program} {l : Launch} {e : Env} {R : Room} {s : State} {m : MethodId} {args : Array Value} {below : List Frame} {meth : Method} {c : Code} {Q : State → Prop} {cc : ByteArray} {own : String} {D : va_G} {tys : List (ClassId × FieldType)} {M : ck_Me} {sc : ck_sc} {A : Nat → Prop} {V : ck_Wd}
/-- invokestatic of a nest mate's private method -/
theorem ck_cs_SN {rr : fR} {y : MethodName} {host : String} {cc' : ByteArray} {nL' idx : Nat} {ret : Option FieldType} {rm : Room} {C : ck_C} {na : Nat} (hmet : ck_met V l y cc' nL' ret rm C rr) (hF : (Fc (3 * idx + 1)).1 = na ∧ ∀ (As : List Value) (ws : va_W) (sh : List Nat) (rv : Option Value) (ws' : va_W) (sh' : List Nat), (0 ≠ 0 → ∃ v, As[0]? = some v ∧ ck_rf ws sh [0] v) → rr As ws sh rv ws' sh' → (Fc (3 * idx + 1)).2 As ws sh rv ws' sh') (X : ck_cx p l e R s m args below meth c cc own D V.1 tys M sc A) (hts : ∀ w ∈ V.2.2.2.2.1, w.before args s = true) (htl : tys.map Prod.snd = V.2.2.2.1) (hsw : sc.2.1.isSome = true) (hnc : ck_nq V s) (hM : mTT M = V.2.1 ∧ mSG M = V.2.2.1) (h5 : ck_ok5 C = true)
    (hg : ck_gd V.2.2.2.2.1) (hl : Cond.methodLinkNest own idx y host ∈ V.2.2.2.2.2.2) (hw : ∀ w ∈ ([.static y, .initialized y.cls, .code y cc' nL' ret] : List Cond), w ∈ V.2.2.2.2.1)
    (hd : y.cls ≠ "java/lang/invoke/MethodHandle" ∧ y.cls ≠ "java/lang/invoke/VarHandle" ∧ (parseMethodDescriptor y.desc).map (fun d => d.parameters.length) = some na) (hrm : rm.cells = C.2.2.2.1 ∧ rm.slots = C.2.2.2.2) (hR : rm.frames + 1 ≤ R.frames ∧ 8 + (nL' + 11) + rm.locals ≤ R.locals) :
    ck_cs Fc s0 p l e R s m args below meth c Q cc D V.1 tys M sc A (3 * idx + 1, 0, na, C) := by
  refine ck_cs_gen hmet hF X htl hsw hnc hM h5 ?_
  intro pc ls ws sh H locs cells slots As rest Pc Qc free hdg hls hlen hrec hwo hP hsum hc hs hMet hbl hpre
  rw [ck_ik1] at hdg
  have hGi : GoodIn V.2.2.2.2.1 (.code y cc' nL' ret :: V.2.2.2.2.1) := ck_good hg (fun w hww => by
    rcases List.mem_cons.mp hww with rfl | q
    · exact hw _ (by simp)
    · exact q)
  exact va_runSN (rest := rest) ⟨X.1, X.2.1, X.2.2.2.2.2.1, X.2.2.1, hts⟩ hMet ⟨va_cnB na hts hGi rfl hrm.1 hrm.2 (hnc.2 _ hl).2 (hts _ (hw _ (by simp))) hd hR, hts _ (hw _ (by simp)), trivial⟩ ⟨hbl, hpre⟩ (g := F0 m pc ls (As.reverse ++ rest)) rfl hlen hls rfl (ck_lroom hsum) hdg ⟨hc, hs⟩
/-- invokevirtual, where the receiver's class inherits or overrides -/
theorem ck_cs_U {rr : fR} {x y : MethodName} {owner : String} {cc' : ByteArray} {nL' idx : Nat} {ret : Option FieldType} {rm : Room} {C : ck_C} {t na ci : Nat} {r : vw_C} (hmet : ck_met V l y cc' nL' ret rm C rr) (hF : (Fc (3 * idx)).1 = na ∧ ∀ (As : List Value) (ws : va_W) (sh : List Nat) (rv : Option Value) (ws' : va_W) (sh' : List Nat), (t ≠ 0 → ∃ v, As[0]? = some v ∧ ck_rf ws sh [t] v) → rr As ws sh rv ws' sh' → (Fc (3 * idx)).2 As ws sh rv ws' sh') (X : ck_cx p l e R s m args below meth c cc own D V.1 tys M sc A) (hts : ∀ w ∈ V.2.2.2.2.1, w.before args s = true) (htl : tys.map Prod.snd = V.2.2.2.1) (hsw : sc.2.1.isSome = true) (hnc : ck_nq V s) (hM : mTT M = V.2.1 ∧ mSG M = V.2.2.1) (h5 : ck_ok5 C = true)
    (ht : t ≠ 0) (hci : ck_ty0 M t = some ci) (hr : V.1[ci]? = some r) (n : Nat) (hn : na = n + 1) (cw : va_CU R s args own r.1 owner idx x y cc' nL' ret (.code y cc' nL' ret :: V.2.2.2.2.1) rm C.2.2.2.1 C.2.2.2.2 n) :
    ck_cs Fc s0 p l e R s m args below meth c Q cc D V.1 tys M sc A (3 * idx, t, na, C) := by
  refine ck_cs_gen hmet hF X htl hsw hnc hM h5 ?_
  intro pc ls ws sh H locs cells slots As rest Pc Qc free hdg hls hlen hrec hwo hP hsum hc hs hMet hbl hpre
  obtain ⟨b, As', rfl, hcell⟩ := ck_recv X hwo hP ht hci hr hrec
  rw [ck_ik0] at hdg
  exact va_runU (Ts := V.2.2.2.2.1) (rest := rest) ⟨X.1, X.2.1, X.2.2.2.2.2.1, X.2.2.1, hts⟩ hMet cw ⟨hbl, hcell, hpre⟩ (g := F0 m pc ls ((Value.ref b :: As').reverse ++ rest)) rfl (by simp at hlen; omega) hls (by simp) (ck_lroom hsum) hdg ⟨hc, hs⟩
theorem ck_gU {Ts : List Cond} {own C owner : String} {idx : Nat} {x y : MethodName} {cc' : ByteArray} {nL' : Nat} {ret : Option FieldType} (hg : ck_gd Ts) (hw : ∀ w ∈ ([.methodLink own idx x, .sameMethod x.cls owner x.name x.desc, .selects C x y, .instanceMethod y, .initialized y.cls] : List Cond), w ∈ Ts) (hc : Cond.code y cc' nL' ret ∈ Ts) : GoodIn Ts (va_wsU own idx C owner x y (.code y cc' nL' ret :: Ts)) := ck_good hg (fun w hww => by
    rcases List.mem_append.mp hww with q | q
    · exact hw _ q
    · rcases List.mem_cons.mp q with rfl | q
      · exact hc
      · exact q)
theorem ck_gO {Ts : List Cond} {own C owner : String} {idx : Nat} {x y : MethodName} {cc' : ByteArray} {nL' : Nat} {ret : Option FieldType} (hg : ck_gd Ts) (hw : ∀ w ∈ ([.methodLink own idx x, .sameMethod x.cls owner x.name x.desc, .selects C x y, .instanceMethod y, .initialized y.cls] : List Cond), w ∈ Ts) (hi : Cond.instanceMethod ⟨owner, x.name, x.desc⟩ ∈ Ts) (hc : Cond.code y cc' nL' ret ∈ Ts) : GoodIn Ts (va_wsO own idx C owner x y (.code y cc' nL' ret :: Ts)) := ck_good hg (fun w hww => by
    rcases List.mem_append.mp hww with q | q
    · simp only [List.mem_cons, List.not_mem_nil, or_false] at q
      rcases q with rfl | rfl | rfl | rfl | rfl | rfl <;> first | exact hi | exact hw _ (by simp)
    · rcases List.mem_cons.mp q with rfl | q
      · exact hc
      · exact q)
/-- super.m(..) -/
theorem ck_cs_SU {rr : fR} {y : MethodName} {cc' : ByteArray} {nL' idx : Nat} {ret : Option FieldType} {rm : Room} {C : ck_C} {t na ci : Nat} {r : vw_C} (hmet : ck_met V l y cc' nL' ret rm C rr) (hF : (Fc (3 * idx + 2)).1 = na ∧ ∀ (As : List Value) (ws : va_W) (sh : List Nat) (rv : Option Value) (ws' : va_W) (sh' : List Nat), (t ≠ 0 → ∃ v, As[0]? = some v ∧ ck_rf ws sh [t] v) → rr As ws sh rv ws' sh' → (Fc (3 * idx + 2)).2 As ws sh rv ws' sh') (X : ck_cx p l e R s m args below meth c cc own D V.1 tys M sc A) (hts : ∀ w ∈ V.2.2.2.2.1, w.before args s = true) (htl : tys.map Prod.snd = V.2.2.2.1) (hsw : sc.2.1.isSome = true) (hnc : ck_nq V s) (hM : mTT M = V.2.1 ∧ mSG M = V.2.2.1) (h5 : ck_ok5 C = true)
    (hg : ck_gd V.2.2.2.2.1) (hw : ∀ w ∈ ([.methodLink own idx y, .sameMethod y.cls y.cls y.name y.desc, .superclass own y.cls, .instanceMethod y, .initialized y.cls] : List Cond), w ∈ V.2.2.2.2.1) (hcd : Cond.code y cc' nL' ret ∈ V.2.2.2.2.1) (ht : t ≠ 0) (hci : ck_ty0 M t = some ci) (hr : V.1[ci]? = some r)
    (hd : y.name ≠ "<init>" ∧ (parseMethodDescriptor y.desc).map (fun d => d.parameters.length + 1) = some na) (hrm : rm.cells = C.2.2.2.1 ∧ rm.slots = C.2.2.2.2) (hR : rm.frames + 1 ≤ R.frames ∧ 8 + (nL' + 11) + rm.locals ≤ R.locals) :
    ck_cs Fc s0 p l e R s m args below meth c Q cc D V.1 tys M sc A (3 * idx + 2, t, na, C) := by
  refine ck_cs_gen hmet hF X htl hsw hnc hM h5 ?_
  intro pc ls ws sh H locs cells slots As rest Pc Qc free hdg hls hlen hrec hwo hP hsum hc hs hMet hbl hpre
  obtain ⟨b, As', rfl, hcell⟩ := ck_recv X hwo hP ht hci hr hrec
  obtain ⟨n, hn1, hn2⟩ : ∃ n, (parseMethodDescriptor y.desc).map (fun d => d.parameters.length) = some n ∧ na = n + 1 := by
    cases hp : parseMethodDescriptor y.desc with
    | none => rw [hp] at hd; cases hd.2
    | some d => rw [hp] at hd; exact ⟨d.parameters.length, rfl, (Option.some.inj hd.2).symm⟩
  rw [ck_ik2] at hdg
  have hGi : GoodIn V.2.2.2.2.1 (va_wsSU own idx y (.code y cc' nL' ret :: V.2.2.2.2.1)) := ck_good hg (fun w hww => by
    rcases List.mem_append.mp hww with q | q
    · exact hw _ q
    · rcases List.mem_cons.mp q with rfl | q
      · exact hcd
      · exact q)
  exact va_runSU (rest := rest) (X.2.2.2.1.1 ci r hr).2 ⟨X.1, X.2.1, X.2.2.2.2.2.1, X.2.2.1, hts⟩ hMet (va_cwSU n hts hGi rfl hrm.1 hrm.2 ⟨hd.1, hn1⟩ hR) ⟨hbl, hcell, hpre⟩ (g := F0 m pc ls ((Value.ref b :: As').reverse ++ rest)) rfl (by simp at hlen; omega) hls (by simp) (ck_lroom hsum) hdg ⟨hc, hs⟩
/-- Object.<init> -/
def ck_oC (t : Nat) : ck_C := (([(2, 1, [t])], [], [(0, 0), (1, 0)], []), [([], [], [(1, 0), (1, 0)], [])], [], 0, 0)
/-- nothing happens -/
def f_nop : fR := fun _ ws sh rv ws' sh' => rv = none ∧ ws' = ws ∧ sh' = sh
theorem ck_cs_O {idx t : Nat} (hF : Fc (3 * idx + 2) = (1, f_nop)) (X : ck_cx p l e R s m args below meth c cc own D V.1 tys M sc A) (hts : ∀ w ∈ V.2.2.2.2.1, w.before args s = true) (hw : ∀ w ∈ ([.methodLink own idx Lib.objectInit, .instanceMethod Lib.objectInit, .code Lib.objectInit ⟨#[0xb1]⟩ 1 none] : List Cond), w ∈ V.2.2.2.2.1) (hR : 1 ≤ R.frames ∧ 8 + 12 ≤ R.locals) :
    ck_cs Fc s0 p l e R s m args below meth c Q cc D V.1 tys M sc A (3 * idx + 2, t, 1, ck_oC t) := by
  intro pc ls n1 ws sh H locs cells slots As rest hdg hls hlen hn0 hpo hrec hwo hP hD hS hc hs hsum hk
  rw [ck_ik2] at hdg
  obtain ⟨v, As', rfl, h1, h2⟩ := ck_hd hpo.1
  cases As' with
  | cons _ _ => exact h2.elim
  | nil =>
    obtain ⟨-, -, q, a, e', t', rfl, -⟩ := h1.r rfl
    intro lg hlg hgr
    refine W.objInit X.1 X.2.1 X.2.2.1 (hts _ (hw _ (by simp))) (hts _ (hw _ (by simp))) (hts _ (hw _ (by simp))) (g := F0 m pc ls ([Value.ref a].reverse ++ rest)) rfl (hls.trans X.2.2.2.2.2.1.symm) (a := a) (rest := rest) rfl hdg hR.1 (by show 2 * 0 + _ + 12 ≤ _; omega) ?_
    exact hk _ List.mem_cons_self none n1 ws sh H locs (fun _ _ => rfl) hwo ck_ex.rf hP hD hS ⟨trivial, fun _ h => (List.not_mem_nil h).elim, fun k z hz hle => by
      rcases k with _ | _ | k
      · have := Option.some.inj hz; subst this; exact absurd hle (by decide)
      · have := Option.some.inj hz; subst this; exact absurd hle (by decide)
      · exact absurd hz (by simp [ck_oC]), fun _ h => (List.not_mem_nil h).elim⟩ lg hlg (hgr.nx X.2.1 hdg ⟨[.ref a], rest, none, ws, sh, rfl, by show _ = (Fc (3 * idx + 2)).1; rw [hF]; rfl, by show (Fc (3 * idx + 2)).2 _ _ _ _ _ _; rw [hF]; exact ⟨rfl, rfl, rfl⟩, rfl⟩)
end
end
