noncomputable section
/-! a contract is the call's meaning -/
def ck_ok5 (C : ck_C) : Bool := C.1.1.all (fun v => decide (v.1 < 5)) && (C.1.2.1.all ck_okm && C.2.1.all (fun P => P.1.all (fun v => decide (v.1 < 5)) && P.2.1.all ck_okm))
theorem ck_vo.sc5 {ws : va_W} {sh : List Nat} {sc sc' : ck_sc} {n : ck_N} {N : Nat} {av : ck_V} {v : Value} (h5 : av.1 < 5) (h : ck_vo ws sh sc n N av v) : ck_vo ws sh sc' n N av v := by
  unfold ck_vo at h ⊢
  refine ⟨h.1, ?_⟩
  have h2 := h.2
  split at h2
  · exact h2
  · exact h2
  · exact h2
  · exact h2
  · exact h2
  · omega
  · omega
  · omega
  · exact h2.elim
theorem ck_po.sc5 {SG : List Nat} {ws : va_W} {sh : List Nat} {sc sc' : ck_sc} {n : ck_N} {N : Nat} {P : ck_P} {xs : List Value} (h1 : P.1.all (fun v => decide (v.1 < 5)) = true) (h2 : P.2.1.all ck_okm = true) (h : ck_po SG ws sh sc n N P xs) : ck_po SG ws sh sc' n N P xs := by
  refine ⟨?_, fun x hx => ?_, h.2.2⟩
  · have hall : ∀ v ∈ P.1, v.1 < 5 := fun v hv => of_decide_eq_true (List.all_eq_true.mp h1 v hv)
    have h3 := h.1
    revert hall h3
    generalize P.1 = ps
    clear h h1 h2
    intro hall h3
    induction ps generalizing xs with
    | nil => cases xs with
      | nil => trivial
      | cons _ _ => exact h3.elim
    | cons v ps ih => cases xs with
      | nil => exact h3.elim
      | cons x xs => exact ⟨h3.1.sc5 (hall v List.mem_cons_self), ih (fun w hw => hall w (List.mem_cons_of_mem _ hw)) h3.2⟩
  · have hx2 := List.all_eq_true.mp h2 x hx
    unfold ck_okm at hx2
    rw [Bool.and_eq_true, Bool.not_eq_true', beq_eq_false_iff_ne, Bool.or_eq_true, decide_eq_true_eq, decide_eq_true_eq] at hx2
    rcases h.2.1 x hx with ⟨z, -⟩ | ⟨z0, z1, q, a, oo, v, z2, z3, z4, z5⟩ | hy
    · exact absurd z hx2.1
    · refine Or.inr (Or.inl ⟨z0, z1, q, a, oo, v, z2, z3, z4, z5.sc5 ?_⟩)
      rcases hx2.2 with w | w
      · exact w
      · exfalso
        have z5 := z5.2
        split at z5 <;> omega
    · exact Or.inr (Or.inr hy)
theorem ck_st_blind {V : ck_Wd} {D : va_G} {tys : List (ClassId × FieldType)} {ws : va_W} {sz : Nat} {sw : Option Nat} {As : List Value} : FrameBlind (va_Pc As (ck_st V D tys ws sz sw)) := by
  intro a U g mk h
  obtain ⟨rfl, h1, h2, h3, h4, h5, h6⟩ := h
  have hal : U.vm.Alike (U.calling g mk As.toArray).vm := Vm.Alike.refl U.vm
  refine ⟨rfl, h1, h2, h3.moved hal, h4, h5.same (show U.vm = (U.calling g mk As.toArray).vm from rfl), fun w hw => ?_⟩
  obtain ⟨g1, g2⟩ := h6 w hw
  exact ⟨g1.moved hal, g2.moved hal⟩
section
variable {Fc : Nat → Nat × fR} {s0 : fS} {p : Program} {l : Launch} {e : Env} {R : Room} {s : State} {m : MethodId} {args : Array Value} {below : List Frame} {meth : Method} {c : Code} {Q : State → Prop} {cc : ByteArray} {own : String} {D : va_G} {tys : List (ClassId × FieldType)} {M : ck_Me} {sc : ck_sc} {A : Nat → Prop} {V : ck_Wd}
theorem fxi_ik {T : fT} {i : Nat} {a b : fS} (h : f_call T i a b) : fxi T (ck_ik i) 3 a b := by
  have h3 : i % 3 = 0 ∨ i % 3 = 1 ∨ i % 3 = 2 := by omega
  unfold ck_ik
  rcases h3 with e | e | e <;> rw [e]
  · show f_call T (3 * (i / 3)) a b
    rw [show 3 * (i / 3) = i by omega]
    exact h
  · show f_call T (3 * (i / 3) + 1) a b
    rw [show 3 * (i / 3) + 1 = i by omega]
    exact h
  · show f_call T (3 * (i / 3) + 2) a b
    rw [show 3 * (i / 3) + 2 = i by omega]
    exact h
theorem ck_cs_gen {rr : fR} {y : MethodName} {cc' : ByteArray} {nL' : Nat} {ret : Option FieldType} {rm : Room} {C : ck_C} {i t na : Nat} (hmet : ck_met V l y cc' nL' ret rm C rr) (hF : (Fc i).1 = na ∧ ∀ (As : List Value) (ws : va_W) (sh : List Nat) (rv : Option Value) (ws' : va_W) (sh' : List Nat), (t ≠ 0 → ∃ v, As[0]? = some v ∧ ck_rf ws sh [t] v) → rr As ws sh rv ws' sh' → (Fc i).2 As ws sh rv ws' sh') (X : ck_cx p l e R s m args below meth c cc own D V.1 tys M sc A) (htl : tys.map Prod.snd = V.2.2.2.1) (hsw : sc.2.1.isSome = true) (hnc : ck_nq V s) (hM : mTT M = V.2.1 ∧ mSG M = V.2.2.1) (h5 : ck_ok5 C = true)
    (hrun : ∀ (pc : Nat) (ls : Array Slot) (ws : va_W) (sh : List Nat) (H : Heap) (locs : List Loc) (cells slots : Nat) (As rest : List Value) (Pc : Array Value → State → Prop) (Qc : Array Value → State → Outcome → State → Prop) (free : Addr → Prop), decode cc pc = .ok (ck_ik i, 3) → ls.size = mnL M → As.length = na → (t ≠ 0 → ∃ v, As[0]? = some v ∧ ck_rf ws sh [t] v) → ck_wo tys (mTT M) (mSG M) ws sh → va_P D V.1 ws H → (rest.map fun v => v.category).sum ≤ 8 → cells + C.2.2.2.1 ≤ R.cells → slots + C.2.2.2.2 ≤ R.slots →
      Met l y (.code y cc' nL' ret :: V.2.2.2.2.1) rm Pc Qc C.2.2.2.1 C.2.2.2.2 free → FrameBlind Pc → (∀ U : State, U.heap = H → s.WarmedH U.vm → Pc As.toArray U) → va_Run p l e R s m args below meth c H locs cells slots C.2.2.2.1 C.2.2.2.2 (F0 m pc ls (As.reverse ++ rest)) rest (Qc As.toArray) free) :
    ck_cs Fc s0 p l e R s m args below meth c Q cc D V.1 tys M sc A (i, t, na, C) := by
  intro pc ls n1 ws sh H locs cells slots As rest hdg hls hlen hn0 hpo hrec hwo hP hD hS hc hs hsum hk
  unfold ck_ok5 at h5
  rw [Bool.and_eq_true, Bool.and_eq_true] at h5
  obtain ⟨h51, h52, h53⟩ := h5
  obtain ⟨x1, x2, x3, x4, x5, x6, x7, x8, x9, x10⟩ := X
  have hA1 : ∀ q, va_A ws H.size q → A q := by
    rintro q (⟨k, e', h⟩ | h)
    · exact hD.2 k _ h
    · exact x5 q (Nat.le_trans hS.1 h)
  have hmet' := hmet D tys ws sh H.size n1 As sc.2.1 htl hsw hn0 (by rw [← hM.2]; exact hpo.sc5 h51 h52) (by rw [← hM.1, ← hM.2]; exact hwo) trivial
  have hpre : ∀ U : State, U.heap = H → s.WarmedH U.vm → va_Pc As (ck_st V D tys ws H.size sc.2.1) As.toArray U := by
    intro U hU hW
    refine ⟨rfl, by rw [hU], by rw [hU]; exact hP, va_K.moved hW.alike x4, hD.weaken (fun _ _ _ _ => trivial), hnc.warm hW, fun w hw => ?_⟩
    obtain ⟨g1, g2⟩ := x10 w hw
    exact ⟨by rw [hU]; exact ((g1.kept hS.2.1).narrow hA1).moved hW.alike, by rw [hU]; exact ((g2.kept hS.2.1).narrow hA1).moved hW.alike⟩
  have run := hrun pc ls ws sh H locs cells slots As rest _ _ _ hdg hls hlen hrec hwo hP hsum hc hs hmet' ck_st_blind hpre
  intro lg hlg hgr T hT Xs
  obtain ⟨v, st₀, u, T', L, h0, X', hL, e1, e2, ⟨⟨P, hPm, rv, n2, ws', sh', hrv, q1, q2, q3, q4, q5, q6, q7⟩, hz, hkF⟩, st⟩ := run T hT Xs
  cases hrv
  rw [h0] at hz hkF
  have h53' := List.all_eq_true.mp h53 P hPm
  rw [Bool.and_eq_true] at h53'
  obtain ⟨t2, a1, b1⟩ := hk P hPm v n2 ws' sh' T'.heap (locs ++ L) q1 (by rw [hM.1, hM.2]; exact q2) q3 (by rw [e1]; exact q4) (q5.weaken fun k q _ h => hA1 q.1 h)
    ⟨Nat.le_trans hS.1 (by rw [e1]; exact hz), fun q h1 h2 => by rw [e1, hkF q (Nat.lt_of_lt_of_le h1 hS.1) (fun z => h2 (hA1 q z))]; exact hS.2.1 q h1 h2, fun q hq => by
      rcases List.mem_append.mp hq with h | h
      · exact hS.2.2 q h
      · exact hA1 _ (hL q h)⟩ (by rw [hM.2]; exact q6.sc5 h53'.1 h53'.2) lg hlg (hgr.nx x2 hdg (fxi_ik ⟨As, rest, v, ws', sh', rfl, hlen.trans hF.1.symm, hF.2 As ws sh v ws' sh' hrec q7, rfl⟩)) T' rfl X'
  exact ⟨t2, st t2 a1, b1⟩
/-- the tables' words are good for callees -/
def ck_gd (Ts : List Cond) : Prop := ∀ w ∈ Ts, ((w.onTables && w.keeps) = true ∨ ∃ ty, w = .arrayClass ty)
theorem ck_good {Ts ws : List Cond} (hg : ck_gd Ts) (h : ∀ w ∈ ws, w ∈ Ts) : GoodIn Ts ws := fun w hw => ⟨h w hw, hg w (h w hw)⟩
theorem ck_lroom {pc : Nat} {ls : Array Slot} {st rest : List Value} (h : (rest.map fun v => v.category).sum ≤ 8) : 2 * (F0 m pc ls st).monitorRoom + (rest.map fun v => v.category).sum ≤ 8 := by
  show 2 * 0 + _ ≤ 8
  omega
theorem ck_recv (X : ck_cx p l e R s m args below meth c cc own D V.1 tys M sc A) {ws : va_W} {sh : List Nat} {H : Heap} {As : List Value} {t ci : Nat} {r : vw_C} (hwo : ck_wo tys (mTT M) (mSG M) ws sh) (hP : va_P D V.1 ws H) (ht : t ≠ 0) (hci : ck_ty0 M t = some ci) (hr : V.1[ci]? = some r) (hrec : t ≠ 0 → ∃ v, As[0]? = some v ∧ ck_rf ws sh [t] v) :
    ∃ (b : Nat) (As' : List Value), As = .ref b :: As' ∧ ∃ cell : Cell, H[b]? = some cell ∧ cell.vm.isStatics = false ∧ s.vm.findClass r.1 = some cell.cls := by
  obtain ⟨v, hv, q, a, e', t', rfl, h1, h2, h3⟩ := hrec ht
  rw [List.mem_singleton.mp h3] at h2
  cases As with
  | nil => simp at hv
  | cons x As' =>
    rw [List.getElem?_cons_zero, Option.some.injEq] at hv
    subst hv
    exact ⟨a, As', rfl, ck_cellof (cl := V.1) X hwo hP h1 h2 hci hr⟩
/-- invokevirtual of a method of the receiver's own class -/
theorem ck_cs_V {rr : fR} {y : MethodName} {cc' : ByteArray} {nL' idx : Nat} {ret : Option FieldType} {rm : Room} {C : ck_C} {t na ci : Nat} {r : vw_C} (hmet : ck_met V l y cc' nL' ret rm C rr) (hF : (Fc (3 * idx)).1 = na ∧ ∀ (As : List Value) (ws : va_W) (sh : List Nat) (rv : Option Value) (ws' : va_W) (sh' : List Nat), (t ≠ 0 → ∃ v, As[0]? = some v ∧ ck_rf ws sh [t] v) → rr As ws sh rv ws' sh' → (Fc (3 * idx)).2 As ws sh rv ws' sh') (X : ck_cx p l e R s m args below meth c cc own D V.1 tys M sc A) (hts : ∀ w ∈ V.2.2.2.2.1, w.before args s = true) (htl : tys.map Prod.snd = V.2.2.2.1) (hsw : sc.2.1.isSome = true) (hnc : ck_nq V s) (hM : mTT M = V.2.1 ∧ mSG M = V.2.2.1) (h5 : ck_ok5 C = true)
    (hg : ck_gd V.2.2.2.2.1) (hw : ∀ w ∈ ([.methodLink own idx y, .instanceMethod y, .selects r.1 y y, .initialized r.1, .code y cc' nL' ret] : List Cond), w ∈ V.2.2.2.2.1) (ht : t ≠ 0) (hci : ck_ty0 M t = some ci) (hr : V.1[ci]? = some r) (hyc : y.cls = r.1)
    (hd : y.cls ≠ "java/lang/invoke/MethodHandle" ∧ y.cls ≠ "java/lang/invoke/VarHandle" ∧ (parseMethodDescriptor y.desc).map (fun d => d.parameters.length + 1) = some na) (hrm : rm.cells = C.2.2.2.1 ∧ rm.slots = C.2.2.2.2) (hR : rm.frames + 1 ≤ R.frames ∧ 8 + (nL' + 11) + rm.locals ≤ R.locals) :
    ck_cs Fc s0 p l e R s m args below meth c Q cc D V.1 tys M sc A (3 * idx, t, na, C) := by
  refine ck_cs_gen hmet hF X htl hsw hnc hM h5 ?_
  intro pc ls ws sh H locs cells slots As rest Pc Qc free hdg hls hlen hrec hwo hP hsum hc hs hMet hbl hpre
  obtain ⟨b, As', rfl, hcell⟩ := ck_recv X hwo hP ht hci hr hrec
  obtain ⟨n, hn1, hn2⟩ : ∃ n, (parseMethodDescriptor y.desc).map (fun d => d.parameters.length) = some n ∧ na = n + 1 := by
    cases hp : parseMethodDescriptor y.desc with
    | none => rw [hp] at hd; cases hd.2.2
    | some d => rw [hp] at hd; exact ⟨d.parameters.length, rfl, (Option.some.inj hd.2.2).symm⟩
  rw [ck_ik0] at hdg
  have hGi : GoodIn V.2.2.2.2.1 (wsV own idx r.1 y (.code y cc' nL' ret :: V.2.2.2.2.1)) := ck_good hg (fun w hww => by
    rcases List.mem_append.mp hww with q | q
    · simp only [List.mem_cons, List.not_mem_nil, or_false] at q
      rcases q with rfl | rfl | rfl | rfl <;> exact hw _ (by simp)
    · rcases List.mem_cons.mp q with rfl | q
      · exact hw _ (by simp)
      · exact q)
  exact va_runV (rest := rest) ⟨X.1, X.2.1, X.2.2.2.2.2.1, X.2.2.1, hts⟩ hMet (cwV n hts hGi rfl hrm.1 hrm.2 ⟨hyc, hd.1, hd.2.1, hn1⟩ hR) ⟨hbl, hcell, hpre⟩ (g := F0 m pc ls ((Value.ref b :: As').reverse ++ rest)) rfl (by simp at hlen; omega) hls (by simp) (ck_lroom hsum) hdg ⟨hc, hs⟩
/-- invokestatic -/
theorem ck_cs_S {rr : fR} {y : MethodName} {cc' : ByteArray} {nL' idx : Nat} {ret : Option FieldType} {rm : Room} {C : ck_C} {na : Nat} (hmet : ck_met V l y cc' nL' ret rm C rr) (hF : (Fc (3 * idx + 1)).1 = na ∧ ∀ (As : List Value) (ws : va_W) (sh : List Nat) (rv : Option Value) (ws' : va_W) (sh' : List Nat), (0 ≠ 0 → ∃ v, As[0]? = some v ∧ ck_rf ws sh [0] v) → rr As ws sh rv ws' sh' → (Fc (3 * idx + 1)).2 As ws sh rv ws' sh') (X : ck_cx p l e R s m args below meth c cc own D V.1 tys M sc A) (hts : ∀ w ∈ V.2.2.2.2.1, w.before args s = true) (htl : tys.map Prod.snd = V.2.2.2.1) (hsw : sc.2.1.isSome = true) (hnc : ck_nq V s) (hM : mTT M = V.2.1 ∧ mSG M = V.2.2.1) (h5 : ck_ok5 C = true)
    (hg : ck_gd V.2.2.2.2.1) (hw : ∀ w ∈ ([.methodLink own idx y, .static y, .initialized y.cls, .code y cc' nL' ret] : List Cond), w ∈ V.2.2.2.2.1)
    (hd : y.cls ≠ "java/lang/invoke/MethodHandle" ∧ y.cls ≠ "java/lang/invoke/VarHandle" ∧ (parseMethodDescriptor y.desc).map (fun d => d.parameters.length) = some na) (hrm : rm.cells = C.2.2.2.1 ∧ rm.slots = C.2.2.2.2) (hR : rm.frames + 1 ≤ R.frames ∧ 8 + (nL' + 11) + rm.locals ≤ R.locals) :
    ck_cs Fc s0 p l e R s m args below meth c Q cc D V.1 tys M sc A (3 * idx + 1, 0, na, C) := by
  refine ck_cs_gen hmet hF X htl hsw hnc hM h5 ?_
  intro pc ls ws sh H locs cells slots As rest Pc Qc free hdg hls hlen hrec hwo hP hsum hc hs hMet hbl hpre
  rw [ck_ik1] at hdg
  have hGi : GoodIn V.2.2.2.2.1 (va_wsS own idx y (.code y cc' nL' ret :: V.2.2.2.2.1)) := ck_good hg (fun w hww => by
    rcases List.mem_append.mp hww with q | q
    · simp only [List.mem_cons, List.not_mem_nil, or_false] at q
      rcases q with rfl | rfl | rfl <;> exact hw _ (by simp)
    · rcases List.mem_cons.mp q with rfl | q
      · exact hw _ (by simp)
      · exact q)
  exact va_runS (rest := rest) ⟨X.1, X.2.1, X.2.2.2.2.2.1, X.2.2.1, hts⟩ hMet (va_cwS na hts hGi rfl hrm.1 hrm.2 hd hR) ⟨hbl, hpre⟩ (g := F0 m pc ls (As.reverse ++ rest)) rfl hlen hls rfl (ck_lroom hsum) hdg ⟨hc, hs⟩
/-- invokespecial of a constructor -/
theorem ck_cs_I {rr : fR} {y : MethodName} {cc' : ByteArray} {nL' idx : Nat} {rm : Room} {C : ck_C} {t na ci : Nat} {r : vw_C} (hmet : ck_met V l y cc' nL' none rm C rr) (hF : (Fc (3 * idx + 2)).1 = na ∧ ∀ (As : List Value) (ws : va_W) (sh : List Nat) (rv : Option Value) (ws' : va_W) (sh' : List Nat), (t ≠ 0 → ∃ v, As[0]? = some v ∧ ck_rf ws sh [t] v) → rr As ws sh rv ws' sh' → (Fc (3 * idx + 2)).2 As ws sh rv ws' sh') (X : ck_cx p l e R s m args below meth c cc own D V.1 tys M sc A) (hts : ∀ w ∈ V.2.2.2.2.1, w.before args s = true) (htl : tys.map Prod.snd = V.2.2.2.1) (hsw : sc.2.1.isSome = true) (hnc : ck_nq V s) (hM : mTT M = V.2.1 ∧ mSG M = V.2.2.1) (h5 : ck_ok5 C = true)
    (hg : ck_gd V.2.2.2.2.1) (hw : ∀ w ∈ ([.methodLink own idx y, .instanceMethod y, .initialized y.cls, .code y cc' nL' none] : List Cond), w ∈ V.2.2.2.2.1) (ht : t ≠ 0) (hci : ck_ty0 M t = some ci) (hr : V.1[ci]? = some r) (hy1 : y.name = "<init>")
    (hd : y.cls ≠ "java/lang/invoke/MethodHandle" ∧ y.cls ≠ "java/lang/invoke/VarHandle" ∧ (parseMethodDescriptor y.desc).map (fun d => d.parameters.length + 1) = some na) (hrm : rm.cells = C.2.2.2.1 ∧ rm.slots = C.2.2.2.2) (hR : rm.frames + 1 ≤ R.frames ∧ 8 + (nL' + 11) + rm.locals ≤ R.locals) :
    ck_cs Fc s0 p l e R s m args below meth c Q cc D V.1 tys M sc A (3 * idx + 2, t, na, C) := by
  refine ck_cs_gen hmet hF X htl hsw hnc hM h5 ?_
  intro pc ls ws sh H locs cells slots As rest Pc Qc free hdg hls hlen hrec hwo hP hsum hc hs hMet hbl hpre
  obtain ⟨b, As', rfl, hcell⟩ := ck_recv X hwo hP ht hci hr hrec
  obtain ⟨n, hn1, hn2⟩ : ∃ n, (parseMethodDescriptor y.desc).map (fun d => d.parameters.length) = some n ∧ na = n + 1 := by
    cases hp : parseMethodDescriptor y.desc with
    | none => rw [hp] at hd; cases hd.2.2
    | some d => rw [hp] at hd; exact ⟨d.parameters.length, rfl, (Option.some.inj hd.2.2).symm⟩
  rw [ck_ik2] at hdg
  have hGi : GoodIn V.2.2.2.2.1 (.code y cc' nL' none :: V.2.2.2.2.1) := ck_good hg (fun w hww => by
    rcases List.mem_cons.mp hww with rfl | q
    · exact hw _ (by simp)
    · exact q)
  exact va_runI (rest := rest) ⟨X.1, X.2.1, X.2.2.2.2.2.1, X.2.2.1, hts⟩ hMet (cwI n hts hGi rfl hrm.1 hrm.2 (hts _ (hw _ (by simp))) (hts _ (hw _ (by simp))) (hts _ (hw _ (by simp))) hy1 ⟨hd.1, hd.2.1, hn1⟩ hR) ⟨hbl, hpre⟩ (g := F0 m pc ls ((Value.ref b :: As').reverse ++ rest)) rfl (by simp at hlen; omega) hls (by simp) (ck_lroom hsum) hdg ⟨hc, hs⟩
end
end
