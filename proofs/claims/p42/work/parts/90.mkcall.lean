noncomputable section
/-! the makers: a contract is the call's meaning -/
def mk_dv (t : FieldType) : Option mk_V := match t with
  | .int => some (1, 0, 0)
  | .boolean => some (1, 0, 0)
  | .object _ => some (0, 0, 0)
  | .array _ => some (0, 0, 0)
  | _ => none
theorem mk_dv_ok {ws : va_W} {t : FieldType} {v : mk_V} (h : mk_dv t = some v) : mk_vo ws v (defaultValue t) := by
  unfold mk_dv at h
  split at h <;> first | (cases h; first | exact mk_vo.int rfl | rfl) | cases h
theorem mk_dvs {N : Nat} {ty : Nat → FieldType} {ds : List mk_V} (h : (List.range N).map (fun j => mk_dv (ty j)) = ds.map some) : ∀ j, j < N → ∃ v, ds[j]? = some v ∧ mk_vo [] v (defaultValue (ty j)) := by
  intro j hj
  have h1 : ((List.range N).map (fun j => mk_dv (ty j)))[j]? = some (mk_dv (ty j)) := by simp [hj]
  rw [h, List.getElem?_map] at h1
  cases hd : ds[j]? with
  | none => rw [hd] at h1; cases h1
  | some v =>
    rw [hd] at h1
    exact ⟨v, rfl, mk_dv_ok (Option.some.inj h1).symm⟩
section
variable {p : Program} {l : Launch} {e : Env} {R : Room} {s : State} {m : MethodId} {args : Array Value} {below : List Frame} {meth : Method} {c : Code} {Q : State → Prop} {cc : ByteArray} {own : String} {D : va_G} {V : ck_Wd} {tys : List (ClassId × FieldType)} {T : mk_T} {A : Nat → Prop}
theorem mk_cs_gen {y : MethodName} {cc' : ByteArray} {nL' : Nat} {ret : Option FieldType} {rm : Room} {f : mk_F} {i na : Nat} (hmet : mk_met V l y cc' nL' ret rm f) (X : mk_cx p e R s m args meth c cc own D V tys T A)
    (hrun : ∀ (pc : Nat) (ls : Array Slot) (H : Heap) (locs : List Loc) (cells slots : Nat) (As rest : List Value) (Pc : Array Value → State → Prop) (Qc : Array Value → State → Outcome → State → Prop) (free : Addr → Prop), decode cc pc = .ok (ck_ik i, 3) → ls.size = mnL0 T → As.length = na → (i % 3 = 2 → ∃ (b : Nat) (As' : List Value), As = .ref b :: As') → (rest.map fun v => v.category).sum ≤ 8 → cells + rm.cells ≤ R.cells → slots + rm.slots ≤ R.slots →
      Met l y (.code y cc' nL' ret :: V.2.2.2.2.1) rm Pc Qc rm.cells rm.slots free → FrameBlind Pc → (∀ U : State, U.heap = H → s.WarmedH U.vm → Pc As.toArray U) → va_Run p l e R s m args below meth c H locs cells slots rm.cells rm.slots (F0 m pc ls (As.reverse ++ rest)) rest (Qc As.toArray) free) :
    mk_cs p l e R s m args below meth c Q cc D V.1 tys T A (i, na, f, rm.cells, rm.slots) := by
  intro pc ls ws W0 H locs cells slots As rest xs r hdg hls hlen hxs hwo hP hD hS hc hs hsum hhd hf hk
  obtain ⟨x1, x2, x3, x4, x5, x6, x7, x8, x9, x10, x11, x12⟩ := X
  have hA1 : ∀ q, va_A ws H.size q → A q := by
    rintro q (⟨k, e', h⟩ | h)
    · exact hD.2 k _ h
    · exact x5 q (Nat.le_trans hS.1 h)
  have hmet' := hmet D tys ws H.size As W0 xs r x10 hwo hxs hf
  have hpre : ∀ U : State, U.heap = H → s.WarmedH U.vm → va_Pc As (mk_sta V D tys ws H.size) As.toArray U := by
    intro U hU hW
    exact ⟨rfl, ⟨by rw [hU], by rw [hU]; exact hP, va_K.moved hW.alike x4, hD.weaken (fun _ _ _ _ => trivial), x11.warm hW, fun w hw => by cases hw⟩, x12.moved hW.alike⟩
  have run := hrun pc ls H locs cells slots As rest _ _ _ hdg hls hlen (fun hi => by
    unfold mk_hd at hhd
    have hi' : (i % 3 == 2) = true := by rw [hi]; rfl
    dsimp only at hhd
    rw [hi', Bool.not_true, Bool.false_or] at hhd
    cases xs with
    | nil => cases hhd
    | cons v xs =>
      cases As with
      | nil => exact hxs.elim
      | cons a As =>
        obtain ⟨b, e0, -, rfl⟩ := hxs.1.r (eq_of_beq hhd)
        exact ⟨b, As, rfl⟩) hsum hc hs hmet' mk_sta_blind hpre
  intro Tt hT Xs
  obtain ⟨v, st₀, u, T', L, h0, X', hL, e1, e2, ⟨⟨rv, ws', hrv, q1, q2, q3, q4, q5⟩, hz, hkF⟩, st⟩ := run Tt hT Xs
  cases hrv
  rw [h0] at hz hkF
  obtain ⟨t2, a1, b1⟩ := hk v.toList ws' T'.heap (locs ++ L) q1 q2 (by rw [e1]; exact q3) (q4.weaken fun k q _ h => hA1 q.1 h)
    ⟨Nat.le_trans hS.1 (by rw [e1]; exact hz), fun q h1 h2 => by rw [e1, hkF q (Nat.lt_of_lt_of_le h1 hS.1) (fun z => h2 (hA1 q z))]; exact hS.2.1 q h1 h2, fun q hq => by
      rcases List.mem_append.mp hq with h | h
      · exact hS.2.2 q h
      · exact hA1 _ (hL q h)⟩ q5 T' rfl X'
  exact ⟨t2, st t2 a1, b1⟩
theorem mk_cs_S {y : MethodName} {cc' : ByteArray} {nL' idx : Nat} {ret : Option FieldType} {rm : Room} {f : mk_F} {na : Nat} (hmet : mk_met V l y cc' nL' ret rm f) (X : mk_cx p e R s m args meth c cc own D V tys T A) (hg : ck_gd V.2.2.2.2.1) (hw : ∀ w ∈ ([.methodLink own idx y, .static y, .initialized y.cls, .code y cc' nL' ret] : List Cond), w ∈ V.2.2.2.2.1)
    (hd : y.cls ≠ "java/lang/invoke/MethodHandle" ∧ y.cls ≠ "java/lang/invoke/VarHandle" ∧ (parseMethodDescriptor y.desc).map (fun d => d.parameters.length) = some na) (hR : rm.frames + 1 ≤ R.frames ∧ 8 + (nL' + 11) + rm.locals ≤ R.locals) :
    mk_cs p l e R s m args below meth c Q cc D V.1 tys T A (3 * idx + 1, na, f, rm.cells, rm.slots) := by
  refine mk_cs_gen hmet X ?_
  intro pc ls H locs cells slots As rest Pc Qc free hdg hls hlen hrec hsum hc hs hMet hbl hpre
  rw [ck_ik1] at hdg
  have hts := X.2.2.2.2.2.2.2.2.1
  have hGi : GoodIn V.2.2.2.2.1 (va_wsS own idx y (.code y cc' nL' ret :: V.2.2.2.2.1)) := ck_good hg (fun w hww => by
    rcases List.mem_append.mp hww with q | q
    · simp only [List.mem_cons, List.not_mem_nil, or_false] at q
      rcases q with rfl | rfl | rfl <;> exact hw _ (by simp)
    · rcases List.mem_cons.mp q with rfl | q
      · exact hw _ (by simp)
      · exact q)
  exact va_runS (rest := rest) ⟨X.1, X.2.1, X.2.2.2.2.2.1, X.2.2.1, hts⟩ hMet (va_cwS na hts hGi rfl rfl rfl hd hR) ⟨hbl, hpre⟩ (g := F0 m pc ls (As.reverse ++ rest)) rfl hlen hls rfl (ck_lroom hsum) hdg ⟨hc, hs⟩
theorem mk_cs_SN {y : MethodName} {host : String} {cc' : ByteArray} {nL' idx : Nat} {ret : Option FieldType} {rm : Room} {f : mk_F} {na : Nat} (hmet : mk_met V l y cc' nL' ret rm f) (X : mk_cx p e R s m args meth c cc own D V tys T A) (hg : ck_gd V.2.2.2.2.1) (hl : Cond.methodLinkNest own idx y host ∈ V.2.2.2.2.2.2) (hw : ∀ w ∈ ([.static y, .initialized y.cls, .code y cc' nL' ret] : List Cond), w ∈ V.2.2.2.2.1)
    (hd : y.cls ≠ "java/lang/invoke/MethodHandle" ∧ y.cls ≠ "java/lang/invoke/VarHandle" ∧ (parseMethodDescriptor y.desc).map (fun d => d.parameters.length) = some na) (hR : rm.frames + 1 ≤ R.frames ∧ 8 + (nL' + 11) + rm.locals ≤ R.locals) :
    mk_cs p l e R s m args below meth c Q cc D V.1 tys T A (3 * idx + 1, na, f, rm.cells, rm.slots) := by
  refine mk_cs_gen hmet X ?_
  intro pc ls H locs cells slots As rest Pc Qc free hdg hls hlen hrec hsum hc hs hMet hbl hpre
  rw [ck_ik1] at hdg
  have hts := X.2.2.2.2.2.2.2.2.1
  have hnc := X.2.2.2.2.2.2.2.2.2.2.1
  have hGi : GoodIn V.2.2.2.2.1 (.code y cc' nL' ret :: V.2.2.2.2.1) := ck_good hg (fun w hww => by
    rcases List.mem_cons.mp hww with rfl | q
    · exact hw _ (by simp)
    · exact q)
  exact va_runSN (rest := rest) ⟨X.1, X.2.1, X.2.2.2.2.2.1, X.2.2.1, hts⟩ hMet ⟨va_cnB na hts hGi rfl rfl rfl (hnc.2 _ hl).2 (hts _ (hw _ (by simp))) hd hR, hts _ (hw _ (by simp)), trivial⟩ ⟨hbl, hpre⟩ (g := F0 m pc ls (As.reverse ++ rest)) rfl hlen hls rfl (ck_lroom hsum) hdg ⟨hc, hs⟩
theorem mk_cs_I {y : MethodName} {cc' : ByteArray} {nL' idx : Nat} {rm : Room} {f : mk_F} {n : Nat} (hmet : mk_met V l y cc' nL' none rm f) (X : mk_cx p e R s m args meth c cc own D V tys T A) (hg : ck_gd V.2.2.2.2.1) (hw : ∀ w ∈ ([.methodLink own idx y, .instanceMethod y, .initialized y.cls, .code y cc' nL' none] : List Cond), w ∈ V.2.2.2.2.1) (hy1 : y.name = "<init>")
    (hd : y.cls ≠ "java/lang/invoke/MethodHandle" ∧ y.cls ≠ "java/lang/invoke/VarHandle" ∧ (parseMethodDescriptor y.desc).map (fun d => d.parameters.length) = some n) (hR : rm.frames + 1 ≤ R.frames ∧ 8 + (nL' + 11) + rm.locals ≤ R.locals) :
    mk_cs p l e R s m args below meth c Q cc D V.1 tys T A (3 * idx + 2, n + 1, f, rm.cells, rm.slots) := by
  refine mk_cs_gen hmet X ?_
  intro pc ls H locs cells slots As rest Pc Qc free hdg hls hlen hrec hsum hc hs hMet hbl hpre
  rw [ck_ik2] at hdg
  have hts := X.2.2.2.2.2.2.2.2.1
  obtain ⟨b, As', rfl⟩ := hrec (by omega)
  have hGi : GoodIn V.2.2.2.2.1 (.code y cc' nL' none :: V.2.2.2.2.1) := ck_good hg (fun w hww => by
    rcases List.mem_cons.mp hww with rfl | q
    · exact hw _ (by simp)
    · exact q)
  exact va_runI (rest := rest) ⟨X.1, X.2.1, X.2.2.2.2.2.1, X.2.2.1, hts⟩ hMet (cwI n hts hGi rfl rfl rfl (hts _ (hw _ (by simp))) (hts _ (hw _ (by simp))) (hts _ (hw _ (by simp))) hy1 hd hR) ⟨hbl, hpre⟩ (g := F0 m pc ls ((Value.ref b :: As').reverse ++ rest)) rfl (by simp at hlen; omega) hls (by simp) (ck_lroom hsum) hdg ⟨hc, hs⟩
theorem mk_cs_IN {y : MethodName} {host : String} {cc' : ByteArray} {nL' idx : Nat} {rm : Room} {f : mk_F} {n : Nat} (hmet : mk_met V l y cc' nL' none rm f) (X : mk_cx p e R s m args meth c cc own D V tys T A) (hg : ck_gd V.2.2.2.2.1) (hl : Cond.methodLinkNest own idx y host ∈ V.2.2.2.2.2.2) (hw : ∀ w ∈ ([.instanceMethod y, .initialized y.cls, .code y cc' nL' none] : List Cond), w ∈ V.2.2.2.2.1) (hy1 : y.name = "<init>")
    (hd : y.cls ≠ "java/lang/invoke/MethodHandle" ∧ y.cls ≠ "java/lang/invoke/VarHandle" ∧ (parseMethodDescriptor y.desc).map (fun d => d.parameters.length) = some n) (hR : rm.frames + 1 ≤ R.frames ∧ 8 + (nL' + 11) + rm.locals ≤ R.locals) :
    mk_cs p l e R s m args below meth c Q cc D V.1 tys T A (3 * idx + 2, n + 1, f, rm.cells, rm.slots) := by
  refine mk_cs_gen hmet X ?_
  intro pc ls H locs cells slots As rest Pc Qc free hdg hls hlen hrec hsum hc hs hMet hbl hpre
  rw [ck_ik2] at hdg
  have hts := X.2.2.2.2.2.2.2.2.1
  have hnc := X.2.2.2.2.2.2.2.2.2.2.1
  obtain ⟨b, As', rfl⟩ := hrec (by omega)
  have hGi : GoodIn V.2.2.2.2.1 (.code y cc' nL' none :: V.2.2.2.2.1) := ck_good hg (fun w hww => by
    rcases List.mem_cons.mp hww with rfl | q
    · exact hw _ (by simp)
    · exact q)
  exact va_runIN (rest := rest) ⟨X.1, X.2.1, X.2.2.2.2.2.1, X.2.2.1, hts⟩ hMet ⟨va_cnB n hts hGi rfl rfl rfl (hnc.2 _ hl).2 (hts _ (hw _ (by simp))) hd hR, hy1, hts _ (hw _ (by simp))⟩ ⟨hbl, hpre⟩ (g := F0 m pc ls ((Value.ref b :: As').reverse ++ rest)) rfl (by simp at hlen; omega) hls (by simp) (ck_lroom hsum) hdg ⟨hc, hs⟩
def mk_oF : mk_F := fun W _ => some ([], W)
theorem mk_cs_O (X : mk_cx p e R s m args meth c cc own D V tys T A) {idx : Nat} (hw : ∀ w ∈ ([.methodLink own idx Lib.objectInit, .instanceMethod Lib.objectInit, .code Lib.objectInit ⟨#[0xb1]⟩ 1 none] : List Cond), w ∈ V.2.2.2.2.1) (hR : 1 ≤ R.frames ∧ 8 + 12 ≤ R.locals) :
    mk_cs p l e R s m args below meth c Q cc D V.1 tys T A (3 * idx + 2, 1, mk_oF, 0, 0) := by
  intro pc ls ws W0 H locs cells slots As rest xs r hdg hls hlen hxs hwo hP hD hS hc hs hsum hhd hf hk
  rw [ck_ik2] at hdg
  have hts := X.2.2.2.2.2.2.2.2.1
  cases hf
  cases As with
  | nil => cases hlen
  | cons a As =>
    cases As with
    | cons _ _ => simp at hlen
    | nil =>
      cases xs with
      | nil => exact hxs.elim
      | cons v xs =>
        unfold mk_hd at hhd
        have hi' : ((3 * idx + 2) % 3 == 2) = true := by
          have : (3 * idx + 2) % 3 = 2 := by omega
          rw [this]; rfl
        dsimp only at hhd
        rw [hi', Bool.not_true, Bool.false_or] at hhd
        obtain ⟨b, e0, -, rfl⟩ := hxs.1.r (eq_of_beq hhd)
        refine W.objInit X.1 X.2.1 X.2.2.1 (hts _ (hw _ (by simp))) (hts _ (hw _ (by simp))) (hts _ (hw _ (by simp))) (g := F0 m pc ls ([Value.ref b].reverse ++ rest)) rfl (hls.trans X.2.2.2.2.2.1.symm) (a := b) (rest := rest) rfl hdg hR.1 (by show 2 * 0 + _ + 12 ≤ _; omega) ?_
        exact hk [] ws H locs hwo mk_le.rf hP hD hS trivial
end
end
