noncomputable section
/-! contracts: a method by its check -/
/-- what all methods share: classes, types, single types, the array classes' kinds, the tables' words, pairs that aren't castable -/
abbrev ck_Wd : Type := List vw_C × List ck_D × List Nat × List FieldType × List Cond × List (String × String) × List Cond
def ck_nk : Cond → Bool
  | .castable _ _ => true
  | .declares _ => true
  | .methodLinkNest _ _ _ _ => true
  | _ => false
/-- the words that the kit carries one by one -/
def ck_nq (V : ck_Wd) (U : State) : Prop := (∀ q ∈ V.2.2.2.2.2.1, va_Nc q.1 q.2 U) ∧ ∀ w ∈ V.2.2.2.2.2.2, ck_nk w = true ∧ va_Nw w U
theorem ck_nq.same {V : ck_Wd} {u U : State} (e : u.vm = U.vm) (h : ck_nq V u) : ck_nq V U :=
  ⟨fun q hq => (h.1 q hq).moved (by rw [e]; exact Vm.Alike.refl _), fun w hw => ⟨(h.2 w hw).1, by
    obtain ⟨h1, h2⟩ := h.2 w hw
    cases w <;> first | exact h2.same rfl e | (cases h1)⟩⟩
theorem ck_nq.warm {V : ck_Wd} {s U : State} (hW : s.WarmedH U.vm) (h : ck_nq V s) : ck_nq V U :=
  ⟨fun q hq => (h.1 q hq).moved hW.alike, fun w hw => ⟨(h.2 w hw).1, by
    obtain ⟨h1, h2⟩ := h.2 w hw
    cases w <;> first | exact h2.warmC hW | exact h2.warmM hW | exact h2.warmD hW | exact va_Nw.warmC hW h2 | exact va_Nw.warmM hW h2 | exact va_Nw.warmD hW h2 | (cases h1)⟩⟩
def ck_st (V : ck_Wd) (D : va_G) (tys : List (ClassId × FieldType)) (ws : va_W) (sz : Nat) (sw : Option Nat) (U : State) : Prop :=
  U.heap.size = sz ∧ va_P D V.1 ws U.heap ∧ va_K D V.1 tys U ∧ va_D (fun _ => True) ws ∧ ck_nq V U ∧
  ∀ w : Nat, sw = some w → va_Z "ReasonDesk$Bits" "WITH" "[J" (.ref w) (va_A ws sz) U U.heap ∧ va_T .long w 6 (fun j => .long (fw_v j)) (va_A ws sz) U U.heap
abbrev ck_Ph : Type := va_W → List Nat → ck_N → Prop
def ck_qp (V : ck_Wd) (D : va_G) (tys : List (ClassId × FieldType)) (ws : va_W) (sh : List Nat) (sz : Nat) (sw : Option Nat) (n1 : ck_N) (C : ck_C) (Ps : fR) (As : List Value) : Array Value → State → Outcome → State → Prop := fun _ st oc t =>
  (∃ P ∈ C.2.1, ∃ (rv : Option Value) (n2 : ck_N) (ws' : va_W) (sh' : List Nat), oc = .returned rv ∧ (∀ k, k < C.1.2.2.1.length → n2 k = n1 k) ∧ ck_wo tys V.2.1 V.2.2.1 ws' sh' ∧ ck_ex C.2.2.1 ws sh ws' sh' ∧ va_P D V.1 ws' t.heap ∧ va_D (va_A ws sz) ws' ∧
    ck_po V.2.2.1 ws' sh' (none, sw, fun _ => 0) n2 P.2.2.1.length P rv.toList ∧ Ps As ws sh rv ws' sh') ∧ va_F (va_A ws sz) st t
/-- a contract; Ph: what is asked besides, Ps: what is said besides -/
def ck_mtx (V : ck_Wd) (l : Launch) (y : MethodName) (cc : ByteArray) (nL : Nat) (ret : Option FieldType) (rm : Room) (C : ck_C) (Ph : ck_Ph) (Ps : fR) : Prop :=
  ∀ (D : va_G) (tys : List (ClassId × FieldType)) (ws : va_W) (sh : List Nat) (sz : Nat) (n1 : ck_N) (As : List Value) (sw : Option Nat), tys.map Prod.snd = V.2.2.2.1 → sw.isSome = true → (n1 0).1 = 0 → ck_po V.2.2.1 ws sh (none, sw, fun _ => 0) n1 C.1.2.2.1.length C.1 As → ck_wo tys V.2.1 V.2.2.1 ws sh → Ph ws sh n1 →
    Met l y (.code y cc nL ret :: V.2.2.2.2.1) rm (va_Pc As (ck_st V D tys ws sz sw)) (ck_qp V D tys ws sh sz sw n1 C Ps As) C.2.2.2.1 C.2.2.2.2 (va_A ws sz)
def ck_met (V : ck_Wd) (l : Launch) (y : MethodName) (cc : ByteArray) (nL : Nat) (ret : Option FieldType) (rm : Room) (C : ck_C) (r : fR) : Prop := ck_mtx V l y cc nL ret rm C (fun _ _ _ => True) r
def ck_args : Nat → List ck_V → List (Nat × ck_V)
  | _, [] => []
  | i, v :: vs => (i, v) :: ck_args (if v.1 = 1 then i + 2 else i + 1) vs
def ck_wid : List ck_V → Nat
  | [] => 0
  | v :: vs => ck_cat v + ck_wid vs
/-- the state at the entry -/
def ck_en (C : ck_C) : ck_S := (ck_args 0 C.1.1, [], C.1.2.1 ++ ck_ab C.1.2.2.1.length, C.1.2.2.1, C.1.2.2.2, 0, 0)
/-- a single object's own number is noted at the entry -/
def ck_p1 (M : ck_Me) (S : ck_S) (x : Nat × Nat) : Option ck_S := match S.1 with
  | q :: _ => if q.2.1 = 2 ∧ q.2.2.2 = [x.1] ∧ (mSG M).contains x.1 = true ∧ x.1 ≠ 0 then (match (mTT M)[x.1]? with
    | some td => if td.1 = 0 then (match td.2.2.2[x.2]? with
      | some y => if y.1 = 0 then some (S.1, S.2.1, (x.1, x.2, (0, S.2.2.2.1.length, [])) :: S.2.2.1, S.2.2.2.1 ++ [(y.2.1, y.2.2.1)], S.2.2.2.2) else none
      | none => none) else none
    | none => none) else none
  | [] => none
def ck_pn (M : ck_Me) : List (Nat × Nat) → ck_S → Option ck_S
  | [], S => some S
  | x :: l, S => match ck_p1 M S x with
    | some S' => ck_pn M l S'
    | none => none
theorem ck_p1_ok {M : ck_Me} {S S' : ck_S} {x : Nat × Nat} (h : ck_p1 M S x = some S') {nL : Nat} {n : ck_N} {ws : va_W} {sh : List Nat} {sc : ck_sc} {ls : Array Slot} {vs : List Value} {tys : List (ClassId × FieldType)} (o : ck_so nL (mSG M) S n ws sh sc ls vs) (hw : ck_wo tys (mTT M) (mSG M) ws sh) :
    ∃ n', ck_so nL (mSG M) S' n' ws sh sc ls vs ∧ S'.2.2.2.2.2 = S.2.2.2.2.2 := by
  unfold ck_p1 at h
  split at h
  · rename_i q rest hq
    split at h
    · rename_i hc
      split at h
      · rename_i td htd
        split at h
        · rename_i h0
          split at h
          · rename_i y hy
            split at h
            · rename_i hy0
              have e := Option.some.inj h
              subst e
              obtain ⟨lv, l1, l2⟩ := id o.2.1
              rw [hq] at l2
              cases lv with
              | nil => exact l2.elim
              | cons z lv =>
                obtain ⟨-, -, q0, a, e', t, -, hq0, ht, htm⟩ := l2.1.2.r hc.1
                rw [hc.2.1] at htm
                have et := List.mem_singleton.mp htm
                subst et
                obtain ⟨td', g1, g2⟩ := hw.2.1 q0 a e' x.1 hq0 ht
                have e1 : td' = td := Option.some.inj (g1.symm.trans htd)
                subst e1
                unfold ck_co at g2
                rw [h0] at g2
                obtain ⟨fs, rfl, g3, g4⟩ := g2
                obtain ⟨v, g5, g6⟩ := g4 x.2 y hy
                unfold ck_fo at g6
                rw [hy0] at g6
                obtain ⟨w, rfl, w1, w2⟩ := g6
                have o' := o.new o.2.2.1 (tag := 0) (ts := []) (iv := (y.2.1, y.2.2.1)) (rs := []) (x := (w.toInt, .null)) (v := .int w) (.mi (Nat.lt_succ_self _) (by rw [ck_nx_eq])) (fun _ => ⟨w1, w2⟩) (fun r hr => by cases hr)
                refine ⟨_, ⟨o'.1, o'.2.1, o'.2.2.1.2, fun u hu => ?_, o'.2.2.2.2⟩, rfl⟩
                rcases List.mem_cons.mp hu with rfl | hu
                · exact Or.inr (Or.inl ⟨hc.2.2.2, List.contains_iff_mem.mp hc.2.2.1, q0, a, _, .int w, ht, hq0, g5, o'.2.2.1.1⟩)
                · exact o'.2.2.2.1 u hu
            · cases h
          · cases h
        · cases h
      · cases h
    · cases h
  · cases h
theorem ck_pn_ok {M : ck_Me} {nL : Nat} {ws : va_W} {sh : List Nat} {sc : ck_sc} {ls : Array Slot} {vs : List Value} {tys : List (ClassId × FieldType)} (hw : ck_wo tys (mTT M) (mSG M) ws sh) : ∀ {l : List (Nat × Nat)} {S S' : ck_S} {n : ck_N}, ck_pn M l S = some S' → ck_so nL (mSG M) S n ws sh sc ls vs →
    ∃ n', ck_so nL (mSG M) S' n' ws sh sc ls vs ∧ S'.2.2.2.2.2 = S.2.2.2.2.2
  | [], S, S', n, h, o => by
    have e := Option.some.inj h
    subst e
    exact ⟨n, o, rfl⟩
  | x :: l, S, S', n, h, o => by
    rw [ck_pn] at h
    split at h
    · rename_i S1 h1
      obtain ⟨n1, o1, e1⟩ := ck_p1_ok h1 o hw
      obtain ⟨n2, o2, e2⟩ := ck_pn_ok hw h o1
      exact ⟨n2, o2, e2.trans e1⟩
    · cases h
def ck_fresh (nE : Nat) (v : ck_V) : Bool := v.1 == 0 || (v.1 == 1 || ((v.1 == 2 || (v.1 == 3 || v.1 == 4)) && decide (nE ≤ v.2.1)))
/-- the end: one of the cases is met; rt: 0 void, 1 int, 2 truth, 3 long, 4 reference -/
def ck_kr (F nE rt : Nat) (C : ck_C) (kd : Nat) (S : ck_S) : Bool :=
  (decide (S.2.2.2.2.2.1 ≤ C.2.2.2.1) && (decide (S.2.2.2.2.2.2 ≤ C.2.2.2.2) && (ck_hb S nE && (match rt with
    | 0 => kd == 0
    | 1 => kd == 1
    | 2 => kd == 1 && (match S.2.1 with
      | v :: _ => ck_ent S.2.2.2.1 S.2.2.2.2.1 F v.2.1 0 1 && ck_ent S.2.2.2.1 S.2.2.2.2.1 F 0 v.2.1 0
      | [] => false)
    | 3 => kd == 2
    | _ => kd == 3)))) &&
  C.2.1.any (fun P => P.1.all (ck_fresh nE) && (P.2.1.all (fun m => !(m.1 == 0) && (decide (20 ≤ m.2.2.1) || ck_fresh nE m.2.2)) && match ck_mt F S (List.range nE) S.2.1 P with
    | some g => g.length == P.2.2.1.length
    | none => false))
theorem ck_two_args {ws : va_W} {sh : List Nat} {sc : ck_sc} {n : ck_N} {N : Nat} : ∀ {vs : List ck_V} {xs : List Value} (i : Nat), ck_two (ck_vo ws sh sc n N) vs xs → ck_two (fun (x : Nat × ck_V) (y : Nat × Value) => x.1 = y.1 ∧ ck_vo ws sh sc n N x.2 y.2) (ck_args i vs) (lv_args i xs)
  | [], [], _, _ => trivial
  | v :: vs, x :: xs, i, h => by
    have e : (if x.category = 2 then i + 2 else i + 1) = (if v.1 = 1 then i + 2 else i + 1) := by
      rw [ck_cat_ok h.1]
      unfold ck_cat
      by_cases q : v.1 = 1
      · rw [if_pos q, if_pos q, if_pos rfl]
      · rw [if_neg q, if_neg q, if_neg (by decide)]
    refine ⟨⟨rfl, h.1⟩, ?_⟩
    show ck_two _ (ck_args (if v.1 = 1 then i + 2 else i + 1) vs) (lv_args (if x.category = 2 then i + 2 else i + 1) xs)
    rw [e]
    exact ck_two_args _ h.2
  | [], _ :: _, _, h => h.elim
  | _ :: _, [], _, h => h.elim
theorem ck_vo.ag {ws : va_W} {sh : List Nat} {sc : ck_sc} {n n2 : ck_N} {N nE : Nat} (h1 : ∀ k, k < N → (n2 k).1 = (n k).1) (h2 : ∀ k, nE ≤ k → k < N → n2 k = n k) {v : ck_V} (hf : ck_fresh nE v = true) {x : Value} (h : ck_vo ws sh sc n N v x) : ck_vo ws sh sc n2 N v x := by
  unfold ck_fresh at hf
  simp only [Bool.or_eq_true, Bool.and_eq_true, beq_iff_eq, decide_eq_true_eq] at hf
  unfold ck_vo at h ⊢
  refine ⟨h.1, ?_⟩
  have hx := h.2
  rcases hf with e | e | ⟨e | e | e, hle⟩
  · rw [e] at hx ⊢
    rw [h1 _ h.1]
    exact hx
  · rw [e] at hx ⊢
    rw [h1 _ h.1]
    exact hx
  · rw [e] at hx ⊢
    rw [h2 _ hle h.1]
    exact hx
  · rw [e] at hx ⊢
    rw [h2 _ hle h.1]
    exact hx
  · rw [e] at hx ⊢
    rw [h2 _ hle h.1]
    exact hx
section
variable {p : Program} {l : Launch} {e : Env} {R : Room} {s : State} {m : MethodId} {args : Array Value} {below : List Frame} {meth : Method} {c : Code} {Q : State → Prop} {cc : ByteArray} {own : String} {D : va_G} {cl : List vw_C} {tys : List (ClassId × FieldType)} {M : ck_Me} {sc : ck_sc} {A : Nat → Prop} {ws0 : va_W} {sh0 : List Nat} {Fc : Nat → Nat × fR} {s0 : fS}
theorem ck_kr_ok {F nE rt kd : Nat} {C : ck_C} {S : ck_S} {nL : Nat} {SG : List Nat} {n n1 : ck_N} {ws : va_W} {sh : List Nat} {b : Nat → Int} {ls : Array Slot} {vs : List Value} (h : ck_kr F nE rt C kd S = true) (o : ck_so nL SG S n ws sh (sc.1, sc.2.1, b) ls vs) (hb : ∀ k, k < nE → b (1000 + k) = (n1 k).1) :
    ∃ P ∈ C.2.1, ∃ n2 : ck_N, (∀ k, k < nE → n2 k = n1 k) ∧ ck_po SG ws sh sc n2 P.2.2.1.length P vs := by
  unfold ck_kr at h
  rw [Bool.and_eq_true, List.any_eq_true] at h
  obtain ⟨h1, P, hP, h2⟩ := h
  simp only [Bool.and_eq_true] at h1 h2
  obtain ⟨-, -, hhb, -⟩ := h1
  obtain ⟨hf1, hf2, h3⟩ := h2
  refine ⟨P, hP, ?_⟩
  split at h3
  · rename_i g hg
    obtain ⟨⟨t, rfl⟩, g2, g3, g4, g5, g6⟩ := ck_mt_ok o hg o.2.2.1 (fun s hs => by
      have h1 := List.contains_iff_mem.mp (List.all_eq_true.mp hhb (0, 1000 + s, (8, s, [])) (List.mem_map.mpr ⟨s, hs, rfl⟩))
      rcases o.2.2.2.1 _ h1 with ⟨-, z, -⟩ | ⟨z, -⟩ | ⟨-, z, -⟩
      · exact z
      · exact absurd rfl z
      · exact absurd rfl z)
    have hlen := eq_of_beq h3
    rw [hlen] at g3 g4 g6
    obtain ⟨n2, hn2⟩ : ∃ n2 : ck_N, n2 = fun k => if k < nE then n1 k else ck_pl (List.range nE ++ t) n k := ⟨_, rfl⟩
    have a1 : ∀ k, k < nE → n2 k = n1 k := fun k hk => by rw [hn2]; exact if_pos hk
    have a2 : ∀ k, nE ≤ k → n2 k = ck_pl (List.range nE ++ t) n k := fun k hk => by rw [hn2]; exact if_neg (by omega)
    have a3 : ∀ k, (n2 k).1 = (ck_pl (List.range nE ++ t) n k).1 := fun k => by
      rcases Nat.lt_or_ge k nE with hk | hk
      · rw [a1 k hk]
        unfold ck_pl
        rw [ck_rng_get hk, ck_hb_ok o.2.2.2.1 hhb hk, hb k hk]
      · rw [a2 k hk]
    have hall : ∀ v ∈ P.1, ck_fresh nE v = true := fun v hv => List.all_eq_true.mp hf1 v hv
    refine ⟨n2, a1, ?_, ?_, fun k x hx hle => by rw [a3 k]; exact g5 k x hx hle, fun r hr => ⟨(g6 r hr).1, (g6 r hr).2.1, by rw [a3, a3]; exact (g6 r hr).2.2⟩⟩
    · revert hall g3
      generalize P.1 = ps
      generalize vs = xs
      clear o hg h3
      intro g3 hall
      induction ps generalizing xs with
      | nil => cases xs with
        | nil => trivial
        | cons _ _ => exact g3.elim
      | cons v ps ih => cases xs with
        | nil => exact g3.elim
        | cons x xs => exact ⟨(g3.1.sc (sc' := sc) rfl rfl).ag (nE := nE) (fun k _ => a3 k) (fun k hk _ => a2 k hk) (hall v List.mem_cons_self), ih xs g3.2 (fun w hw => hall w (List.mem_cons_of_mem _ hw))⟩
    · intro x hx
      have hx2 := List.all_eq_true.mp hf2 x hx
      rw [Bool.and_eq_true, Bool.not_eq_true', beq_eq_false_iff_ne] at hx2
      rcases g4 x hx with ⟨z, -⟩ | ⟨z0, z1, q, a, oo, v, z2, z3, z4, z5⟩ | ⟨y0, y1, y2, y3, y4, y5, q, a, cA, len, f, y6, y7, y8⟩
      · exact absurd z hx2.1
      · rw [Bool.or_eq_true, decide_eq_true_eq] at hx2
        rcases hx2.2 with w | w
        · exfalso
          have z5 := z5.2
          split at z5 <;> omega
        · exact Or.inr (Or.inl ⟨z0, z1, q, a, oo, v, z2, z3, z4, (z5.sc (sc' := sc) rfl rfl).ag (nE := nE) (fun k _ => a3 k) (fun k hk _ => a2 k hk) w⟩)
      · refine Or.inr (Or.inr ⟨y0, y1, y2, y3, y4, y5, q, a, cA, len, f, y6, y7, ?_⟩)
        rw [a3, List.map_congr_left (fun j _ => a3 j)]
        exact y8
  · cases h3
end
end
noncomputable section
theorem ck_ofW {l : Launch} {y : MethodName} {ws ws' : List Cond} {rm : Room} {Pc : Array Value → State → Prop} {Qc : Array Value → State → Outcome → State → Prop} {mc ms : Nat} {free : Addr → Prop} {cc : ByteArray} {maxL : Nat} {ret : Option FieldType}
    (hy : plainFor y = true) (hw : ws = Cond.code y cc maxL ret :: ws')
    (body : ∀ p e s m args below meth c s₁, BodyLoose p l y (headSpec ws rm) cc maxL ret e s m args below meth c s₁ → c.maxLocals = maxL → Pc args s →
      W p l e (headSpec ws rm).room s m args below meth c s.heap [] 0 0 (MQ below Qc args s mc ms free) (entryFrame m args maxL)) : Met l y ws rm Pc Qc mc ms free := by
  refine MetFree.of_bodySF (code := cc) (maxLocals := maxL) (ret := ret) hy (fun args s m h hn => ?_) (fun p e s m args below meth c s₁ B hml hP _ => ?_)
  · obtain ⟨meth, c, h1, h2, h3, h4, h5, h6, -, -⟩ := Cond.code_spec hn (atoms_spec (ws := ws) h _ (by rw [hw]; exact List.mem_cons_self))
    exact ⟨meth, c, h1, h2, h3, h4, h5, h6⟩
  · have hh0 : s₁.heap = s.heap := by rw [B.state]; rfl
    obtain ⟨t, a1, o, b1, b2, b3⟩ := body p e s m args below meth c s₁ B hml hP s₁ hh0 (Stand.of_body B)
    exact ⟨t, o, a1, b1, b2, ⟨b3.1, b3.2⟩⟩
/-- the tables' facts of a method, where the tables' words hold -/
def ck_tb (V : ck_Wd) (own : String) (init : Bool) (M : ck_Me) : Prop := ∀ (s : State) (args : Array Value) (tys : List (ClassId × FieldType)) (meth : Method) (sw : Option Nat), (∀ w ∈ V.2.2.2.2.1, w.before args s = true) → tys.map Prod.snd = V.2.2.2.1 → ck_nq V s → (init = true → meth.name = "<init>") → sw.isSome = true →
  (∀ x ∈ mfl M, ck_hg s args own V.1 x) ∧ (∀ x ∈ mpl M, ck_hp s args own V.1 (meth.name = "<init>") x) ∧ (∀ x ∈ mnw M, ck_hn s args own V.1 (mTT M) x) ∧ (∀ x ∈ mkl M, ck_hk s args own x) ∧ (∀ x ∈ mil M, ck_hi s args own V.1 x) ∧ (∀ x ∈ mxl M, ck_hx s args own V.1 x) ∧ (∀ x ∈ mal M, ck_ha s tys V.1 x) ∧
  ∀ i ∈ mgl M, ∀ b, ck_hs s args own (none, sw, b) i
def ck_rt (rt : Nat) (ret : Option FieldType) : Prop := match rt with
  | 0 => ret = none
  | 1 => ret = some .int
  | 2 => ret = some .boolean
  | 3 => ret = some .long
  | _ => ∃ t, ret = some t ∧ ((∃ n, t = .object n) ∨ ∃ u, t = .array u)
/-- the calls' meaning, wherever the method runs -/
def ck_ca (Fc : Nat → Nat × fR) (V : ck_Wd) (own : String) (cc : ByteArray) (rm : Room) (M : ck_Me) : Prop := ∀ (s0 : fS) (p : Program) (l : Launch) (e : Env) (s : State) (m : MethodId) (args : Array Value) (below : List Frame) (meth : Method) (c : Code) (Q : State → Prop) (D : va_G) (tys : List (ClassId × FieldType)) (sc : ck_sc) (A : Nat → Prop),
  ck_cx p l e rm s m args below meth c cc own D V.1 tys M sc A → (∀ w ∈ V.2.2.2.2.1, w.before args s = true) → tys.map Prod.snd = V.2.2.2.1 → sc.2.1.isSome = true → ck_nq V s → ∀ x ∈ mvl M, ck_cs Fc s0 p l e rm s m args below meth c Q cc D V.1 tys M sc A x
theorem ck_rt_end {p : Program} {l : Launch} {e : Env} {R : Room} {s : State} {m : MethodId} {args : Array Value} {below : List Frame} {meth : Method} {c : Code} {cc : ByteArray} {ret : Option FieldType} {rt kd : Nat} {H : Heap} {locs : List Loc} {cells slots : Nat} {pc : Nat} {ls : Array Slot} {vs : List Value} {Qc : Array Value → State → Outcome → State → Prop} {free : Addr → Prop} {S : ck_S} {n : ck_N} {nL : Nat} {SG : List Nat} {ws : va_W} {sh : List Nat} {sc : ck_sc} {F nE : Nat} {C : ck_C}
    (hx : p.tables.exec = Jvm.exec) (hb : c.code = cc) (hr : meth.sig.returnType = ret) (hlocks : meth.locks = false) (hrt : ck_rt rt ret) (hkr : ck_kr F nE rt C kd S = true) (hst : ck_rst kd S) (o : ck_so nL SG S n ws sh sc ls vs) (hdg : decode cc pc = .ok (ck_ri kd, 1))
    (hq : ∀ (t : State) (rv : Option Value), rv.toList = vs → t.heap = H → s.WarmedH t.vm → Qc args s (.returned rv) t) (hf : ∀ q ∈ locs, free q.base) : W p l e R s m args below meth c H locs cells slots (MQ below Qc args s cells slots free) (F0 m pc ls vs) := by
  have hk := hkr
  unfold ck_kr at hkr
  simp only [Bool.and_eq_true] at hkr
  obtain ⟨⟨-, -, -, h4⟩, -⟩ := hkr
  have o3 := o.2.2.1
  unfold ck_rt at hrt
  split at hrt
  · subst hrt
    have ek := eq_of_beq h4
    subst ek
    rw [show S.2.1 = [] from hst] at o3
    cases vs with
    | nil => exact W.vret hx hb hr (fun t ht hW => hq t none rfl ht hW) hf hdg hlocks
    | cons _ _ => exact o3.elim
  · subst hrt
    have ek := eq_of_beq h4
    subst ek
    obtain ⟨v, hv, e0⟩ := (show ∃ v, S.2.1 = [v] ∧ v.1 = 0 from hst)
    rw [hv] at o3
    obtain ⟨u, vs', rfl, h2, h3⟩ := ck_hd o3
    obtain ⟨-, x, rfl, -⟩ := h2.i e0
    cases vs' with
    | nil => exact W.iret hx hb hr (fun t ht hW => hq t (some (.int x)) rfl ht hW) hf hdg hlocks
    | cons _ _ => exact h3.elim
  · subst hrt
    have h4 : (kd == 1 && (match S.2.1 with
      | v :: _ => ck_ent S.2.2.2.1 S.2.2.2.2.1 F v.2.1 0 1 && ck_ent S.2.2.2.1 S.2.2.2.2.1 F 0 v.2.1 0
      | [] => false)) = true := h4
    rw [Bool.and_eq_true] at h4
    have ek := eq_of_beq h4.1
    subst ek
    obtain ⟨v, hv, e0⟩ := (show ∃ v, S.2.1 = [v] ∧ v.1 = 0 from hst)
    have h5 := h4.2
    rw [hv] at o3 h5
    dsimp only at h5
    rw [Bool.and_eq_true] at h5
    obtain ⟨u, vs', rfl, h2, h3⟩ := ck_hd o3
    obtain ⟨-, x, rfl, ex⟩ := h2.i e0
    have p1 := ck_ent_ok o.2.2.2.2.1 o.2.2.2.2.2 F _ _ _ h5.1
    have p2 := ck_ent_ok o.2.2.2.2.1 o.2.2.2.2.2 F _ _ _ h5.2
    rw [o.1.2] at p1 p2
    cases vs' with
    | nil => exact W.zret hx hb hr (ck_nar_b (by rw [ex]; omega) (by rw [ex]; omega)).1 (fun t ht hW => hq t (some (.int x)) rfl ht hW) hf hdg hlocks
    | cons _ _ => exact h3.elim
  · subst hrt
    have ek := eq_of_beq h4
    subst ek
    obtain ⟨v, hv, e0⟩ := (show ∃ v, S.2.1 = [v] ∧ v.1 = 1 from hst)
    rw [hv] at o3
    obtain ⟨u, vs', rfl, h2, h3⟩ := ck_hd o3
    obtain ⟨-, x, rfl, -⟩ := h2.j e0
    cases vs' with
    | nil => exact W.lret hx hb hr (fun t ht hW => hq t (some (.long x)) rfl ht hW) hf hdg hlocks
    | cons _ _ => exact h3.elim
  · obtain ⟨t, rfl, ht⟩ := hrt
    have ek : kd = 3 := by
      revert h4
      split
      · rename_i z1 z2 z3 z4; exact absurd rfl z1
      · rename_i z1 z2 z3 z4; exact absurd rfl z2
      · rename_i z1 z2 z3 z4; exact absurd rfl z3
      · rename_i z1 z2 z3 z4; exact absurd rfl z4
      · exact eq_of_beq
    subst ek
    obtain ⟨v, hv, e0⟩ := (show ∃ v, S.2.1 = [v] ∧ (v.1 = 2 ∨ (v.1 = 3 ∨ v.1 = 4)) from hst)
    rw [hv] at o3
    obtain ⟨u, vs', rfl, h2, h3⟩ := ck_hd o3
    have hu : u = .null ∨ ∃ a : Nat, u = .ref a := by
      unfold ck_vo at h2
      rcases e0 with e | e | e <;> rw [e] at h2
      · obtain ⟨-, -, q, a, e', t', rfl, -⟩ := h2
        exact Or.inr ⟨a, rfl⟩
      · rcases h2.2.2 with w | ⟨q, a, e', t', rfl, -⟩
        · exact Or.inl w
        · exact Or.inr ⟨a, rfl⟩
      · exact Or.inl h2.2.2
    cases vs' with
    | nil => exact W.aret hx hb hr ht hu (fun t ht hW => hq t (some u) rfl ht hW) hf hdg hlocks
    | cons _ _ => exact h3.elim
theorem ck_wid_ok {ws : va_W} {sh : List Nat} {sc : ck_sc} {n : ck_N} {N : Nat} : ∀ {vs : List ck_V} {xs : List Value}, ck_two (ck_vo ws sh sc n N) vs xs → (lg_sl xs).length = ck_wid vs
  | [], [], _ => rfl
  | v :: vs, x :: xs, h => by
    have ih := ck_wid_ok h.2
    have hc := ck_cat_ok h.1
    have hcat : x.category = 1 ∨ x.category = 2 := lv_cat x
    have key : (lg_sl (x :: xs)).length = x.category + (lg_sl xs).length := by
      rcases hcat with q | q <;> simp [lg_sl, q] <;> omega
    rw [key, ih, hc]
    rfl
  | [], _ :: _, h => h.elim
  | _ :: _, [], h => h.elim
set_option maxHeartbeats 4000000 in
/-- the steps proved by hand, wherever the method runs -/
def ck_sph (Fc : Nat → Nat × fR) (V : ck_Wd) (own : String) (cc : ByteArray) (ret : Option FieldType) (rm : Room) (M : ck_Me) (C : ck_C) (Ph : ck_Ph) (Ps : fR) (sp : ck_spc) : Prop := ∀ (p : Program) (l : Launch) (e : Env) (s : State) (m : MethodId) (As : List Value) (below : List Frame) (meth : Method) (c : Code) (D : va_G) (tys : List (ClassId × FieldType)) (ws : va_W) (sh : List Nat) (n1 : ck_N) (sw : Option Nat),
  (∀ b : Nat → Int, ck_cx p l e rm s m As.toArray below meth c cc own D V.1 tys M (none, sw, b) (va_A ws s.heap.size)) → (∀ w ∈ V.2.2.2.2.1, w.before As.toArray s = true) → tys.map Prod.snd = V.2.2.2.1 → sw.isSome = true → ck_nq V s → meth.sig.returnType = ret → Ph ws sh n1 → ck_po V.2.2.1 ws sh (none, sw, fun _ => 0) n1 C.1.2.2.1.length C.1 As → ck_wo tys V.2.1 V.2.2.1 ws sh →
  ∀ x ∈ sp, ∀ (S : ck_S) (L : List ck_S), x.2.2 S = some L → ∀ b : Nat → Int, (∀ k, k < C.1.2.2.1.length → b (1000 + k) = (n1 k).1) →
    (∀ S' ∈ L, ck_g Fc (0, lv_args 0 As, [], ws, sh) p l e rm s m As.toArray below meth c (MQ below (ck_qp V D tys ws sh s.heap.size sw n1 C Ps As) As.toArray s C.2.2.2.1 C.2.2.2.2 (va_A ws s.heap.size)) D V.1 tys M (none, sw, b) (va_A ws s.heap.size) ws sh S' x.2.1) →
    ck_g Fc (0, lv_args 0 As, [], ws, sh) p l e rm s m As.toArray below meth c (MQ below (ck_qp V D tys ws sh s.heap.size sw n1 C Ps As) As.toArray s C.2.2.2.1 C.2.2.2.2 (va_A ws s.heap.size)) D V.1 tys M (none, sw, b) (va_A ws s.heap.size) ws sh S x.1
theorem ck_ex.wk {W1 W2 : List (Nat × Nat)} {ws ws' : va_W} {sh sh' : List Nat} (hw : ∀ x ∈ W2, x ∈ W1) (h : ck_ex W2 ws sh ws' sh') : ck_ex W1 ws sh ws' sh' := ck_ex.tr hw ck_ex.rf h
/-- a method as a relation: the traces of its instructions, from its entry to its end -/
def fr (T : fT) (cc : ByteArray) : fR := fun As ws sh rv ws' sh' => ∃ (pc : Nat) (lg : List (Nat × Value)) (kd : Nat), gr T cc (0, lv_args 0 As, [], ws, sh) (pc, lg, rv.toList, ws', sh') ∧ decode cc pc = .ok (ck_ri kd, 1)
/-- what kind of answer: 0 none, 1 int, 2 truth, 3 long, 4 reference -/
def f_rk (rt : Nat) (rv : Option Value) : Prop := match rt with
  | 0 => rv = none
  | 1 => ∃ x : Int32, rv = some (.int x)
  | 2 => ∃ x : Int32, rv = some (.int x) ∧ 0 ≤ x.toInt ∧ x.toInt ≤ 1
  | 3 => ∃ x : Int64, rv = some (.long x)
  | _ => ∃ v : Value, rv = some v ∧ (v = .null ∨ ∃ a : Nat, v = .ref a)
theorem ck_rk_ok {rt kd : Nat} {S : ck_S} {n : ck_N} {nL : Nat} {SG : List Nat} {ws : va_W} {sh : List Nat} {sc : ck_sc} {ls : Array Slot} {F nE : Nat} {C : ck_C} {rv : Option Value} (hkr : ck_kr F nE rt C kd S = true) (hst : ck_rst kd S) (o : ck_so nL SG S n ws sh sc ls rv.toList) : f_rk rt rv := by
  unfold ck_kr at hkr
  simp only [Bool.and_eq_true] at hkr
  obtain ⟨⟨-, -, -, h4⟩, -⟩ := hkr
  have o3 := o.2.2.1
  have one : ∀ (v : ck_V), S.2.1 = [v] → ∃ u, rv = some u ∧ ck_vo ws sh sc n S.2.2.2.1.length v u := by
    intro v hv
    rw [hv] at o3
    cases rv with
    | none => exact o3.elim
    | some u => exact ⟨u, rfl, o3.1⟩
  unfold f_rk
  split at h4
  · have ek := eq_of_beq h4
    subst ek
    rw [show S.2.1 = [] from hst] at o3
    cases rv with
    | none => rfl
    | some u => exact o3.elim
  · have ek := eq_of_beq h4
    subst ek
    obtain ⟨v, hv, e0⟩ := (show ∃ v, S.2.1 = [v] ∧ v.1 = 0 from hst)
    obtain ⟨u, e1, h2⟩ := one v hv
    obtain ⟨-, x, rfl, -⟩ := h2.i e0
    exact ⟨x, e1⟩
  · rw [Bool.and_eq_true] at h4
    have ek := eq_of_beq h4.1
    subst ek
    obtain ⟨v, hv, e0⟩ := (show ∃ v, S.2.1 = [v] ∧ v.1 = 0 from hst)
    have h5 := h4.2
    rw [hv] at h5
    dsimp only at h5
    rw [Bool.and_eq_true] at h5
    obtain ⟨u, e1, h2⟩ := one v hv
    obtain ⟨-, x, rfl, ex⟩ := h2.i e0
    have p1 := ck_ent_ok o.2.2.2.2.1 o.2.2.2.2.2 F _ _ _ h5.1
    have p2 := ck_ent_ok o.2.2.2.2.1 o.2.2.2.2.2 F _ _ _ h5.2
    rw [o.1.2] at p1 p2
    exact ⟨x, e1, by omega, by omega⟩
  · have ek := eq_of_beq h4
    subst ek
    obtain ⟨v, hv, e0⟩ := (show ∃ v, S.2.1 = [v] ∧ v.1 = 1 from hst)
    obtain ⟨u, e1, h2⟩ := one v hv
    obtain ⟨-, x, rfl, -⟩ := h2.j e0
    exact ⟨x, e1⟩
  · rename_i z0 z1 z2 z3
    have ek := eq_of_beq h4
    subst ek
    obtain ⟨v, hv, e0⟩ := (show ∃ v, S.2.1 = [v] ∧ (v.1 = 2 ∨ (v.1 = 3 ∨ v.1 = 4)) from hst)
    obtain ⟨u, e1, h2⟩ := one v hv
    have hu : u = .null ∨ ∃ a : Nat, u = .ref a := by
      unfold ck_vo at h2
      rcases e0 with e | e | e <;> rw [e] at h2
      · obtain ⟨-, -, q, a, e', t', rfl, -⟩ := h2
        exact Or.inr ⟨a, rfl⟩
      · rcases h2.2.2 with w | ⟨q, a, e', t', rfl, -⟩
        · exact Or.inl w
        · exact Or.inr ⟨a, rfl⟩
      · exact Or.inl h2.2.2
    split
    · exact absurd rfl z0
    · exact absurd rfl z1
    · exact absurd rfl z2
    · exact absurd rfl z3
    · exact ⟨u, e1, hu⟩
/-- and what it leaves alone -/
def fq (TT : List ck_D) (SG : List Nat) (rt : Nat) (Wr : List (Nat × Nat)) (T : fT) (cc : ByteArray) : fR := fun As ws sh rv ws' sh' => fr T cc As ws sh rv ws' sh' ∧ f_dj ws ∧ f_dj ws' ∧ ck_ex Wr ws sh ws' sh' ∧ (∃ tys, ck_wo tys TT SG ws sh ∧ ck_wo tys TT SG ws' sh') ∧ f_rk rt rv
theorem fq.mono {TT : List ck_D} {SG : List Nat} {rt : Nat} {W1 W2 : List (Nat × Nat)} {T : fT} {cc : ByteArray} (hw : ∀ x ∈ W2, x ∈ W1) {As : List Value} {ws : va_W} {sh : List Nat} {rv : Option Value} {ws' : va_W} {sh' : List Nat} (h : fq TT SG rt W2 T cc As ws sh rv ws' sh') : fq TT SG rt W1 T cc As ws sh rv ws' sh' :=
  ⟨h.1, h.2.1, h.2.2.1, ck_ex.wk hw h.2.2.2.1, h.2.2.2.2⟩
theorem ck_methX {Fc : Nat → Nat × fR} {Ph : ck_Ph} {Ps : fR} {sp : ck_spc} {V : ck_Wd} {l : Launch} {y : MethodName} {own : String} {cc : ByteArray} {nL : Nat} {ret : Option FieldType} {rm : Room} {C : ck_C} {M : ck_Me} {code : ck_cd} {ivs : List (Nat × ck_I)} {f rt : Nat} {pre : List (Nat × Nat)} {S0 : ck_S} (init : Bool)
    (hy : plainFor y = true) (ho : y.cls = own) (hinit : init = true → y.name = "<init>") (hM : mTT M = V.2.1 ∧ mSG M = V.2.2.1 ∧ mnL M = nL ∧ (∀ x ∈ mWr M, x ∈ C.2.2.1) ∧ mRm M = (C.2.2.2.1, C.2.2.2.2)) (hrm : rm.cells = C.2.2.2.1 ∧ rm.slots = C.2.2.2.2) (hrt : ck_rt rt ret)
    (hw : ck_wid C.1.1 ≤ nL) (h0 : 0 < C.1.2.2.1.length) (hmz : C.1.2.1.all (fun m => !(m.1 == 0)) = true) (hsp : ck_sph Fc V own cc ret rm M C Ph Ps sp)
    (hps : ∀ (As : List Value) (ws : va_W) (sh : List Nat) (rv : Option Value) (ws' : va_W) (sh' : List Nat), fq V.2.1 V.2.2.1 rt (mWr M) (tM M Fc none) cc As ws sh rv ws' sh' → Ps As ws sh rv ws' sh')
    (hcode : ∀ x ∈ code, decode cc x.1 = .ok (x.2.1, x.2.2)) (htb : ck_tb V own init M) (hcl : ck_ca Fc V own cc rm M) (hchk : ck_chk M (ck_kr (mF M) C.1.2.2.1.length rt C) sp code ivs C.1.2.2.1.length f S0 = true) (hpre : ck_pn M pre (ck_en C) = some S0) :
    ck_mtx V l y cc nL ret rm C Ph Ps := by
  obtain ⟨m1, m2, m3, m4, m5⟩ := hM
  intro D tys ws sh sz n1 As sw htl hsw1 hn0 hpo hwo hph
  refine ck_ofW (cc := cc) (maxL := nL) (ret := ret) hy rfl ?_
  intro p e s m args below meth c s₁ B hml hv
  obtain ⟨rfl, hsz, hP, hK, hD0, hnc, hsw⟩ := hv
  have hx := B.exec
  have hb := B.bytes
  have hr := B.returns
  have hts0 := atoms_spec (ws := .code y cc nL ret :: V.2.2.2.2.1) B.pre
  have hts : ∀ w ∈ V.2.2.2.2.1, w.before As.toArray s = true := fun w hw => hts0 w (List.mem_cons_of_mem _ hw)
  have hown : s.vm.findClass own = some m.cls := by rw [← ho]; exact findClass_of_methodNamed B.named
  have hlocks := B.notSynchronized
  have hmn : meth.name = y.name := (name_of_methodNamed B.named B.method).1
  subst hsz
  have hD := hD0.self (sz := s.heap.size)
  have hA : ∀ q : Nat, s.heap.size ≤ q → va_A ws s.heap.size q := fun q h => Or.inr h
  have hS : va_S (va_A ws s.heap.size) s.heap s.heap [] := va_S.rf
  have X : ck_cx p l e rm s m As.toArray below meth c cc own D V.1 tys M (none, sw, fun k => (n1 (k - 1000)).1) (va_A ws s.heap.size) :=
    ⟨hx, hb, hown, hK, hA, by rw [m3]; exact hml, by rw [m5]; exact ⟨by rw [hrm.1]; exact Nat.le_refl _, by rw [hrm.2]; exact Nat.le_refl _⟩, hlocks, (fun _ _ _ h => by cases h), hsw⟩
  obtain ⟨t1, t2, t3, t4, t5, t6, t7, t8⟩ := htb s As.toArray tys meth sw hts htl hnc (fun z => by rw [hmn]; exact hinit z) hsw1
  have hl := lv_entry As (n := nL) (by rw [ck_wid_ok hpo.1]; exact hw)
  rw [lg_entry_eq]
  generalize (lg_sl As ++ List.replicate (nL - (lg_sl As).length) Slot.unset).toArray = ls at hl ⊢
  refine W.widen (k := 0) (n := 0) (Nat.le_refl _) (Nat.le_refl _) ?_
  have hb0 : ∀ k, k < C.1.2.2.1.length → (fun j : Nat => (n1 (j - 1000)).1) (1000 + k) = (n1 k).1 := fun k _ => by
    have e9 : 1000 + k - 1000 = k := by omega
    dsimp only
    rw [e9]
  have hrun := ck_run_ok (Fc := Fc) (s0 := (0, lv_args 0 As, [], ws, sh)) (p := p) (l := l) (e := e) (R := rm) (s := s) (m := m) (args := As.toArray) (below := below) (meth := meth) (c := c) (Q := MQ below (ck_qp V D tys ws sh s.heap.size sw n1 C Ps As) As.toArray s C.2.2.2.1 C.2.2.2.2 (va_A ws s.heap.size)) (cc := cc) (own := own) (D := D) (cl := V.1) (tys := tys) (M := M) (sc := (none, sw, fun k => (n1 (k - 1000)).1)) (A := va_A ws s.heap.size) (ws0 := ws) (sh0 := sh) (n1 := n1) (b := fun k => (n1 (k - 1000)).1) h0 X t1 t2 t3 t4 t5 t6 t7 (fun i hi => t8 i hi _) (fun b => hcl _ p l e s m As.toArray below meth c _ D tys (none, sw, b) (va_A ws s.heap.size) X hts htl hsw1 hnc) hcode ?_ (fun x hx S L hS b hb hk => hsp p l e s m As below meth c D tys ws sh n1 sw (fun b => X) hts htl hsw1 hnc hr hph hpo hwo x hx S L hS b hb hk) hchk hb0
  · have oe : ck_so (mnL M) (mSG M) (ck_en C) n1 ws sh (none, sw, fun k => (n1 (k - 1000)).1) ls [] := by
      refine ⟨⟨h0, hn0⟩, ?_, trivial, ?_, hpo.2.2.1, hpo.2.2.2⟩
      · refine ⟨_, by rw [m3]; exact hl, ck_two_args 0 (hpo.1.imp fun a b hab => hab.sc rfl rfl)⟩
      · intro z hz
        rcases List.mem_append.mp hz with hz | hz
        · have hzn : z.1 ≠ 0 := by
            have := List.all_eq_true.mp hmz z hz
            rw [Bool.not_eq_true', beq_eq_false_iff_ne] at this
            exact this
          rcases hpo.2.1 z hz with ⟨q, -⟩ | ⟨z0, z1, q, a, oo, v, z2, z3, z4, z5⟩ | hy
          · exact absurd q hzn
          · exact Or.inr (Or.inl ⟨z0, by rw [m2]; exact z1, q, a, oo, v, z2, z3, z4, z5.sc rfl rfl⟩)
          · exact Or.inr (Or.inr ⟨hy.1, hy.2.1, by rw [m2]; exact hy.2.2.1, hy.2.2.2⟩)
        · obtain ⟨k, hk, rfl⟩ := List.mem_map.mp hz
          have hk := List.mem_range.mp hk
          exact Or.inl ⟨rfl, hk, Or.inr ⟨rfl, (hb0 k hk).symm⟩⟩
    have hwo' : ck_wo tys (mTT M) (mSG M) ws sh := by rw [m1, m2]; exact hwo
    obtain ⟨n', o', ec⟩ := ck_pn_ok hwo' hpre oe
    have hfin := hrun n' ws sh s.heap [] ls [] o' hwo' ck_ex.rf hP hD hS (lv_args 0 As) (by rw [hml]; exact hl) gr.rf
    rw [ec] at hfin
    have hoc : ck_oc rm M = 0 := by unfold ck_oc; rw [m5, hrm.1]; exact Nat.sub_self _
    have hos : ck_os rm M = 0 := by unfold ck_os; rw [m5, hrm.2]; exact Nat.sub_self _
    rw [hoc, hos] at hfin
    exact hfin
  · intro b hbb kd S hkr hst pc hdg n ws' sh' H locs ls vs o hw' hx' hP' hD' hS' lg hlg hgr
    obtain ⟨P, hPm, n2, q1, q2⟩ := ck_kr_ok (sc := (none, sw, fun _ => 0)) hkr o hbb
    have hk2 := hkr
    unfold ck_kr at hk2
    simp only [Bool.and_eq_true, decide_eq_true_eq] at hk2
    have hoc : ck_oc rm M = 0 := by unfold ck_oc; rw [m5, hrm.1]; exact Nat.sub_self _
    have hos : ck_os rm M = 0 := by unfold ck_os; rw [m5, hrm.2]; exact Nat.sub_self _
    rw [hoc, hos, Nat.zero_add, Nat.zero_add]
    show W _ _ _ _ _ _ _ _ _ _ _ _ _ _ _ _
    refine W.widen hk2.1.1 hk2.1.2.1 ?_
    refine ck_rt_end hx hb hr hlocks hrt hkr hst o hdg (fun t rv hrv ht hW => ?_) hS'.2.2
    subst hrv
    rw [m1, m2] at hw'
    rw [m2] at q2
    exact ⟨⟨P, hPm, rv, n2, ws', sh', rfl, q1, hw', hx'.wk m4, by rw [ht]; exact hP', hD', q2, hps As ws sh rv ws' sh' ⟨⟨pc, lg, kd, by rw [hb] at hgr; exact hgr, hdg⟩, hD0.1, hD'.1, hx', ⟨tys, hwo, hw'⟩, ck_rk_ok hkr hst o⟩⟩, hS'.F ht⟩

theorem ck_meth {r : fR} {Fc : Nat → Nat × fR} {V : ck_Wd} {l : Launch} {y : MethodName} {own : String} {cc : ByteArray} {nL : Nat} {ret : Option FieldType} {rm : Room} {C : ck_C} {M : ck_Me} {code : ck_cd} {ivs : List (Nat × ck_I)} {f rt : Nat} {pre : List (Nat × Nat)} {S0 : ck_S} (init : Bool) (hr : ∀ (As : List Value) (ws : va_W) (sh : List Nat) (rv : Option Value) (ws' : va_W) (sh' : List Nat), fq V.2.1 V.2.2.1 rt (mWr M) (tM M Fc none) cc As ws sh rv ws' sh' → r As ws sh rv ws' sh') 
    (hy : plainFor y = true) (ho : y.cls = own) (hinit : init = true → y.name = "<init>") (hM : mTT M = V.2.1 ∧ mSG M = V.2.2.1 ∧ mnL M = nL ∧ mWr M = C.2.2.1 ∧ mRm M = (C.2.2.2.1, C.2.2.2.2)) (hrm : rm.cells = C.2.2.2.1 ∧ rm.slots = C.2.2.2.2) (hrt : ck_rt rt ret)
    (hw : ck_wid C.1.1 ≤ nL) (h0 : 0 < C.1.2.2.1.length) (hmz : C.1.2.1.all (fun m => !(m.1 == 0)) = true) (hcode : ∀ x ∈ code, decode cc x.1 = .ok (x.2.1, x.2.2)) (htb : ck_tb V own init M) (hcl : ck_ca Fc V own cc rm M) (hchk : ck_chk M (ck_kr (mF M) C.1.2.2.1.length rt C) [] code ivs C.1.2.2.1.length f S0 = true) (hpre : ck_pn M pre (ck_en C) = some S0) :
    ck_met V l y cc nL ret rm C r :=
  ck_methX (sp := []) init hy ho hinit ⟨hM.1, hM.2.1, hM.2.2.1, fun x hx => by rw [← hM.2.2.2.1]; exact hx, hM.2.2.2.2⟩ hrm hrt hw h0 hmz (fun _ _ _ _ _ _ _ _ _ _ _ _ _ _ _ _ _ _ _ _ _ _ _ _ x hx => absurd hx List.not_mem_nil) hr hcode htb hcl hchk hpre
/-- with steps proved by hand -/
theorem ck_methS {r : fR} {Fc : Nat → Nat × fR} {sp : ck_spc} {V : ck_Wd} {l : Launch} {y : MethodName} {own : String} {cc : ByteArray} {nL : Nat} {ret : Option FieldType} {rm : Room} {C : ck_C} {M : ck_Me} {code : ck_cd} {ivs : List (Nat × ck_I)} {f rt : Nat} {pre : List (Nat × Nat)} {S0 : ck_S} (init : Bool) (hr : ∀ (As : List Value) (ws : va_W) (sh : List Nat) (rv : Option Value) (ws' : va_W) (sh' : List Nat), fq V.2.1 V.2.2.1 rt (mWr M) (tM M Fc none) cc As ws sh rv ws' sh' → r As ws sh rv ws' sh') 
    (hsp : ck_sph Fc V own cc ret rm M C (fun _ _ _ => True) r sp)
    (hy : plainFor y = true) (ho : y.cls = own) (hinit : init = true → y.name = "<init>") (hM : mTT M = V.2.1 ∧ mSG M = V.2.2.1 ∧ mnL M = nL ∧ mWr M = C.2.2.1 ∧ mRm M = (C.2.2.2.1, C.2.2.2.2)) (hrm : rm.cells = C.2.2.2.1 ∧ rm.slots = C.2.2.2.2) (hrt : ck_rt rt ret)
    (hw : ck_wid C.1.1 ≤ nL) (h0 : 0 < C.1.2.2.1.length) (hmz : C.1.2.1.all (fun m => !(m.1 == 0)) = true) (hcode : ∀ x ∈ code, decode cc x.1 = .ok (x.2.1, x.2.2)) (htb : ck_tb V own init M) (hcl : ck_ca Fc V own cc rm M) (hchk : ck_chk M (ck_kr (mF M) C.1.2.2.1.length rt C) sp code ivs C.1.2.2.1.length f S0 = true) (hpre : ck_pn M pre (ck_en C) = some S0) :
    ck_met V l y cc nL ret rm C r :=
  ck_methX (sp := sp) init hy ho hinit ⟨hM.1, hM.2.1, hM.2.2.1, fun x hx => by rw [← hM.2.2.2.1]; exact hx, hM.2.2.2.2⟩ hrm hrt hw h0 hmz hsp hr hcode htb hcl hchk hpre
end
noncomputable section
/-! a contract is the call's meaning -/
def ck_ok5 (C : ck_C) : Bool := C.1.1.all (fun v => decide (v.1 < 5)) && (C.1.2.1.all ck_okm && C.2.1.all (fun P => P.1.all (fun v => decide (v.1 < 5)) && P.2.1.all ck_okm))
theorem ck_vo.sc5 {ws : va_W} {sh : List Nat} {sc sc' : ck_sc} {n : ck_N} {N : Nat} {av : ck_V} {v : Value} (h5 : av.1 < 5) (h : ck_vo ws sh sc n N av v) : ck_vo ws sh sc' n N av v := by
  unfold ck_vo at h ⊢
  refine ⟨h.1, ?_⟩
  have h2 := h.2
  split at h2
  · exact h2
  · exact h2
  · exact h2
  · exact h2
  · exact h2
  · omega
  · omega
  · omega
  · exact h2.elim
theorem ck_po.sc5 {SG : List Nat} {ws : va_W} {sh : List Nat} {sc sc' : ck_sc} {n : ck_N} {N : Nat} {P : ck_P} {xs : List Value} (h1 : P.1.all (fun v => decide (v.1 < 5)) = true) (h2 : P.2.1.all ck_okm = true) (h : ck_po SG ws sh sc n N P xs) : ck_po SG ws sh sc' n N P xs := by
  refine ⟨?_, fun x hx => ?_, h.2.2⟩
  · have hall : ∀ v ∈ P.1, v.1 < 5 := fun v hv => of_decide_eq_true (List.all_eq_true.mp h1 v hv)
    have h3 := h.1
    revert hall h3
    generalize P.1 = ps
    clear h h1 h2
    intro hall h3
    induction ps generalizing xs with
    | nil => cases xs with
      | nil => trivial
      | cons _ _ => exact h3.elim
    | cons v ps ih => cases xs with
      | nil => exact h3.elim
      | cons x xs => exact ⟨h3.1.sc5 (hall v List.mem_cons_self), ih (fun w hw => hall w (List.mem_cons_of_mem _ hw)) h3.2⟩
  · have hx2 := List.all_eq_true.mp h2 x hx
    unfold ck_okm at hx2
    rw [Bool.and_eq_true, Bool.not_eq_true', beq_eq_false_iff_ne, Bool.or_eq_true, decide_eq_true_eq, decide_eq_true_eq] at hx2
    rcases h.2.1 x hx with ⟨z, -⟩ | ⟨z0, z1, q, a, oo, v, z2, z3, z4, z5⟩ | hy
    · exact absurd z hx2.1
    · refine Or.inr (Or.inl ⟨z0, z1, q, a, oo, v, z2, z3, z4, z5.sc5 ?_⟩)
      rcases hx2.2 with w | w
      · exact w
      · exfalso
        have z5 := z5.2
        split at z5 <;> omega
    · exact Or.inr (Or.inr hy)
theorem ck_st_blind {V : ck_Wd} {D : va_G} {tys : List (ClassId × FieldType)} {ws : va_W} {sz : Nat} {sw : Option Nat} {As : List Value} : FrameBlind (va_Pc As (ck_st V D tys ws sz sw)) := by
  intro a U g mk h
  obtain ⟨rfl, h1, h2, h3, h4, h5, h6⟩ := h
  have hal : U.vm.Alike (U.calling g mk As.toArray).vm := Vm.Alike.refl U.vm
  refine ⟨rfl, h1, h2, h3.moved hal, h4, h5.same (show U.vm = (U.calling g mk As.toArray).vm from rfl), fun w hw => ?_⟩
  obtain ⟨g1, g2⟩ := h6 w hw
  exact ⟨g1.moved hal, g2.moved hal⟩
section
variable {Fc : Nat → Nat × fR} {s0 : fS} {p : Program} {l : Launch} {e : Env} {R : Room} {s : State} {m : MethodId} {args : Array Value} {below : List Frame} {meth : Method} {c : Code} {Q : State → Prop} {cc : ByteArray} {own : String} {D : va_G} {tys : List (ClassId × FieldType)} {M : ck_Me} {sc : ck_sc} {A : Nat → Prop} {V : ck_Wd}
theorem fxi_ik {T : fT} {i : Nat} {a b : fS} (h : f_call T i a b) : fxi T (ck_ik i) 3 a b := by
  have h3 : i % 3 = 0 ∨ i % 3 = 1 ∨ i % 3 = 2 := by omega
  unfold ck_ik
  rcases h3 with e | e | e <;> rw [e]
  · show f_call T (3 * (i / 3)) a b
    rw [show 3 * (i / 3) = i by omega]
    exact h
  · show f_call T (3 * (i / 3) + 1) a b
    rw [show 3 * (i / 3) + 1 = i by omega]
    exact h
  · show f_call T (3 * (i / 3) + 2) a b
    rw [show 3 * (i / 3) + 2 = i by omega]
    exact h
theorem ck_cs_gen {rr : fR} {y : MethodName} {cc' : ByteArray} {nL' : Nat} {ret : Option FieldType} {rm : Room} {C : ck_C} {i t na : Nat} (hmet : ck_met V l y cc' nL' ret rm C rr) (hF : (Fc i).1 = na ∧ ∀ (As : List Value) (ws : va_W) (sh : List Nat) (rv : Option Value) (ws' : va_W) (sh' : List Nat), (t ≠ 0 → ∃ v, As[0]? = some v ∧ ck_rf ws sh [t] v) → rr As ws sh rv ws' sh' → (Fc i).2 As ws sh rv ws' sh') (X : ck_cx p l e R s m args below meth c cc own D V.1 tys M sc A) (htl : tys.map Prod.snd = V.2.2.2.1) (hsw : sc.2.1.isSome = true) (hnc : ck_nq V s) (hM : mTT M = V.2.1 ∧ mSG M = V.2.2.1) (h5 : ck_ok5 C = true)
    (hrun : ∀ (pc : Nat) (ls : Array Slot) (ws : va_W) (sh : List Nat) (H : Heap) (locs : List Loc) (cells slots : Nat) (As rest : List Value) (Pc : Array Value → State → Prop) (Qc : Array Value → State → Outcome → State → Prop) (free : Addr → Prop), decode cc pc = .ok (ck_ik i, 3) → ls.size = mnL M → As.length = na → (t ≠ 0 → ∃ v, As[0]? = some v ∧ ck_rf ws sh [t] v) → ck_wo tys (mTT M) (mSG M) ws sh → va_P D V.1 ws H → (rest.map fun v => v.category).sum ≤ 8 → cells + C.2.2.2.1 ≤ R.cells → slots + C.2.2.2.2 ≤ R.slots →
      Met l y (.code y cc' nL' ret :: V.2.2.2.2.1) rm Pc Qc C.2.2.2.1 C.2.2.2.2 free → FrameBlind Pc → (∀ U : State, U.heap = H → s.WarmedH U.vm → Pc As.toArray U) → va_Run p l e R s m args below meth c H locs cells slots C.2.2.2.1 C.2.2.2.2 (F0 m pc ls (As.reverse ++ rest)) rest (Qc As.toArray) free) :
    ck_cs Fc s0 p l e R s m args below meth c Q cc D V.1 tys M sc A (i, t, na, C) := by
  intro pc ls n1 ws sh H locs cells slots As rest hdg hls hlen hn0 hpo hrec hwo hP hD hS hc hs hsum hk
  unfold ck_ok5 at h5
  rw [Bool.and_eq_true, Bool.and_eq_true] at h5
  obtain ⟨h51, h52, h53⟩ := h5
  obtain ⟨x1, x2, x3, x4, x5, x6, x7, x8, x9, x10⟩ := X
  have hA1 : ∀ q, va_A ws H.size q → A q := by
    rintro q (⟨k, e', h⟩ | h)
    · exact hD.2 k _ h
    · exact x5 q (Nat.le_trans hS.1 h)
  have hmet' := hmet D tys ws sh H.size n1 As sc.2.1 htl hsw hn0 (by rw [← hM.2]; exact hpo.sc5 h51 h52) (by rw [← hM.1, ← hM.2]; exact hwo) trivial
  have hpre : ∀ U : State, U.heap = H → s.WarmedH U.vm → va_Pc As (ck_st V D tys ws H.size sc.2.1) As.toArray U := by
    intro U hU hW
    refine ⟨rfl, by rw [hU], by rw [hU]; exact hP, va_K.moved hW.alike x4, hD.weaken (fun _ _ _ _ => trivial), hnc.warm hW, fun w hw => ?_⟩
    obtain ⟨g1, g2⟩ := x10 w hw
    exact ⟨by rw [hU]; exact ((g1.kept hS.2.1).narrow hA1).moved hW.alike, by rw [hU]; exact ((g2.kept hS.2.1).narrow hA1).moved hW.alike⟩
  have run := hrun pc ls ws sh H locs cells slots As rest _ _ _ hdg hls hlen hrec hwo hP hsum hc hs hmet' ck_st_blind hpre
  intro lg hlg hgr T hT Xs
  obtain ⟨v, st₀, u, T', L, h0, X', hL, e1, e2, ⟨⟨P, hPm, rv, n2, ws', sh', hrv, q1, q2, q3, q4, q5, q6, q7⟩, hz, hkF⟩, st⟩ := run T hT Xs
  cases hrv
  rw [h0] at hz hkF
  have h53' := List.all_eq_true.mp h53 P hPm
  rw [Bool.and_eq_true] at h53'
  obtain ⟨t2, a1, b1⟩ := hk P hPm v n2 ws' sh' T'.heap (locs ++ L) q1 (by rw [hM.1, hM.2]; exact q2) q3 (by rw [e1]; exact q4) (q5.weaken fun k q _ h => hA1 q.1 h)
    ⟨Nat.le_trans hS.1 (by rw [e1]; exact hz), fun q h1 h2 => by rw [e1, hkF q (Nat.lt_of_lt_of_le h1 hS.1) (fun z => h2 (hA1 q z))]; exact hS.2.1 q h1 h2, fun q hq => by
      rcases List.mem_append.mp hq with h | h
      · exact hS.2.2 q h
      · exact hA1 _ (hL q h)⟩ (by rw [hM.2]; exact q6.sc5 h53'.1 h53'.2) lg hlg (hgr.nx x2 hdg (fxi_ik ⟨As, rest, v, ws', sh', rfl, hlen.trans hF.1.symm, hF.2 As ws sh v ws' sh' hrec q7, rfl⟩)) T' rfl X'
  exact ⟨t2, st t2 a1, b1⟩
/-- the tables' words are good for callees -/
def ck_gd (Ts : List Cond) : Prop := ∀ w ∈ Ts, ((w.onTables && w.keeps) = true ∨ ∃ ty, w = .arrayClass ty)
theorem ck_good {Ts ws : List Cond} (hg : ck_gd Ts) (h : ∀ w ∈ ws, w ∈ Ts) : GoodIn Ts ws := fun w hw => ⟨h w hw, hg w (h w hw)⟩
theorem ck_lroom {pc : Nat} {ls : Array Slot} {st rest : List Value} (h : (rest.map fun v => v.category).sum ≤ 8) : 2 * (F0 m pc ls st).monitorRoom + (rest.map fun v => v.category).sum ≤ 8 := by
  show 2 * 0 + _ ≤ 8
  omega
theorem ck_recv (X : ck_cx p l e R s m args below meth c cc own D V.1 tys M sc A) {ws : va_W} {sh : List Nat} {H : Heap} {As : List Value} {t ci : Nat} {r : vw_C} (hwo : ck_wo tys (mTT M) (mSG M) ws sh) (hP : va_P D V.1 ws H) (ht : t ≠ 0) (hci : ck_ty0 M t = some ci) (hr : V.1[ci]? = some r) (hrec : t ≠ 0 → ∃ v, As[0]? = some v ∧ ck_rf ws sh [t] v) :
    ∃ (b : Nat) (As' : List Value), As = .ref b :: As' ∧ ∃ cell : Cell, H[b]? = some cell ∧ cell.vm.isStatics = false ∧ s.vm.findClass r.1 = some cell.cls := by
  obtain ⟨v, hv, q, a, e', t', rfl, h1, h2, h3⟩ := hrec ht
  rw [List.mem_singleton.mp h3] at h2
  cases As with
  | nil => simp at hv
  | cons x As' =>
    rw [List.getElem?_cons_zero, Option.some.injEq] at hv
    subst hv
    exact ⟨a, As', rfl, ck_cellof (cl := V.1) X hwo hP h1 h2 hci hr⟩
/-- invokevirtual of a method of the receiver's own class -/
theorem ck_cs_V {rr : fR} {y : MethodName} {cc' : ByteArray} {nL' idx : Nat} {ret : Option FieldType} {rm : Room} {C : ck_C} {t na ci : Nat} {r : vw_C} (hmet : ck_met V l y cc' nL' ret rm C rr) (hF : (Fc (3 * idx)).1 = na ∧ ∀ (As : List Value) (ws : va_W) (sh : List Nat) (rv : Option Value) (ws' : va_W) (sh' : List Nat), (t ≠ 0 → ∃ v, As[0]? = some v ∧ ck_rf ws sh [t] v) → rr As ws sh rv ws' sh' → (Fc (3 * idx)).2 As ws sh rv ws' sh') (X : ck_cx p l e R s m args below meth c cc own D V.1 tys M sc A) (hts : ∀ w ∈ V.2.2.2.2.1, w.before args s = true) (htl : tys.map Prod.snd = V.2.2.2.1) (hsw : sc.2.1.isSome = true) (hnc : ck_nq V s) (hM : mTT M = V.2.1 ∧ mSG M = V.2.2.1) (h5 : ck_ok5 C = true)
    (hg : ck_gd V.2.2.2.2.1) (hw : ∀ w ∈ ([.methodLink own idx y, .instanceMethod y, .selects r.1 y y, .initialized r.1, .code y cc' nL' ret] : List Cond), w ∈ V.2.2.2.2.1) (ht : t ≠ 0) (hci : ck_ty0 M t = some ci) (hr : V.1[ci]? = some r) (hyc : y.cls = r.1)
    (hd : y.cls ≠ "java/lang/invoke/MethodHandle" ∧ y.cls ≠ "java/lang/invoke/VarHandle" ∧ (parseMethodDescriptor y.desc).map (fun d => d.parameters.length + 1) = some na) (hrm : rm.cells = C.2.2.2.1 ∧ rm.slots = C.2.2.2.2) (hR : rm.frames + 1 ≤ R.frames ∧ 8 + (nL' + 11) + rm.locals ≤ R.locals) :
    ck_cs Fc s0 p l e R s m args below meth c Q cc D V.1 tys M sc A (3 * idx, t, na, C) := by
  refine ck_cs_gen hmet hF X htl hsw hnc hM h5 ?_
  intro pc ls ws sh H locs cells slots As rest Pc Qc free hdg hls hlen hrec hwo hP hsum hc hs hMet hbl hpre
  obtain ⟨b, As', rfl, hcell⟩ := ck_recv X hwo hP ht hci hr hrec
  obtain ⟨n, hn1, hn2⟩ : ∃ n, (parseMethodDescriptor y.desc).map (fun d => d.parameters.length) = some n ∧ na = n + 1 := by
    cases hp : parseMethodDescriptor y.desc with
    | none => rw [hp] at hd; cases hd.2.2
    | some d => rw [hp] at hd; exact ⟨d.parameters.length, rfl, (Option.some.inj hd.2.2).symm⟩
  rw [ck_ik0] at hdg
  have hGi : GoodIn V.2.2.2.2.1 (wsV own idx r.1 y (.code y cc' nL' ret :: V.2.2.2.2.1)) := ck_good hg (fun w hww => by
    rcases List.mem_append.mp hww with q | q
    · simp only [List.mem_cons, List.not_mem_nil, or_false] at q
      rcases q with rfl | rfl | rfl | rfl <;> exact hw _ (by simp)
    · rcases List.mem_cons.mp q with rfl | q
      · exact hw _ (by simp)
      · exact q)
  exact va_runV (rest := rest) ⟨X.1, X.2.1, X.2.2.2.2.2.1, X.2.2.1, hts⟩ hMet (cwV n hts hGi rfl hrm.1 hrm.2 ⟨hyc, hd.1, hd.2.1, hn1⟩ hR) ⟨hbl, hcell, hpre⟩ (g := F0 m pc ls ((Value.ref b :: As').reverse ++ rest)) rfl (by simp at hlen; omega) hls (by simp) (ck_lroom hsum) hdg ⟨hc, hs⟩
/-- invokestatic -/
theorem ck_cs_S {rr : fR} {y : MethodName} {cc' : ByteArray} {nL' idx : Nat} {ret : Option FieldType} {rm : Room} {C : ck_C} {na : Nat} (hmet : ck_met V l y cc' nL' ret rm C rr) (hF : (Fc (3 * idx + 1)).1 = na ∧ ∀ (As : List Value) (ws : va_W) (sh : List Nat) (rv : Option Value) (ws' : va_W) (sh' : List Nat), (0 ≠ 0 → ∃ v, As[0]? = some v ∧ ck_rf ws sh [0] v) → rr As ws sh rv ws' sh' → (Fc (3 * idx + 1)).2 As ws sh rv ws' sh') (X : ck_cx p l e R s m args below meth c cc own D V.1 tys M sc A) (hts : ∀ w ∈ V.2.2.2.2.1, w.before args s = true) (htl : tys.map Prod.snd = V.2.2.2.1) (hsw : sc.2.1.isSome = true) (hnc : ck_nq V s) (hM : mTT M = V.2.1 ∧ mSG M = V.2.2.1) (h5 : ck_ok5 C = true)
    (hg : ck_gd V.2.2.2.2.1) (hw : ∀ w ∈ ([.methodLink own idx y, .static y, .initialized y.cls, .code y cc' nL' ret] : List Cond), w ∈ V.2.2.2.2.1)
    (hd : y.cls ≠ "java/lang/invoke/MethodHandle" ∧ y.cls ≠ "java/lang/invoke/VarHandle" ∧ (parseMethodDescriptor y.desc).map (fun d => d.parameters.length) = some na) (hrm : rm.cells = C.2.2.2.1 ∧ rm.slots = C.2.2.2.2) (hR : rm.frames + 1 ≤ R.frames ∧ 8 + (nL' + 11) + rm.locals ≤ R.locals) :
    ck_cs Fc s0 p l e R s m args below meth c Q cc D V.1 tys M sc A (3 * idx + 1, 0, na, C) := by
  refine ck_cs_gen hmet hF X htl hsw hnc hM h5 ?_
  intro pc ls ws sh H locs cells slots As rest Pc Qc free hdg hls hlen hrec hwo hP hsum hc hs hMet hbl hpre
  rw [ck_ik1] at hdg
  have hGi : GoodIn V.2.2.2.2.1 (va_wsS own idx y (.code y cc' nL' ret :: V.2.2.2.2.1)) := ck_good hg (fun w hww => by
    rcases List.mem_append.mp hww with q | q
    · simp only [List.mem_cons, List.not_mem_nil, or_false] at q
      rcases q with rfl | rfl | rfl <;> exact hw _ (by simp)
    · rcases List.mem_cons.mp q with rfl | q
      · exact hw _ (by simp)
      · exact q)
  exact va_runS (rest := rest) ⟨X.1, X.2.1, X.2.2.2.2.2.1, X.2.2.1, hts⟩ hMet (va_cwS na hts hGi rfl hrm.1 hrm.2 hd hR) ⟨hbl, hpre⟩ (g := F0 m pc ls (As.reverse ++ rest)) rfl hlen hls rfl (ck_lroom hsum) hdg ⟨hc, hs⟩
/-- invokespecial of a constructor -/
theorem ck_cs_I {rr : fR} {y : MethodName} {cc' : ByteArray} {nL' idx : Nat} {rm : Room} {C : ck_C} {t na ci : Nat} {r : vw_C} (hmet : ck_met V l y cc' nL' none rm C rr) (hF : (Fc (3 * idx + 2)).1 = na ∧ ∀ (As : List Value) (ws : va_W) (sh : List Nat) (rv : Option Value) (ws' : va_W) (sh' : List Nat), (t ≠ 0 → ∃ v, As[0]? = some v ∧ ck_rf ws sh [t] v) → rr As ws sh rv ws' sh' → (Fc (3 * idx + 2)).2 As ws sh rv ws' sh') (X : ck_cx p l e R s m args below meth c cc own D V.1 tys M sc A) (hts : ∀ w ∈ V.2.2.2.2.1, w.before args s = true) (htl : tys.map Prod.snd = V.2.2.2.1) (hsw : sc.2.1.isSome = true) (hnc : ck_nq V s) (hM : mTT M = V.2.1 ∧ mSG M = V.2.2.1) (h5 : ck_ok5 C = true)
    (hg : ck_gd V.2.2.2.2.1) (hw : ∀ w ∈ ([.methodLink own idx y, .instanceMethod y, .initialized y.cls, .code y cc' nL' none] : List Cond), w ∈ V.2.2.2.2.1) (ht : t ≠ 0) (hci : ck_ty0 M t = some ci) (hr : V.1[ci]? = some r) (hy1 : y.name = "<init>")
    (hd : y.cls ≠ "java/lang/invoke/MethodHandle" ∧ y.cls ≠ "java/lang/invoke/VarHandle" ∧ (parseMethodDescriptor y.desc).map (fun d => d.parameters.length + 1) = some na) (hrm : rm.cells = C.2.2.2.1 ∧ rm.slots = C.2.2.2.2) (hR : rm.frames + 1 ≤ R.frames ∧ 8 + (nL' + 11) + rm.locals ≤ R.locals) :
    ck_cs Fc s0 p l e R s m args below meth c Q cc D V.1 tys M sc A (3 * idx + 2, t, na, C) := by
  refine ck_cs_gen hmet hF X htl hsw hnc hM h5 ?_
  intro pc ls ws sh H locs cells slots As rest Pc Qc free hdg hls hlen hrec hwo hP hsum hc hs hMet hbl hpre
  obtain ⟨b, As', rfl, hcell⟩ := ck_recv X hwo hP ht hci hr hrec
  obtain ⟨n, hn1, hn2⟩ : ∃ n, (parseMethodDescriptor y.desc).map (fun d => d.parameters.length) = some n ∧ na = n + 1 := by
    cases hp : parseMethodDescriptor y.desc with
    | none => rw [hp] at hd; cases hd.2.2
    | some d => rw [hp] at hd; exact ⟨d.parameters.length, rfl, (Option.some.inj hd.2.2).symm⟩
  rw [ck_ik2] at hdg
  have hGi : GoodIn V.2.2.2.2.1 (.code y cc' nL' none :: V.2.2.2.2.1) := ck_good hg (fun w hww => by
    rcases List.mem_cons.mp hww with rfl | q
    · exact hw _ (by simp)
    · exact q)
  exact va_runI (rest := rest) ⟨X.1, X.2.1, X.2.2.2.2.2.1, X.2.2.1, hts⟩ hMet (cwI n hts hGi rfl hrm.1 hrm.2 (hts _ (hw _ (by simp))) (hts _ (hw _ (by simp))) (hts _ (hw _ (by simp))) hy1 ⟨hd.1, hd.2.1, hn1⟩ hR) ⟨hbl, hpre⟩ (g := F0 m pc ls ((Value.ref b :: As').reverse ++ rest)) rfl (by simp at hlen; omega) hls (by simp) (ck_lroom hsum) hdg ⟨hc, hs⟩
end
end
noncomputable section
/-! calls of the other kinds: of a nest mate's private method, of a method that is inherited, of the superclass's own, of Object.<init>, of System.arraycopy -/
section
variable {Fc : Nat → Nat × fR} {s0 : fS} {p : Program} {l : Launch} {e : Env} {R : Room} {s : State} {m : MethodId} {args : Array Value} {below : List Frame} {meth : Method} {c : Code} {Q : State → Prop} {cc : ByteArray} {own : String} {D : va_G} {tys : List (ClassId × FieldType)} {M : ck_Me} {sc : ck_sc} {A : Nat → Prop} {V : ck_Wd}
/-- invokestatic of a nest mate's private method -/
theorem ck_cs_SN {rr : fR} {y : MethodName} {host : String} {cc' : ByteArray} {nL' idx : Nat} {ret : Option FieldType} {rm : Room} {C : ck_C} {na : Nat} (hmet : ck_met V l y cc' nL' ret rm C rr) (hF : (Fc (3 * idx + 1)).1 = na ∧ ∀ (As : List Value) (ws : va_W) (sh : List Nat) (rv : Option Value) (ws' : va_W) (sh' : List Nat), (0 ≠ 0 → ∃ v, As[0]? = some v ∧ ck_rf ws sh [0] v) → rr As ws sh rv ws' sh' → (Fc (3 * idx + 1)).2 As ws sh rv ws' sh') (X : ck_cx p l e R s m args below meth c cc own D V.1 tys M sc A) (hts : ∀ w ∈ V.2.2.2.2.1, w.before args s = true) (htl : tys.map Prod.snd = V.2.2.2.1) (hsw : sc.2.1.isSome = true) (hnc : ck_nq V s) (hM : mTT M = V.2.1 ∧ mSG M = V.2.2.1) (h5 : ck_ok5 C = true)
    (hg : ck_gd V.2.2.2.2.1) (hl : Cond.methodLinkNest own idx y host ∈ V.2.2.2.2.2.2) (hw : ∀ w ∈ ([.static y, .initialized y.cls, .code y cc' nL' ret] : List Cond), w ∈ V.2.2.2.2.1)
    (hd : y.cls ≠ "java/lang/invoke/MethodHandle" ∧ y.cls ≠ "java/lang/invoke/VarHandle" ∧ (parseMethodDescriptor y.desc).map (fun d => d.parameters.length) = some na) (hrm : rm.cells = C.2.2.2.1 ∧ rm.slots = C.2.2.2.2) (hR : rm.frames + 1 ≤ R.frames ∧ 8 + (nL' + 11) + rm.locals ≤ R.locals) :
    ck_cs Fc s0 p l e R s m args below meth c Q cc D V.1 tys M sc A (3 * idx + 1, 0, na, C) := by
  refine ck_cs_gen hmet hF X htl hsw hnc hM h5 ?_
  intro pc ls ws sh H locs cells slots As rest Pc Qc free hdg hls hlen hrec hwo hP hsum hc hs hMet hbl hpre
  rw [ck_ik1] at hdg
  have hGi : GoodIn V.2.2.2.2.1 (.code y cc' nL' ret :: V.2.2.2.2.1) := ck_good hg (fun w hww => by
    rcases List.mem_cons.mp hww with rfl | q
    · exact hw _ (by simp)
    · exact q)
  exact va_runSN (rest := rest) ⟨X.1, X.2.1, X.2.2.2.2.2.1, X.2.2.1, hts⟩ hMet ⟨va_cnB na hts hGi rfl hrm.1 hrm.2 (hnc.2 _ hl).2 (hts _ (hw _ (by simp))) hd hR, hts _ (hw _ (by simp)), trivial⟩ ⟨hbl, hpre⟩ (g := F0 m pc ls (As.reverse ++ rest)) rfl hlen hls rfl (ck_lroom hsum) hdg ⟨hc, hs⟩
/-- invokevirtual, where the receiver's class inherits or overrides -/
theorem ck_cs_U {rr : fR} {x y : MethodName} {owner : String} {cc' : ByteArray} {nL' idx : Nat} {ret : Option FieldType} {rm : Room} {C : ck_C} {t na ci : Nat} {r : vw_C} (hmet : ck_met V l y cc' nL' ret rm C rr) (hF : (Fc (3 * idx)).1 = na ∧ ∀ (As : List Value) (ws : va_W) (sh : List Nat) (rv : Option Value) (ws' : va_W) (sh' : List Nat), (t ≠ 0 → ∃ v, As[0]? = some v ∧ ck_rf ws sh [t] v) → rr As ws sh rv ws' sh' → (Fc (3 * idx)).2 As ws sh rv ws' sh') (X : ck_cx p l e R s m args below meth c cc own D V.1 tys M sc A) (hts : ∀ w ∈ V.2.2.2.2.1, w.before args s = true) (htl : tys.map Prod.snd = V.2.2.2.1) (hsw : sc.2.1.isSome = true) (hnc : ck_nq V s) (hM : mTT M = V.2.1 ∧ mSG M = V.2.2.1) (h5 : ck_ok5 C = true)
    (ht : t ≠ 0) (hci : ck_ty0 M t = some ci) (hr : V.1[ci]? = some r) (n : Nat) (hn : na = n + 1) (cw : va_CU R s args own r.1 owner idx x y cc' nL' ret (.code y cc' nL' ret :: V.2.2.2.2.1) rm C.2.2.2.1 C.2.2.2.2 n) :
    ck_cs Fc s0 p l e R s m args below meth c Q cc D V.1 tys M sc A (3 * idx, t, na, C) := by
  refine ck_cs_gen hmet hF X htl hsw hnc hM h5 ?_
  intro pc ls ws sh H locs cells slots As rest Pc Qc free hdg hls hlen hrec hwo hP hsum hc hs hMet hbl hpre
  obtain ⟨b, As', rfl, hcell⟩ := ck_recv X hwo hP ht hci hr hrec
  rw [ck_ik0] at hdg
  exact va_runU (Ts := V.2.2.2.2.1) (rest := rest) ⟨X.1, X.2.1, X.2.2.2.2.2.1, X.2.2.1, hts⟩ hMet cw ⟨hbl, hcell, hpre⟩ (g := F0 m pc ls ((Value.ref b :: As').reverse ++ rest)) rfl (by simp at hlen; omega) hls (by simp) (ck_lroom hsum) hdg ⟨hc, hs⟩
theorem ck_gU {Ts : List Cond} {own C owner : String} {idx : Nat} {x y : MethodName} {cc' : ByteArray} {nL' : Nat} {ret : Option FieldType} (hg : ck_gd Ts) (hw : ∀ w ∈ ([.methodLink own idx x, .sameMethod x.cls owner x.name x.desc, .selects C x y, .instanceMethod y, .initialized y.cls] : List Cond), w ∈ Ts) (hc : Cond.code y cc' nL' ret ∈ Ts) : GoodIn Ts (va_wsU own idx C owner x y (.code y cc' nL' ret :: Ts)) := ck_good hg (fun w hww => by
    rcases List.mem_append.mp hww with q | q
    · exact hw _ q
    · rcases List.mem_cons.mp q with rfl | q
      · exact hc
      · exact q)
theorem ck_gO {Ts : List Cond} {own C owner : String} {idx : Nat} {x y : MethodName} {cc' : ByteArray} {nL' : Nat} {ret : Option FieldType} (hg : ck_gd Ts) (hw : ∀ w ∈ ([.methodLink own idx x, .sameMethod x.cls owner x.name x.desc, .selects C x y, .instanceMethod y, .initialized y.cls] : List Cond), w ∈ Ts) (hi : Cond.instanceMethod ⟨owner, x.name, x.desc⟩ ∈ Ts) (hc : Cond.code y cc' nL' ret ∈ Ts) : GoodIn Ts (va_wsO own idx C owner x y (.code y cc' nL' ret :: Ts)) := ck_good hg (fun w hww => by
    rcases List.mem_append.mp hww with q | q
    · simp only [List.mem_cons, List.not_mem_nil, or_false] at q
      rcases q with rfl | rfl | rfl | rfl | rfl | rfl <;> first | exact hi | exact hw _ (by simp)
    · rcases List.mem_cons.mp q with rfl | q
      · exact hc
      · exact q)
/-- super.m(..) -/
theorem ck_cs_SU {rr : fR} {y : MethodName} {cc' : ByteArray} {nL' idx : Nat} {ret : Option FieldType} {rm : Room} {C : ck_C} {t na ci : Nat} {r : vw_C} (hmet : ck_met V l y cc' nL' ret rm C rr) (hF : (Fc (3 * idx + 2)).1 = na ∧ ∀ (As : List Value) (ws : va_W) (sh : List Nat) (rv : Option Value) (ws' : va_W) (sh' : List Nat), (t ≠ 0 → ∃ v, As[0]? = some v ∧ ck_rf ws sh [t] v) → rr As ws sh rv ws' sh' → (Fc (3 * idx + 2)).2 As ws sh rv ws' sh') (X : ck_cx p l e R s m args below meth c cc own D V.1 tys M sc A) (hts : ∀ w ∈ V.2.2.2.2.1, w.before args s = true) (htl : tys.map Prod.snd = V.2.2.2.1) (hsw : sc.2.1.isSome = true) (hnc : ck_nq V s) (hM : mTT M = V.2.1 ∧ mSG M = V.2.2.1) (h5 : ck_ok5 C = true)
    (hg : ck_gd V.2.2.2.2.1) (hw : ∀ w ∈ ([.methodLink own idx y, .sameMethod y.cls y.cls y.name y.desc, .superclass own y.cls, .instanceMethod y, .initialized y.cls] : List Cond), w ∈ V.2.2.2.2.1) (hcd : Cond.code y cc' nL' ret ∈ V.2.2.2.2.1) (ht : t ≠ 0) (hci : ck_ty0 M t = some ci) (hr : V.1[ci]? = some r)
    (hd : y.name ≠ "<init>" ∧ (parseMethodDescriptor y.desc).map (fun d => d.parameters.length + 1) = some na) (hrm : rm.cells = C.2.2.2.1 ∧ rm.slots = C.2.2.2.2) (hR : rm.frames + 1 ≤ R.frames ∧ 8 + (nL' + 11) + rm.locals ≤ R.locals) :
    ck_cs Fc s0 p l e R s m args below meth c Q cc D V.1 tys M sc A (3 * idx + 2, t, na, C) := by
  refine ck_cs_gen hmet hF X htl hsw hnc hM h5 ?_
  intro pc ls ws sh H locs cells slots As rest Pc Qc free hdg hls hlen hrec hwo hP hsum hc hs hMet hbl hpre
  obtain ⟨b, As', rfl, hcell⟩ := ck_recv X hwo hP ht hci hr hrec
  obtain ⟨n, hn1, hn2⟩ : ∃ n, (parseMethodDescriptor y.desc).map (fun d => d.parameters.length) = some n ∧ na = n + 1 := by
    cases hp : parseMethodDescriptor y.desc with
    | none => rw [hp] at hd; cases hd.2
    | some d => rw [hp] at hd; exact ⟨d.parameters.length, rfl, (Option.some.inj hd.2).symm⟩
  rw [ck_ik2] at hdg
  have hGi : GoodIn V.2.2.2.2.1 (va_wsSU own idx y (.code y cc' nL' ret :: V.2.2.2.2.1)) := ck_good hg (fun w hww => by
    rcases List.mem_append.mp hww with q | q
    · exact hw _ q
    · rcases List.mem_cons.mp q with rfl | q
      · exact hcd
      · exact q)
  exact va_runSU (rest := rest) (X.2.2.2.1.1 ci r hr).2 ⟨X.1, X.2.1, X.2.2.2.2.2.1, X.2.2.1, hts⟩ hMet (va_cwSU n hts hGi rfl hrm.1 hrm.2 ⟨hd.1, hn1⟩ hR) ⟨hbl, hcell, hpre⟩ (g := F0 m pc ls ((Value.ref b :: As').reverse ++ rest)) rfl (by simp at hlen; omega) hls (by simp) (ck_lroom hsum) hdg ⟨hc, hs⟩
/-- Object.<init> -/
def ck_oC (t : Nat) : ck_C := (([(2, 1, [t])], [], [(0, 0), (1, 0)], []), [([], [], [(1, 0), (1, 0)], [])], [], 0, 0)
/-- nothing happens -/
def f_nop : fR := fun _ ws sh rv ws' sh' => rv = none ∧ ws' = ws ∧ sh' = sh
theorem ck_cs_O {idx t : Nat} (hF : Fc (3 * idx + 2) = (1, f_nop)) (X : ck_cx p l e R s m args below meth c cc own D V.1 tys M sc A) (hts : ∀ w ∈ V.2.2.2.2.1, w.before args s = true) (hw : ∀ w ∈ ([.methodLink own idx Lib.objectInit, .instanceMethod Lib.objectInit, .code Lib.objectInit ⟨#[0xb1]⟩ 1 none] : List Cond), w ∈ V.2.2.2.2.1) (hR : 1 ≤ R.frames ∧ 8 + 12 ≤ R.locals) :
    ck_cs Fc s0 p l e R s m args below meth c Q cc D V.1 tys M sc A (3 * idx + 2, t, 1, ck_oC t) := by
  intro pc ls n1 ws sh H locs cells slots As rest hdg hls hlen hn0 hpo hrec hwo hP hD hS hc hs hsum hk
  rw [ck_ik2] at hdg
  obtain ⟨v, As', rfl, h1, h2⟩ := ck_hd hpo.1
  cases As' with
  | cons _ _ => exact h2.elim
  | nil =>
    obtain ⟨-, -, q, a, e', t', rfl, -⟩ := h1.r rfl
    intro lg hlg hgr
    refine W.objInit X.1 X.2.1 X.2.2.1 (hts _ (hw _ (by simp))) (hts _ (hw _ (by simp))) (hts _ (hw _ (by simp))) (g := F0 m pc ls ([Value.ref a].reverse ++ rest)) rfl (hls.trans X.2.2.2.2.2.1.symm) (a := a) (rest := rest) rfl hdg hR.1 (by show 2 * 0 + _ + 12 ≤ _; omega) ?_
    exact hk _ List.mem_cons_self none n1 ws sh H locs (fun _ _ => rfl) hwo ck_ex.rf hP hD hS ⟨trivial, fun _ h => (List.not_mem_nil h).elim, fun k z hz hle => by
      rcases k with _ | _ | k
      · have := Option.some.inj hz; subst this; exact absurd hle (by decide)
      · have := Option.some.inj hz; subst this; exact absurd hle (by decide)
      · exact absurd hz (by simp [ck_oC]), fun _ h => (List.not_mem_nil h).elim⟩ lg hlg (hgr.nx X.2.1 hdg ⟨[.ref a], rest, none, ws, sh, rfl, by show _ = (Fc (3 * idx + 2)).1; rw [hF]; rfl, by show (Fc (3 * idx + 2)).2 _ _ _ _ _ _; rw [hF]; exact ⟨rfl, rfl, rfl⟩, rfl⟩)
end
end
noncomputable section
/-! a static method that the named class inherits; System.arraycopy of longs -/
section
theorem ck_coldS {Q : Unit → Pre} {E : CtlPost} {e : Env} {d : Bool} {acts : List Action} {s s₀ : State} {f : JFrame} {index ci n c : Nat} {m : MethodId} {dk ck : Class} {cf : ClassFile} {name desc : String} (ht : s.topJava?.isSome) (hp : e.platform.polymorphicOnlyByInvokevirtual = true)
    (hW : s₀.WarmedH s.vm) (hE : s₀.MethodEntryUp e s.vm f.method.cls index c m ci) (hd : s₀.vm.classes[f.method.cls]? = some dk) (hcf : dk.cf = some cf) (hcp : cf.constantPool[index]? = some (if false then .interfaceMethodref ci n else .methodref ci n)) (hnt : cf.constantPool.nameAndType? n = some (name, desc))
    (hck : s₀.vm.classes[c]? = some ck) (hno : (ck.methods.any fun x => x.name == name && !x.isStatic && signaturePolymorphic ck x) = false) :
    wp (invokestatic.sem index) Q E e d acts (s.setTop f) ↔ wp (invokestatic.sem index) Q E e d acts ((s.setVm (s.vm.calledUp f.method.cls ci index c m)).setTop f) := by
  have hF := hE.classFirst
  have tn : (s.setVm (s.vm.noted f.method.cls ci (.cls c))).topJava?.isSome := ht
  have tc : (s.setVm (s.vm.calledUp f.method.cls ci index c m)).topJava?.isSome := ht
  obtain ⟨d0, hd0, ed0⟩ := hW.alike.2.2 _ _ hd
  obtain ⟨d2, hd2, ed2⟩ := hE.warmed.alike.2.2 _ _ hd
  obtain ⟨k1, hk1, ek1⟩ := hF.2.2.1.alike.2.2 _ _ hck
  obtain ⟨k2, hk2, ek2⟩ := hE.warmed.alike.2.2 _ _ hck
  have b0 := memberRef_ask_via (e := e) hd0 (by rw [ed0]; exact hcf) hcp hnt
  have b2 := memberRef_ask_via (e := e) hd2 (by rw [ed2]; exact hcf) hcp hnt
  have no1 : (k1.methods.any fun x => x.name == name && !x.isStatic && signaturePolymorphic k1 x) = false := by rw [ek1]; exact hno
  have no2 : (k2.methods.any fun x => x.name == name && !x.isStatic && signaturePolymorphic k2 x) = false := by rw [ek2]; exact hno
  have L : ∀ {Q' : ClassId → Pre} {d' : Bool} {a' : List Action}, wp (Jvm.resolveClassAt ci) Q' E e d' a' (s.setTop f) ↔ Q' c d' a' ((s.setVm (s.vm.noted f.method.cls ci (.cls c))).setTop f) := W.resolveClassAt_links (t := s.setTop f) (State.method?_setTop f ht) hF.1
  have Mt : ∀ {Q' : MethodId → Pre} {d' : Bool} {a' : List Action}, wp (Jvm.resolveMethodAt index) Q' E e d' a' ((s.setVm (s.vm.noted f.method.cls ci (.cls c))).setTop f) ↔ Q' m d' a' ((s.setVm (s.vm.calledUp f.method.cls ci index c m)).setTop f) := W.resolveMethodAt_links (t := (s.setVm (s.vm.noted f.method.cls ci (.cls c))).setTop f) (State.method?_setTop f tn) hF.2.2.2
  simp [invokestatic.sem, hp, Seam.memberRefOf, State.method?_setTop f ht, State.method?_setTop f tc, b0, b2, L, W.resolveClassAt_ready (s := (s.setVm (s.vm.calledUp f.method.cls ci index c m)).setTop f) (State.method?_setTop f tc) hE.classReady, hk1, hk2, no1, no2, Mt, W.resolveMethodAt_ready (s := (s.setVm (s.vm.calledUp f.method.cls ci index c m)).setTop f) (State.method?_setTop f tc) hE.ready, -Array.any_eq_true]
variable {Fc : Nat → Nat × fR} {s0 : fS} {p : Program} {l : Launch} {e : Env} {R : Room} {s : State} {m : MethodId} {args : Array Value} {below : List Frame} {meth : Method} {c : Code} {T : State} {locs : List Loc} {cells slots : Nat}
theorem ck_stUp (X : Stand p l e R s m args below meth c T locs cells slots) (hexec : p.tables.exec = Jvm.exec)
    {own : String} {index : Nat} {x y : MethodName} (hown : s.vm.findClass own = some m.cls) (hlink : (Cond.methodLink own index x).before args s = true) (hyx : y = ⟨y.cls, x.name, x.desc⟩)
    (hsame : (Cond.sameMethod x.cls y.cls x.name x.desc).before args s = true) (hy : y.cls ≠ "java/lang/invoke/MethodHandle" ∧ y.cls ≠ "java/lang/invoke/VarHandle")
    {mk : MethodId} {methM : Method} {kP : Class} (hn : s.methodNamed? y = some mk) (hmk : s.vm.method? mk = some methM) (hst : methM.isStatic = true) (hkP : s.vm.classes[mk.cls]? = some kP) (hini : kP.init = .initialized)
    {g : JFrame} (hg : g.method = m) {As rest : List Value} (hlen : As.length = methM.sig.parameters.length) (hstack : g.stack = As.reverse ++ rest) (hdg : decode c.code g.pc = .ok (.invokestatic index, 3)) :
    ∃ vm', Stand p l e R s m args below meth c (T.setVm vm') locs cells slots ∧
      ∀ target, (∀ acts, Steps p.tables e below (doInvoke e ((T.setVm vm').setTop { g with stack := rest }) acts mk As.toArray).1 target) → Steps p.tables e below (T.setTop g) target := by
  have adm := X.admits.platform
  obtain ⟨cn, ck, r1, hcn, hck, hni, hf, hn1⟩ := Cond.sameMethod_found hsame
  rw [← hyx] at hn1
  cases hn.symm.trans hn1
  obtain ⟨ci, hl, hright⟩ := Cond.methodLink_specUp hown hcn hck hni hf hlink e.platform (by rw [adm]) (by rw [adm])
  have hE : s.MethodEntryUp e T.vm m.cls index cn mk ci := State.methodEntryUp X.warmed hl hright
  obtain ⟨ky, hky, hnm⟩ := className_of_methodNamed hn
  cases hkP.symm.trans hky
  obtain ⟨dk, cf, nt, mname, mdesc, ck', -, -, hd, hcf, hcp, hnt, -, -, hck', -, hnp, -⟩ := hl.here
  cases hck.symm.trans hck'
  have al := hE.warmed.alike
  obtain ⟨d2, hd2, ed2⟩ := al.2.2 _ _ hd
  obtain ⟨p2, hp2, ep2⟩ := al.2.2 _ _ hkP
  obtain ⟨k2, hk2, ek2⟩ := al.2.2 _ _ hck
  have hno : (ck.methods.any fun y => y.name == mname && !y.isStatic && signaturePolymorphic ck y) = false := by simp [hnp]
  have hcp' : cf.constantPool[index]? = some (if false then .interfaceMethodref ci nt else .methodref ci nt) := hcp
  refine ⟨T.vm.calledUp m.cls ci index cn mk, X.noted hE.warmed, fun target hrest => ?_⟩
  subst hg
  jvm_step X.here [hexec, hdg, ck_coldS (e := e) (s := T) (s₀ := s) (f := g) X.here.top (by rw [adm]) X.warmed hE hd hcf hcp' hnt hck hno,
    invokestatic.wp_ready (e := e) (s := T.setVm (T.vm.calledUp g.method.cls ci index cn mk)) (k := p2) (meth := methM) (m := mk) (args := As) (rest := rest) (f := g)
      X.here.top ⟨ci, mname, mdesc, false, cn, k2, memberRef_ask_via (e := e) hd2 (by rw [ed2]; exact hcf) hcp' hnt, hE.classReady, hk2, by rw [ek2]; exact hno⟩ hE.ready hp2
      (by show (T.vm.calledUp g.method.cls ci index cn mk).method? mk = some methM; rw [al.method?]; exact hmk)
      (by rw [ep2]; show signaturePolymorphic kP methM = false; simp [signaturePolymorphic, hnm, hy.1, hy.2]) hst (by rw [ep2]; exact hini) hlen hstack]
  exact fun acts => hrest _
end
section
variable {Fc : Nat → Nat × fR} {s0 : fS} {p : Program} {l : Launch} {e : Env} {R : Room} {s : State} {m : MethodId} {args : Array Value} {below : List Frame} {meth : Method} {c : Code} {Q : State → Prop} {cc : ByteArray} {own : String} {D : va_G} {tys : List (ClassId × FieldType)} {M : ck_Me} {sc : ck_sc} {A : Nat → Prop} {V : ck_Wd}
theorem ck_runSI {H : Heap} {locs : List Loc} {cells slots : Nat} {x y : MethodName} {bytes cc : ByteArray} {maxL nL mc ms n index : Nat} {ret : Option FieldType} {ws : List Cond} {rm : Room} {Pc : Array Value → State → Prop} {Qc : Array Value → State → Outcome → State → Prop} {free : Addr → Prop} {Ts : List Cond} {own : String} {As rest : List Value} {g : JFrame}
    (S : CallFix p m c cc nL s args Ts own) (hM : Met l y ws rm Pc Qc mc ms free) (hbk : rm.cells = mc ∧ rm.slots = ms ∧ rm.frames + 1 ≤ R.frames ∧ 8 + (maxL + 11) + rm.locals ≤ R.locals ∧ (∀ w ∈ ws, ∀ (a' : Array Value) (U : State), s.WarmedH U.vm → w.before a' U = true) ∧ Cond.code y bytes maxL ret ∈ ws) (hlink : (Cond.methodLink own index x).before args s = true) (hsame : (Cond.sameMethod x.cls y.cls x.name x.desc).before args s = true) (hyx : y = ⟨y.cls, x.name, x.desc⟩)
    (hst : (Cond.static y).before args s = true) (hini : (Cond.initialized y.cls).before args s = true) (hcode : (Cond.code y bytes maxL ret).before args s = true) (hy : y.cls ≠ "java/lang/invoke/MethodHandle" ∧ y.cls ≠ "java/lang/invoke/VarHandle") (hle : ∀ sig, parseMethodDescriptor y.desc = some sig → n = sig.parameters.length) (hp : PreS s H Pc As)
    (hg : g.method = m) (hn : As.length = n) (hsize : g.locals.size = nL) (hstack : g.stack = As.reverse ++ rest) (hW : 2 * g.monitorRoom + (rest.map fun v => v.category).sum ≤ 8) (hdg : decode cc g.pc = .ok (.invokestatic index, 3)) (hf : cells + mc ≤ R.cells ∧ slots + ms ≤ R.slots) :
    va_Run p l e R s m args below meth c H locs cells slots mc ms g rest (Qc As.toArray) (free) := by
  obtain ⟨hrc, hrs, hfr, hlo, hws, hcw⟩ := hbk
  have hK : Back l R p e below s args y 3 8 (PreOf R mc ms Pc) (PostOf Qc mc ms free) := back_of (bytes := bytes) (maxL := maxL) (ret := ret) hM hp.1 hrc hrs hfr hlo hws hcw (fun a' U hW => word_at hW (Or.inl (by first | rfl | simp [Cond.onTables, Cond.keeps, Cond.steady])) hini)
  obtain ⟨hx, hb, hml, ho, -⟩ := S
  obtain ⟨mk, hnamed⟩ := Cond.code_named hcode
  obtain ⟨methM, cM, hmethM, -, -, -, -, -, -, hsigM⟩ := Cond.code_spec hnamed hcode
  have hstatic : methM.isStatic = true := Cond.static_spec hnamed hmethM hst
  obtain ⟨kP, hkP, -⟩ := className_of_methodNamed hnamed
  have hinitP : kP.init = .initialized := Cond.initialized_spec (findClass_of_methodNamed hnamed) hkP hini
  intro T hT X
  obtain ⟨vm₁, X₁, hstep₁⟩ := ck_stUp X hx ho hlink hyx hsame hy hnamed hmethM hstatic hkP hinitP (g := g) hg (As := As) (rest := rest) (hn.trans (hle _ hsigM)) hstack (by rw [hb]; exact hdg)
  obtain ⟨v, B, X', hpost, hsteps⟩ := hK m meth c ⟨T.setVm vm₁, locs, cells, slots⟩ { g with stack := rest } (.invokestatic index) mk As.toArray X₁ hg (hsize.trans hml.symm) (by rw [hb]; exact hdg) hW (X₁.named hnamed) ⟨hf.1, hf.2, hp.2 (T.setVm vm₁) hT X₁.warmed⟩
  obtain ⟨U', l2, c2, s2⟩ := B
  obtain ⟨g', mk', t, L, e1, e2, hq, h1, hL, h2, h3⟩ := hpost
  dsimp only [Pt.U, Pt.locs, Pt.cells, Pt.slots] at X' e1 e2 h1 h2 h3 hsteps
  subst h1; subst h2; subst h3
  exact ⟨v, (T.setVm vm₁).calling g' mk' As.toArray, t, U', L, hT, X', hL, e1, e2, hq, fun target h => hstep₁ _ fun acts => by rw [doInvoke_state]; exact hsteps.trans h⟩
theorem ck_cs_SI {rr : fR} {x y : MethodName} {cc' : ByteArray} {nL' idx : Nat} {ret : Option FieldType} {rm : Room} {C : ck_C} {na : Nat} (hmet : ck_met V l y cc' nL' ret rm C rr) (hF : (Fc (3 * idx + 1)).1 = na ∧ ∀ (As : List Value) (ws : va_W) (sh : List Nat) (rv : Option Value) (ws' : va_W) (sh' : List Nat), (0 ≠ 0 → ∃ v, As[0]? = some v ∧ ck_rf ws sh [0] v) → rr As ws sh rv ws' sh' → (Fc (3 * idx + 1)).2 As ws sh rv ws' sh') (X : ck_cx p l e R s m args below meth c cc own D V.1 tys M sc A) (hts : ∀ w ∈ V.2.2.2.2.1, w.before args s = true) (htl : tys.map Prod.snd = V.2.2.2.1) (hsw : sc.2.1.isSome = true) (hnc : ck_nq V s) (hM : mTT M = V.2.1 ∧ mSG M = V.2.2.1) (h5 : ck_ok5 C = true)
    (hg : ck_gd V.2.2.2.2.1) (hyx : y = ⟨y.cls, x.name, x.desc⟩) (hw : ∀ w ∈ ([.methodLink own idx x, .sameMethod x.cls y.cls x.name x.desc, .static y, .initialized y.cls, .code y cc' nL' ret] : List Cond), w ∈ V.2.2.2.2.1)
    (hd : y.cls ≠ "java/lang/invoke/MethodHandle" ∧ y.cls ≠ "java/lang/invoke/VarHandle" ∧ (parseMethodDescriptor y.desc).map (fun d => d.parameters.length) = some na) (hrm : rm.cells = C.2.2.2.1 ∧ rm.slots = C.2.2.2.2) (hR : rm.frames + 1 ≤ R.frames ∧ 8 + (nL' + 11) + rm.locals ≤ R.locals) :
    ck_cs Fc s0 p l e R s m args below meth c Q cc D V.1 tys M sc A (3 * idx + 1, 0, na, C) := by
  refine ck_cs_gen hmet hF X htl hsw hnc hM h5 ?_
  intro pc ls ws sh H locs cells slots As rest Pc Qc free hdg hls hlen hrec hwo hP hsum hc hs hMet hbl hpre
  rw [ck_ik1] at hdg
  have hGi : GoodIn V.2.2.2.2.1 (.code y cc' nL' ret :: V.2.2.2.2.1) := ck_good hg (fun w hww => by
    rcases List.mem_cons.mp hww with rfl | q
    · exact hw _ (by simp)
    · exact q)
  exact ck_runSI (Ts := V.2.2.2.2.1) (rest := rest) (n := na) ⟨X.1, X.2.1, X.2.2.2.2.2.1, X.2.2.1, hts⟩ hMet ⟨hrm.1, hrm.2, hR.1, hR.2, pay_in hts hGi, List.mem_cons_self⟩ (hts _ (hw _ (by simp))) (hts _ (hw _ (by simp))) hyx (hts _ (hw _ (by simp))) (hts _ (hw _ (by simp))) (hts _ (hw _ (by simp))) ⟨hd.1, hd.2.1⟩ (fun sig h => by
    have h2 := hd.2.2
    rw [h] at h2
    exact (Option.some.inj h2).symm) ⟨hbl, hpre⟩ (g := F0 m pc ls (As.reverse ++ rest)) rfl hlen hls rfl (ck_lroom hsum) hdg ⟨hc, hs⟩
/-- System.arraycopy(a, 0, b, 0, n) of longs -/
def ck_yC (t0 t1 : Nat) (mx : Int) : ck_C := (([(2, 1, [t0]), (0, 2, []), (2, 3, [t1]), (0, 4, []), (0, 5, [])], [], [(0, 0), (1, 0), (0, 0), (1, 0), (0, 0), (0, mx)], []), [([], [], [(1, 0), (1, 0), (1, 0), (1, 0), (1, 0), (1, 0)], [])], [(t1, 0)], 0, 0)
/-- what is copied -/
def f_cpl : fR := fun As ws sh rv ws' sh' => ∃ (a0 a1 : Nat) (sp dp n : Int32) (q0 q1 n0 n1 : Nat) (c0 c1 : ClassId) (f g : Nat → Int64), As = [.ref a0, .int sp, .ref a1, .int dp, .int n] ∧ ws[q0]? = some (a0, .inl (c0, n0, .inr (.inl f))) ∧ ws[q1]? = some (a1, .inl (c1, n1, .inr (.inl g))) ∧ rv = none ∧ sh' = sh ∧ ws' = ws.set q1 (a1, .inl (c1, n1, .inr (.inl (va_cpy f g sp.toNatClampNeg dp.toNatClampNeg n.toNatClampNeg))))
def f_cpi : fR := fun As ws sh rv ws' sh' => ∃ (a0 a1 : Nat) (sp dp n : Int32) (q0 q1 n0 n1 : Nat) (c0 c1 : ClassId) (f g : Nat → Int32), As = [.ref a0, .int sp, .ref a1, .int dp, .int n] ∧ ws[q0]? = some (a0, .inl (c0, n0, .inl f)) ∧ ws[q1]? = some (a1, .inl (c1, n1, .inl g)) ∧ rv = none ∧ sh' = sh ∧ ws' = ws.set q1 (a1, .inl (c1, n1, .inl (va_cpy f g sp.toNatClampNeg dp.toNatClampNeg n.toNatClampNeg)))
theorem ck_cs_Y {idx : Nat} (hF : Fc (3 * idx + 1) = (5, f_cpl)) (X : ck_cx p l e R s m args below meth c cc own D V.1 tys M sc A) (hts : ∀ w ∈ V.2.2.2.2.1, w.before args s = true) {t0 t1 : Nat} {mx : Int} {n0 n1 k0 k1 : Nat} {F0' F1' : List ck_T} (htl : tys.map Prod.snd = V.2.2.2.1) (h0 : (mTT M)[t0]? = some (2, n0, k0, F0')) (h1 : (mTT M)[t1]? = some (2, n1, k1, F1')) (hmn : 0 ≤ mx) (hm0 : mx ≤ (n0 : Int)) (hm1 : mx ≤ (n1 : Int)) (hw : ∀ w ∈ ([.methodLink own idx arraycopyName, .native arraycopyName, .static arraycopyName, .initialized "java/lang/System"] : List Cond), w ∈ V.2.2.2.2.1) (hR : 1 ≤ R.frames ∧ 60 ≤ R.locals) :
    ck_cs Fc s0 p l e R s m args below meth c Q cc D V.1 tys M sc A (3 * idx + 1, 0, 5, ck_yC t0 t1 mx) := by
  intro pc ls nn ws sh H locs cells slots As rest hdg hls hlen hn0 hpo hrec hwo hP hD hS hc hs hsum hk
  rw [ck_ik1] at hdg
  have hnf : nativeFrameWords "java/lang/System" "arraycopy" 5 + 11 ≤ 52 := by decide +kernel
  obtain ⟨v0, As, rfl, w0, g⟩ := ck_hd hpo.1
  obtain ⟨v1, As, rfl, w1, g⟩ := ck_hd g
  obtain ⟨v2, As, rfl, w2, g⟩ := ck_hd g
  obtain ⟨v3, As, rfl, w3, g⟩ := ck_hd g
  obtain ⟨v4, As, rfl, w4, g⟩ := ck_hd g
  cases As with
  | cons _ _ => exact g.elim
  | nil =>
    have E := hpo.2.2.1
    obtain ⟨-, -, q0, a0, e0, u0, rfl, hq0, hu0, hm0'⟩ := w0.r rfl
    obtain ⟨-, -, q1, a1, e1, u1, rfl, hq1, hu1, hm1'⟩ := w2.r rfl
    rw [List.mem_singleton.mp hm0'] at hu0
    rw [List.mem_singleton.mp hm1'] at hu1
    obtain ⟨-, sp, rfl, hsp⟩ := w1.i rfl
    obtain ⟨-, dp, rfl, hdp⟩ := w3.i rfl
    obtain ⟨-, n, rfl, hn⟩ := w4.i rfl
    have E2 := E 2 (0, 0) rfl (by decide)
    have E4 := E 4 (0, 0) rfl (by decide)
    obtain ⟨td0, g0, c0⟩ := hwo.2.1 q0 a0 e0 t0 hq0 hu0
    obtain ⟨td1, g1, c1⟩ := hwo.2.1 q1 a1 e1 t1 hq1 hu1
    have e0' : td0 = (2, n0, k0, F0') := Option.some.inj (g0.symm.trans h0)
    have e1' : td1 = (2, n1, k1, F1') := Option.some.inj (g1.symm.trans h1)
    subst e0' e1'
    have c1' := c1
    obtain ⟨cA0, f0, y0, rfl⟩ := c0
    obtain ⟨cA1, f1, y1, rfl⟩ := c1
    have s1 : sp.toInt = 0 := by have a := E2.1; have b := E2.2; rw [← hsp] at a b; exact Int.le_antisymm b a
    have s2 : dp.toInt = 0 := by have a := E4.1; have b := E4.2; rw [← hdp] at a b; exact Int.le_antisymm b a
    have sz : sp.toNatClampNeg = 0 := by show sp.toInt.toNat = 0; omega
    have dz : dp.toNatClampNeg = 0 := by show dp.toInt.toNat = 0; omega
    have nneg : ∀ z : Int32, 0 ≤ z.toInt → ¬ z < 0 := fun z hz => by rw [Int32.lt_iff_toInt_lt]; simpa using hz
    have c5 := E 5 (0, mx) rfl hmn
    rw [← hn] at c5
    have nz : (n.toNatClampNeg : Int) = n.toInt := Int.toNat_of_nonneg c5.1
    intro lg hlg hgr
    refine va_copyl (rest := rest) X.1 X.2.1 (X.2.2.2.2.2.1.trans hls.symm) X.2.2.1 (hts _ (hw _ (by simp))) (hts _ (hw _ (by simp))) (hts _ (hw _ (by simp))) (hts _ (hw _ (by simp))) X.2.2.2.1 hP hD hS q0 q1 k0 k1 hq0 hq1 y0 y1 rfl (nneg _ (by omega)) (nneg _ (by omega)) (nneg _ c5.1) (show sp.toNatClampNeg + n.toNatClampNeg ≤ n0 by omega) (show dp.toNatClampNeg + n.toNatClampNeg ≤ n1 by omega) (fun _ _ => rfl) hR.1 (by omega) hdg (fun H1 locs1 P1 D1 S1 => ?_)
    obtain ⟨W1, W2⟩ := ck_wo_set (Wr := [(t1, 0)]) (e' := .inl (cA1, n1, .inr (.inl (va_cpy f0 f1 sp.toNatClampNeg dp.toNatClampNeg n.toNatClampNeg)))) hwo hq1 hu1 (fun z => absurd (List.mem_singleton.mpr rfl) z) h1 ⟨cA1, _, y1, rfl⟩
    exact hk _ List.mem_cons_self none nn _ sh H1 locs1 (fun _ _ => rfl) W1 W2 P1 D1 S1 ⟨trivial, fun _ h => (List.not_mem_nil h).elim, fun k z hz hle => by
      have hz' : ([(1, 0), (1, 0), (1, 0), (1, 0), (1, 0), (1, 0)] : List (Int × Int))[k]? = some z := hz
      have hzm := List.mem_of_getElem? hz'
      simp at hzm
      rw [hzm] at hle
      exact absurd hle (by decide), fun _ h => (List.not_mem_nil h).elim⟩ lg hlg (hgr.nx X.2.1 hdg ⟨[.ref a0, .int sp, .ref a1, .int dp, .int n], rest, none, _, sh, rfl, by show _ = (Fc (3 * idx + 1)).1; rw [hF]; rfl, by show (Fc (3 * idx + 1)).2 _ _ _ _ _ _; rw [hF]; exact ⟨a0, a1, sp, dp, n, q0, q1, n0, n1, cA0, cA1, f0, f1, rfl, hq0, hq1, rfl, rfl, rfl⟩, rfl⟩)
end
end
noncomputable section
/-! steps proved by hand: reads and writes of an array of which notes speak -/
abbrev ck_tn (SG : List Nat) (ws : va_W) (sh : List Nat) (n : ck_N) (N : Nat) (x : ck_M) : Prop :=
  20 ≤ x.2.2.1 ∧ x.1 ≠ 0 ∧ x.1 ∈ SG ∧ x.2.1 = 0 ∧ x.2.2.2.1 < N ∧ (∀ j ∈ x.2.2.2.2, j < N) ∧ ∃ (q a : Nat) (cA : ClassId) (len : Nat) (f : Nat → Int32), sh[q]? = some x.1 ∧ ws[q]? = some (a, .inl (cA, len, .inl f)) ∧ ck_nt x.2.2.1 f (n x.2.2.2.1).1 (x.2.2.2.2.map (fun j => (n j).1))
section
variable {nL : Nat} {SG : List Nat} {S : ck_S} {n : ck_N} {ws : va_W} {sh : List Nat} {sc : ck_sc} {ls : Array Slot} {vs : List Value}
theorem ck_so.sym (h : ck_so nL SG S n ws sh sc ls vs) {iv : Int × Int} {rs : List ck_R} {z : Int} (hx : iv.1 ≤ iv.2 → iv.1 ≤ z ∧ z ≤ iv.2) (hr : ck_ro rs (ck_nx n S.2.2.2.1.length (z, .null)) (S.2.2.2.1.length + 1)) :
    ck_so nL SG (S.1, S.2.1, S.2.2.1, S.2.2.2.1 ++ [iv], rs ++ S.2.2.2.2.1, S.2.2.2.2.2) (ck_nx n S.2.2.2.1.length (z, .null)) ws sh sc ls vs := by
  have h1 := h.new h.2.2.1 (tag := 4) (ts := []) (iv := iv) (rs := rs) (x := (z, .null)) (v := .null) ⟨Nat.lt_succ_self _, by rw [ck_nx_eq], rfl⟩ hx hr
  exact h1.ss h1.2.2.1.2
theorem ck_so.nt {x : ck_M} (h : ck_so nL SG S n ws sh sc ls vs) (hx : ck_tn SG ws sh n S.2.2.2.1.length x) : ck_so nL SG (S.1, S.2.1, x :: S.2.2.1, S.2.2.2) n ws sh sc ls vs :=
  ⟨h.1, h.2.1, h.2.2.1, fun y hy => by
    rcases List.mem_cons.mp hy with rfl | hy
    · exact Or.inr (Or.inr hx)
    · exact h.2.2.2.1 y hy, h.2.2.2.2⟩
theorem ck_so.fl (h : ck_so nL SG S n ws sh sc ls vs) (p : ck_M → Bool) : ck_so nL SG (S.1, S.2.1, S.2.2.1.filter p, S.2.2.2) n ws sh sc ls vs :=
  ⟨h.1, h.2.1, h.2.2.1, fun y hy => h.2.2.2.1 y (List.mem_filter.mp hy).1, h.2.2.2.2⟩
theorem ck_mo.wr {t : Nat} {ws' : va_W} {N : Nat} {mem : List ck_M} (hx : ck_ex [(t, 0)] ws sh ws' sh) (h : ck_mo SG ws sh sc n N mem) : ck_mo SG ws' sh sc n N (mem.filter (fun m => !(m.1 == t))) := by
  intro z hz
  obtain ⟨hz, hf⟩ := List.mem_filter.mp hz
  rw [Bool.not_eq_true', beq_eq_false_iff_ne] at hf
  have hnw : (z.1, z.2.1) ∉ [(t, 0)] := fun w => by
    have := List.mem_singleton.mp w
    exact hf (congrArg Prod.fst this)
  rcases h z hz with q | ⟨z0, z1, q1, a1', o1', v1, z2, z3, z4, z5⟩ | hy
  · exact Or.inl q
  · obtain ⟨e', x1, x2⟩ := hx.2 q1 a1' _ z.1 z3 z2
    cases e' with
    | inl _ => exact x2.elim
    | inr oo => exact Or.inr (Or.inl ⟨z0, z1, q1, a1', oo, v1, z2, x1, by rw [x2.2 _ hnw]; exact z4, z5.mv hx⟩)
  · exact Or.inr (Or.inr (ck_mo.mv1 hx hnw hy))
theorem ck_so.wr {t : Nat} {ws' : va_W} {st : List ck_V} {vs' : List Value} (h : ck_so nL SG S n ws sh sc ls vs) (hs : ck_two (ck_vo ws sh sc n S.2.2.2.1.length) st vs') (hx : ck_ex [(t, 0)] ws sh ws' sh) : ck_so nL SG (S.1, st, S.2.2.1.filter (fun m => !(m.1 == t)), S.2.2.2) n ws' sh sc ls vs' :=
  ⟨h.1, h.2.1.mv hx, hs.imp fun _ _ z => z.mv hx, h.2.2.2.1.wr hx, h.2.2.2.2⟩
/-- a note of the signs, whose number is i - d -/
def ck_gf (F tS i : Nat) (d : Int) (S : ck_S) : Option (Nat × Nat × Nat × Nat) := S.2.2.1.findSome? (fun x => if x.1 == tS && (x.2.1 == 0 && (decide (20 ≤ x.2.2.1 ∧ x.2.2.1 < 30) && (ck_ent S.2.2.2.1 S.2.2.2.2.1 F i x.2.2.2.1 d && ck_ent S.2.2.2.1 S.2.2.2.2.1 F x.2.2.2.1 i (-d)))) then (match x.2.2.2.2 with
  | [c, o] => some (x.2.2.1, x.2.2.2.1, c, o)
  | _ => none) else none)
theorem ck_gf_ok {F tS i : Nat} {d : Int} (h : ck_so nL SG S n ws sh sc ls vs) {y : Nat × Nat × Nat × Nat} (hf : ck_gf F tS i d S = some y) (hu : ∀ t ∈ SG, ∀ q r : Nat, sh[q]? = some t → sh[r]? = some t → q = r) {q a : Nat} {e : va_E} (hq : ws[q]? = some (a, e)) (ht : sh[q]? = some tS) :
    tS ∈ SG ∧ tS ≠ 0 ∧ 20 ≤ y.1 ∧ y.1 < 30 ∧ y.2.1 < S.2.2.2.1.length ∧ y.2.2.1 < S.2.2.2.1.length ∧ y.2.2.2 < S.2.2.2.1.length ∧ (n i).1 = (n y.2.1).1 + d ∧ ∃ (cA : ClassId) (len : Nat) (f : Nat → Int32), e = .inl (cA, len, .inl f) ∧ ck_ng y.1 f (n y.2.1).1 [(n y.2.2.1).1, (n y.2.2.2).1] := by
  obtain ⟨x, hx, h1⟩ := List.exists_of_findSome?_eq_some hf
  split at h1
  · rename_i hc
    simp only [Bool.and_eq_true, beq_iff_eq, decide_eq_true_eq] at hc
    obtain ⟨c1, c2, c3, c4, c5⟩ := hc
    have p1 := ck_ent_ok h.2.2.2.2.1 h.2.2.2.2.2 F _ _ _ c4
    have p2 := ck_ent_ok h.2.2.2.2.1 h.2.2.2.2.2 F _ _ _ c5
    split at h1
    · rename_i c o hl
      have ey := Option.some.inj h1
      subst ey
      rcases h.2.2.2.1 x hx with ⟨-, -, ⟨z, -⟩ | ⟨z, -⟩⟩ | ⟨-, -, q1, a', oo, v, -, -, -, w⟩ | ⟨w0, w1, w2, w3, w4, w5, q1, a', cA, len, f, w6, w7, w8⟩
      · omega
      · omega
      · exfalso
        have w := w.2
        split at w <;> omega
      · rw [c1] at w1 w2 w6
        have eq := hu tS w2 q1 q w6 ht
        subst eq
        rw [hq] at w7
        have ee := congrArg Prod.snd (Option.some.inj w7)
        rw [hl] at w5 w8
        unfold ck_nt at w8
        rw [if_pos c3.2] at w8
        exact ⟨w2, w1, c3.1, c3.2, w4, w5 c (by simp), w5 o (by simp), by dsimp only; omega, cA, len, f, ee, w8⟩
    · cases h1
  · cases h1
/-- what a read of the sign on top says -/
def ck_G3 (tS i m c o : Nat) (s : Int) (len : Nat) (S : ck_S) (st : List ck_V) : ck_S :=
  (S.1, (0, S.2.2.2.1.length, []) :: st, (tS, 0, (21, i, [(S.2.2.2.1 ++ [(s, s)]).length, o])) :: (tS, 0, (22, m, [c, o])) :: S.2.2.1, (S.2.2.2.1 ++ [(s, s)]) ++ [(0, (len : Int))], [((S.2.2.2.1 ++ [(s, s)]).length, c, -1), (c, (S.2.2.2.1 ++ [(s, s)]).length, 1), ((S.2.2.2.1 ++ [(s, s)]).length, i, 0), (0, (S.2.2.2.1 ++ [(s, s)]).length, 0), (o, i, 0)] ++ S.2.2.2.2.1, S.2.2.2.2.2)
def ck_G40 (tS i m c o : Nat) (len : Nat) (S : ck_S) (st : List ck_V) : ck_S :=
  (S.1, (0, S.2.2.2.1.length, []) :: st, (tS, 0, (20, i, [c, (S.2.2.2.1 ++ [((40 : Int), (40 : Int))]).length])) :: (tS, 0, (21, m, [c, o])) :: S.2.2.1, (S.2.2.2.1 ++ [((40 : Int), (40 : Int))]) ++ [(0, (len : Int))], [((S.2.2.2.1 ++ [((40 : Int), (40 : Int))]).length, o, -1), (o, (S.2.2.2.1 ++ [((40 : Int), (40 : Int))]).length, 1), ((S.2.2.2.1 ++ [((40 : Int), (40 : Int))]).length, i, 0), (0, (S.2.2.2.1 ++ [((40 : Int), (40 : Int))]).length, 0), (c, i, 0)] ++ S.2.2.2.2.1, S.2.2.2.2.2)
def ck_G45 (tS i c o : Nat) (S : ck_S) (st : List ck_V) : ck_S :=
  (S.1, (0, S.2.2.2.1.length, []) :: st, (tS, 0, (20, i, [c, o])) :: S.2.2.1, S.2.2.2.1 ++ [(45, 45)], [(c, i, 0), (o, i, 0)] ++ S.2.2.2.2.1, S.2.2.2.2.2)
def ck_sGl (F tS len : Nat) (S : ck_S) : Option (List ck_S) := match S.2.1 with
  | i :: r :: st => if i.1 = 0 ∧ r.1 = 2 ∧ r.2.2 = [tS] ∧ ck_ent S.2.2.2.1 S.2.2.2.2.1 F 0 i.2.1 0 = true ∧ ck_ent S.2.2.2.1 S.2.2.2.2.1 F i.2.1 0 ((len : Int) - 1) = true then (match ck_gf F tS i.2.1 (-1) S with
    | some (tag, m, c, o) => some ([ck_G3 tS i.2.1 m c o 38 len S st, ck_G3 tS i.2.1 m c o 62 len S st, ck_G3 tS i.2.1 m c o 124 len S st] ++ ((if tag < 22 then [ck_G40 tS i.2.1 m c o len S st] else []) ++ (if tag < 21 then [ck_G45 tS i.2.1 c o S st] else [])))
    | none => none) else none
  | _ => none
theorem ck_cn_s (p : Int32 → Bool) (f : Nat → Int32) (k : Nat) : ck_cn p f (k + 1) = ck_cn p f k + if p (f k) = true then 1 else 0 := rfl
theorem ck_cn_le (p : Int32 → Bool) (f : Nat → Int32) : ∀ k, ck_cn p f k ≤ k
  | 0 => Nat.le_refl _
  | k + 1 => by
    have := ck_cn_le p f k
    unfold ck_cn
    split <;> omega
end
section
variable {Fc : Nat → Nat × fR} {s0 : fS} {p : Program} {l : Launch} {e : Env} {R : Room} {s : State} {m : MethodId} {args : Array Value} {below : List Frame} {meth : Method} {c : Code} {Q : State → Prop} {cc : ByteArray} {own : String} {D : va_G} {cl : List vw_C} {tys : List (ClassId × FieldType)} {M : ck_Me} {sc : ck_sc} {A : Nat → Prop} {ws0 : va_W} {sh0 : List Nat} {S : ck_S} {pc : Nat}
theorem ck_sGl_ok (X : ck_cx p l e R s m args below meth c cc own D cl tys M sc A) {F tS len k0 : Nat} {Ts : List ck_T} (hTT : (mTT M)[tS]? = some (1, len, k0, Ts)) {L : List ck_S} (h : ck_sGl F tS len S = some L) (hk : ∀ S' ∈ L, ck_g Fc s0 p l e R s m args below meth c Q D cl tys M sc A ws0 sh0 S' (pc + 1)) (hdg : decode cc pc = .ok (.iaload, 1)) : ck_g Fc s0 p l e R s m args below meth c Q D cl tys M sc A ws0 sh0 S pc := by
  intro n ws sh H locs ls vs o hw hx hP hD hS
  unfold ck_sGl at h
  split at h
  · rename_i i r st hst
    split at h
    · rename_i hc
      obtain ⟨hi0, hr2, hrt, hb1, hb2⟩ := hc
      split at h
      · rename_i tag m' c' o' hf
        have eL := Option.some.inj h
        have o3 := o.2.2.1
        rw [hst] at o3
        obtain ⟨iv, vs1, rfl, h2, h3⟩ := ck_hd o3
        obtain ⟨ra, vs2, rfl, h4, h5⟩ := ck_hd h3
        obtain ⟨hil, x, rfl, ex⟩ := h2.i hi0
        obtain ⟨-, -, q, a, e0, t, rfl, hq, ht, htm⟩ := h4.r hr2
        rw [hrt] at htm
        rw [List.mem_singleton.mp htm] at ht
        obtain ⟨g1, g2, g3, g4, g5, g6, g7, g8, cA, len1, f, rfl, hng⟩ := ck_gf_ok o hf hw.2.2 hq ht
        dsimp only at g3 g4 g5 g6 g7 g8 hng
        obtain ⟨td, d1, d2⟩ := hw.2.1 q a _ tS hq ht
        have etd : td = (1, len, k0, Ts) := Option.some.inj (d1.symm.trans hTT)
        subst etd
        obtain ⟨cA', f', t1, e1, -⟩ := d2
        cases e1
        have p1 := ck_ent_ok o.2.2.2.2.1 o.2.2.2.2.2 F _ _ _ hb1
        have p2 := ck_ent_ok o.2.2.2.2.1 o.2.2.2.2.2 F _ _ _ hb2
        rw [o.1.2] at p1 p2
        have p3 : 0 ≤ (n i.2.1).1 := by omega
        have hxn : x.toNatClampNeg = (n i.2.1).1.toNat := by show x.toInt.toNat = _; rw [ex]
        have hin : vp_in x len := by
          rintro (z | z)
          · have := Int32.lt_iff_toInt_lt.mp z
            rw [Int32.toInt_zero] at this
            omega
          · rw [hxn] at z
            omega
        obtain ⟨k, hkm⟩ : ∃ k, (n m').1.toNat = k + 1 := ⟨(n i.2.1).1.toNat, by omega⟩
        have hki : (n i.2.1).1.toNat = k := by omega
        unfold ck_ng at hng
        rw [hkm] at hng
        obtain ⟨n1, n2, n3, n4, n5, n6, n7⟩ := hng
        rw [Nat.add_sub_cancel] at n6 n7
        have n4' : ∀ j, j < k → ck_b3 (f j) = true ∨ f j = 40 ∨ f j = 45 := fun j hj => n4 j (by omega)
        have n5' : ∀ j, j + 1 < k → f j = 45 → f (j + 1) = 45 ∨ f (j + 1) = 40 := fun j hj => n5 j (by omega)
        refine WG.up (fun h => va_iald X.1 X.2.1 X.2.2.2.1 hP q _ hq t1 hin hdg h) X.2.1 hdg (fun lg => ⟨x, a, _, rfl, Or.inl ⟨ck_nsc X hD hq, q, _, cA, f, hq, ck_in_lt hin, rfl⟩⟩) ?_
        rw [hxn, hki]
        have hN1 : ∀ z : Int × Int, (S.2.2.2.1 ++ [z]).length = S.2.2.2.1.length + 1 := fun z => by simp
        -- the two numbers that are new
        have fin : ∀ (sv : Int) (w : Nat) (hwl : w < S.2.2.2.1.length) (u : Nat) (hul : u < S.2.2.2.1.length) (hu : (n u).1 ≤ (k : Int)) (S' : ck_S) (notes : List ck_M), S' ∈ L → (f k).toInt = sv → 1 ≤ (n w).1 → (n w).1 ≤ (k : Int) + 1 →
            S' = (S.1, (0, S.2.2.2.1.length, []) :: st, notes ++ S.2.2.1, (S.2.2.2.1 ++ [(sv, sv)]) ++ [(0, (len : Int))], [((S.2.2.2.1 ++ [(sv, sv)]).length, w, -1), (w, (S.2.2.2.1 ++ [(sv, sv)]).length, 1), ((S.2.2.2.1 ++ [(sv, sv)]).length, i.2.1, 0), (0, (S.2.2.2.1 ++ [(sv, sv)]).length, 0), (u, i.2.1, 0)] ++ S.2.2.2.2.1, S.2.2.2.2.2) →
            (∀ n2 : ck_N, (∀ j, j < S.2.2.2.1.length → n2 j = n j) → (n2 (S.2.2.2.1 ++ [(sv, sv)]).length).1 = (n w).1 - 1 → ∀ y ∈ notes, ck_tn (mSG M) ws sh n2 ((S.2.2.2.1 ++ [(sv, sv)]) ++ [(0, (len : Int))]).length y) →
            WG (tM M Fc sc.1) s0 p l e R s m args below meth c ws sh H locs (ck_oc R M + S.2.2.2.2.2.1) (ck_os R M + S.2.2.2.2.2.2) Q ((pc + 1), ls, (.int (f k) :: vs2)) := by
          intro sv w hwl u hul hu S' notes hS' hfv hw1 hw2 eS hnotes
          have o1 := o.new h5 (tag := 0) (ts := []) (iv := (sv, sv)) (rs := []) (x := ((f k).toInt, .null)) (v := .int (f k)) (.mi (Nat.lt_succ_self _) (by rw [ck_nx_eq])) (fun _ => by rw [hfv]; exact ⟨Int.le_refl _, Int.le_refl _⟩) (fun r hr => by cases hr)
          have hlt : ∀ j, j < S.2.2.2.1.length → ck_nx (ck_nx n S.2.2.2.1.length ((f k).toInt, .null)) (S.2.2.2.1 ++ [(sv, sv)]).length ((n w).1 - 1, .null) j = n j := fun j hj => by
            rw [ck_nx_lt j (by rw [hN1]; omega), ck_nx_lt j hj]
          have o2 := ck_so.sym (iv := (0, (len : Int))) (rs := [((S.2.2.2.1 ++ [(sv, sv)]).length, w, -1), (w, (S.2.2.2.1 ++ [(sv, sv)]).length, 1), ((S.2.2.2.1 ++ [(sv, sv)]).length, i.2.1, 0), (0, (S.2.2.2.1 ++ [(sv, sv)]).length, 0), (u, i.2.1, 0)]) (z := (n w).1 - 1) o1 (fun _ => ⟨by omega, by omega⟩) (by
            intro r hr
            show r.1 < (S.2.2.2.1 ++ [(sv, sv)]).length + 1 ∧ r.2.1 < (S.2.2.2.1 ++ [(sv, sv)]).length + 1 ∧ (ck_nx (ck_nx n S.2.2.2.1.length ((f k).toInt, .null)) (S.2.2.2.1 ++ [(sv, sv)]).length ((n w).1 - 1, .null) r.1).1 ≤ (ck_nx (ck_nx n S.2.2.2.1.length ((f k).toInt, .null)) (S.2.2.2.1 ++ [(sv, sv)]).length ((n w).1 - 1, .null) r.2.1).1 + r.2.2
            simp only [List.mem_cons, List.not_mem_nil, or_false] at hr
            rcases hr with rfl | rfl | rfl | rfl | rfl
            · refine ⟨Nat.lt_succ_self _, by rw [hN1]; dsimp only; omega, ?_⟩
              dsimp only
              rw [ck_nx_eq, hlt w hwl]
              dsimp only
              omega
            · refine ⟨by rw [hN1]; dsimp only; omega, Nat.lt_succ_self _, ?_⟩
              dsimp only
              rw [ck_nx_eq, hlt w hwl]
              dsimp only
              omega
            · refine ⟨Nat.lt_succ_self _, by rw [hN1]; dsimp only; omega, ?_⟩
              dsimp only
              rw [ck_nx_eq, hlt _ hil]
              dsimp only
              omega
            · refine ⟨by rw [hN1]; dsimp only; omega, Nat.lt_succ_self _, ?_⟩
              dsimp only
              rw [ck_nx_eq, hlt 0 o.1.1, o.1.2]
              dsimp only
              omega
            · refine ⟨by rw [hN1]; dsimp only; omega, by rw [hN1]; dsimp only; omega, ?_⟩
              dsimp only
              rw [hlt _ hul, hlt _ hil]
              omega)
          have o3' : ck_so (mnL M) (mSG M) S' (ck_nx (ck_nx n S.2.2.2.1.length ((f k).toInt, .null)) (S.2.2.2.1 ++ [(sv, sv)]).length ((n w).1 - 1, .null)) ws sh sc ls (.int (f k) :: vs2) := by
            rw [eS]
            refine ⟨o2.1, o2.2.1, o2.2.2.1, fun y hy => ?_, o2.2.2.2.2⟩
            rcases List.mem_append.mp hy with hy | hy
            · exact Or.inr (Or.inr (hnotes _ hlt (by rw [ck_nx_eq]) y hy))
            · exact o2.2.2.2.1 y hy
          exact (hk S' hS').at o3' hw hx hP hD hS (by rw [eS])
        have hlen2 : ∀ z : Int × Int, ((S.2.2.2.1 ++ [z]) ++ [(0, (len : Int))]).length = S.2.2.2.1.length + 2 := fun z => by simp
        rcases n4 k (Nat.lt_succ_self _) with hb | hb | hb
        · -- takes two values
          have hc1 : (n c').1 = (ck_cn ck_b3 f k : Int) + 1 := by
            rw [n2, ck_cn_s, if_pos hb]
            rfl
          have h40 : (f k == 40) = false := by
            cases h40 : (f k == 40) with
            | false => rfl
            | true =>
              rw [eq_of_beq h40] at hb
              exact absurd hb (by decide)
          have ho1 : (n o').1 = (ck_cn (fun x => x == 40) f k : Int) := by
            rw [n3, ck_cn_s, h40]
            simp
          have hle := ck_cn_le ck_b3 f k
          have hle2 := ck_cn_le (fun x => x == 40) f k
          have go : ∀ sv : Int, (f k).toInt = sv → ck_G3 tS i.2.1 m' c' o' sv len S st ∈ L → WG (tM M Fc sc.1) s0 p l e R s m args below meth c ws sh H locs (ck_oc R M + S.2.2.2.2.2.1) (ck_os R M + S.2.2.2.2.2.2) Q ((pc + 1), ls, (.int (f k) :: vs2)) := by
            intro sv hsv hmem
            refine fin sv c' g6 o' g7 (by omega) _ [(tS, 0, (21, i.2.1, [(S.2.2.2.1 ++ [(sv, sv)]).length, o'])), (tS, 0, (22, m', [c', o']))] hmem hsv (by omega) (by omega) rfl ?_
            intro n2' e1 e2 y hy
            simp only [List.mem_cons, List.not_mem_nil, or_false] at hy
            rcases hy with rfl | rfl
            · refine ⟨by dsimp only; omega, g2, g1, rfl, by rw [hlen2]; dsimp only; omega, fun j hj => ?_, q, a, cA, len, f, ht, hq, ?_⟩
              · simp only [List.mem_cons, List.not_mem_nil, or_false] at hj
                rcases hj with rfl | rfl
                · rw [hlen2, hN1]; omega
                · rw [hlen2]; omega
              · dsimp only [List.map]
                unfold ck_nt
                rw [if_pos (by decide), e1 _ hil, e2, e1 _ g7]
                refine ⟨p3, by rw [hki]; omega, by rw [hki]; exact ho1, by rw [hki]; exact n4', by rw [hki]; exact n5', fun _ hpos he => ?_, fun z => absurd z (by decide)⟩
                rw [hki] at hpos he
                have := n5 (k - 1) (by omega) he
                rw [show k - 1 + 1 = k by omega] at this
                rcases this with z | z
                · rw [z] at hb; exact absurd hb (by decide)
                · rw [z] at hb; exact absurd hb (by decide)
            · refine ⟨by dsimp only; omega, g2, g1, rfl, by rw [hlen2]; dsimp only; omega, fun j hj => ?_, q, a, cA, len, f, ht, hq, ?_⟩
              · simp only [List.mem_cons, List.not_mem_nil, or_false] at hj
                rcases hj with rfl | rfl
                · rw [hlen2]; omega
                · rw [hlen2]; omega
              · dsimp only [List.map]
                unfold ck_nt
                rw [if_pos (by decide), e1 _ g5, e1 _ g6, e1 _ g7]
                refine ⟨n1, by rw [hkm]; exact n2, by rw [hkm]; exact n3, by rw [hkm]; exact n4, by rw [hkm]; exact n5, fun _ _ he => ?_, fun _ => ⟨by omega, by rw [hkm]; exact hb⟩⟩
                rw [hkm, Nat.add_sub_cancel] at he
                rw [he] at hb
                exact absurd hb (by decide)
          have hb3 := hb
          unfold ck_b3 at hb3
          rw [Bool.or_eq_true, Bool.or_eq_true] at hb3
          rcases hb3 with z | z | z
          · exact go 38 (by rw [eq_of_beq z]; rfl) (by rw [← eL]; simp)
          · exact go 62 (by rw [eq_of_beq z]; rfl) (by rw [← eL]; simp)
          · exact go 124 (by rw [eq_of_beq z]; rfl) (by rw [← eL]; simp)
        · -- an open bracket
          have hnb : ck_b3 (f k) = false := by rw [hb]; decide
          have hc1 : (n c').1 = (ck_cn ck_b3 f k : Int) := by
            rw [n2, ck_cn_s, hnb]
            simp
          have ho1 : (n o').1 = (ck_cn (fun x => x == 40) f k : Int) + 1 := by
            rw [n3, ck_cn_s, hb]
            rfl
          have hle := ck_cn_le (fun x => x == 40) f k
          have htag : tag < 22 := by
            rcases Nat.lt_or_ge tag 22 with z | z
            · exact z
            · have := (n7 z).2
              rw [hnb] at this
              cases this
          refine fin 40 o' g7 c' g6 (by have := ck_cn_le ck_b3 f k; omega) (ck_G40 tS i.2.1 m' c' o' len S st) [(tS, 0, (20, i.2.1, [c', (S.2.2.2.1 ++ [((40 : Int), (40 : Int))]).length])), (tS, 0, (21, m', [c', o']))] (by rw [← eL, if_pos htag]; simp) (by rw [hb]; rfl) (by omega) (by omega) rfl ?_
          intro n2' e1 e2 y hy
          simp only [List.mem_cons, List.not_mem_nil, or_false] at hy
          rcases hy with rfl | rfl
          · refine ⟨by dsimp only; omega, g2, g1, rfl, by rw [hlen2]; dsimp only; omega, fun j hj => ?_, q, a, cA, len, f, ht, hq, ?_⟩
            · simp only [List.mem_cons, List.not_mem_nil, or_false] at hj
              rcases hj with rfl | rfl
              · rw [hlen2]; omega
              · rw [hlen2, hN1]; omega
            · dsimp only [List.map]
              unfold ck_nt
              rw [if_pos (by decide), e1 _ hil, e2, e1 _ g6]
              exact ⟨p3, by rw [hki]; exact hc1, by rw [hki]; omega, by rw [hki]; exact n4', by rw [hki]; exact n5', fun z => absurd z (by decide), fun z => absurd z (by decide)⟩
          · refine ⟨by dsimp only; omega, g2, g1, rfl, by rw [hlen2]; dsimp only; omega, fun j hj => ?_, q, a, cA, len, f, ht, hq, ?_⟩
            · simp only [List.mem_cons, List.not_mem_nil, or_false] at hj
              rcases hj with rfl | rfl
              · rw [hlen2]; omega
              · rw [hlen2]; omega
            · dsimp only [List.map]
              unfold ck_nt
              rw [if_pos (by decide), e1 _ g5, e1 _ g6, e1 _ g7]
              refine ⟨n1, by rw [hkm]; exact n2, by rw [hkm]; exact n3, by rw [hkm]; exact n4, by rw [hkm]; exact n5, fun _ _ he => ?_, fun z => absurd z (by decide)⟩
              rw [hkm, Nat.add_sub_cancel, hb] at he
              exact absurd he (by decide)
        · -- a turn
          have hnb : ck_b3 (f k) = false := by rw [hb]; decide
          have hc1 : (n c').1 = (ck_cn ck_b3 f k : Int) := by
            rw [n2, ck_cn_s, hnb]
            simp
          have ho1 : (n o').1 = (ck_cn (fun x => x == 40) f k : Int) := by
            rw [n3, ck_cn_s, hb]
            rfl
          have htag : tag < 21 := by
            rcases Nat.lt_or_ge tag 21 with z | z
            · exact z
            · exact absurd hb (n6 z (Nat.succ_pos _))
          have o1 := o.new h5 (tag := 0) (ts := []) (iv := (45, 45)) (rs := [(c', i.2.1, 0), (o', i.2.1, 0)]) (x := ((f k).toInt, .null)) (v := .int (f k)) (.mi (Nat.lt_succ_self _) (by rw [ck_nx_eq])) (fun _ => by rw [hb]; exact ⟨Int.le_refl _, Int.le_refl _⟩) (fun r hr => by
            have hle := ck_cn_le ck_b3 f k
            have hle2 := ck_cn_le (fun x => x == 40) f k
            simp only [List.mem_cons, List.not_mem_nil, or_false] at hr
            rcases hr with rfl | rfl
            · refine ⟨by dsimp only; omega, by dsimp only; omega, ?_⟩
              dsimp only
              rw [ck_nx_lt _ g6, ck_nx_lt _ hil]
              omega
            · refine ⟨by dsimp only; omega, by dsimp only; omega, ?_⟩
              dsimp only
              rw [ck_nx_lt _ g7, ck_nx_lt _ hil]
              omega)
          have o2 : ck_so (mnL M) (mSG M) (ck_G45 tS i.2.1 c' o' S st) _ ws sh sc ls (.int (f k) :: vs2) := ck_so.nt (x := (tS, 0, (20, i.2.1, [c', o']))) o1 (by
            show ck_tn (mSG M) ws sh _ (S.2.2.2.1 ++ [((45 : Int), (45 : Int))]).length _
            refine ⟨by dsimp only; omega, g2, g1, rfl, by rw [hN1]; dsimp only; omega, fun j hj => ?_, q, a, cA, len, f, ht, hq, ?_⟩
            · simp only [List.mem_cons, List.not_mem_nil, or_false] at hj
              rcases hj with rfl | rfl
              · rw [hN1]; omega
              · rw [hN1]; omega
            · dsimp only [List.map]
              unfold ck_nt
              rw [if_pos (by decide), ck_nx_lt _ hil, ck_nx_lt _ g6, ck_nx_lt _ g7]
              exact ⟨p3, by rw [hki]; exact hc1, by rw [hki]; exact ho1, by rw [hki]; exact n4', by rw [hki]; exact n5', fun z => absurd z (by decide), fun z => absurd z (by decide)⟩)
          exact (hk _ (by rw [← eL, if_pos htag]; simp)).at o2 hw hx hP hD hS rfl
      · cases h
    · cases h
  · cases h
end
end
noncomputable section
/-! a write of a sign; the beginning: no signs -/
def ck_sGs (F tS len : Nat) (S : ck_S) : Option (List ck_S) := match S.2.1 with
  | v :: i :: r :: st => if v.1 = 0 ∧ i.1 = 0 ∧ r.1 = 2 ∧ r.2.2 = [tS] ∧ ck_ent S.2.2.2.1 S.2.2.2.2.1 F i.2.1 0 ((len : Int) - 1) = true then (match ck_gf F tS i.2.1 0 S, S.2.2.2.1[v.2.1]? with
    | some (tag, _, c, o), some iv => if iv.1 = iv.2 then (
        if iv.1 = 38 ∨ iv.1 = 62 ∨ iv.1 = 124 then (if 21 ≤ tag then some [(S.1, st, (tS, 0, (21, S.2.2.2.1.length, [(S.2.2.2.1 ++ [(1, (len : Int))]).length, o])) :: S.2.2.1.filter (fun m => !(m.1 == tS)), (S.2.2.2.1 ++ [(1, (len : Int))]) ++ [(1, (len : Int))],
          [((S.2.2.2.1 ++ [(1, (len : Int))]).length, c, 1), (c, (S.2.2.2.1 ++ [(1, (len : Int))]).length, -1)] ++ ([(S.2.2.2.1.length, i.2.1, 1), (i.2.1, S.2.2.2.1.length, -1)] ++ S.2.2.2.2.1), S.2.2.2.2.2)] else none)
        else if iv.1 = 40 then some [(S.1, st, (tS, 0, (21, S.2.2.2.1.length, [c, (S.2.2.2.1 ++ [(1, (len : Int))]).length])) :: S.2.2.1.filter (fun m => !(m.1 == tS)), (S.2.2.2.1 ++ [(1, (len : Int))]) ++ [(1, (len : Int))],
          [((S.2.2.2.1 ++ [(1, (len : Int))]).length, o, 1), (o, (S.2.2.2.1 ++ [(1, (len : Int))]).length, -1)] ++ ([(S.2.2.2.1.length, i.2.1, 1), (i.2.1, S.2.2.2.1.length, -1)] ++ S.2.2.2.2.1), S.2.2.2.2.2)]
        else if iv.1 = 45 then some [(S.1, st, (tS, 0, (20, S.2.2.2.1.length, [c, o])) :: S.2.2.1.filter (fun m => !(m.1 == tS)), S.2.2.2.1 ++ [(1, (len : Int))], [(S.2.2.2.1.length, i.2.1, 1), (i.2.1, S.2.2.2.1.length, -1)] ++ S.2.2.2.2.1, S.2.2.2.2.2)]
        else none) else none
    | _, _ => none) else none
  | _ => none
theorem ck_cn_upd {p : Int32 → Bool} {f : Nat → Int32} {k : Nat} {v : Int32} : ∀ {j : Nat}, j ≤ k → ck_cn p (upd f k v) j = ck_cn p f j
  | 0, _ => rfl
  | j + 1, h => by
    rw [ck_cn_s, ck_cn_s, ck_cn_upd (Nat.le_of_succ_le h)]
    have e : upd f k v j = f j := by
      unfold upd
      rw [if_neg (by omega)]
    rw [e]
theorem ck_up_eq {f : Nat → Int32} {k : Nat} {v : Int32} : upd f k v k = v := if_pos rfl
theorem ck_up_ne {f : Nat → Int32} {k j : Nat} {v : Int32} (h : j ≠ k) : upd f k v j = f j := if_neg h
/-- a sign more -/
theorem ck_ng_push {tag : Nat} {f : Nat → Int32} {m c o : Int} {k : Nat} (hk : m.toNat = k) (h : ck_ng tag f m [c, o]) (v : Int32) {tag' : Nat} (hv : ck_b3 v = true ∨ v = 40 ∨ v = 45) (h1 : ck_b3 v = true → 21 ≤ tag) (h2 : 21 ≤ tag' → v ≠ 45) (h3 : tag' < 22) :
    ck_ng tag' (upd f k v) (m + 1) [c + (if ck_b3 v = true then 1 else 0), o + (if v = 40 then 1 else 0)] := by
  unfold ck_ng at h ⊢
  obtain ⟨n1, n2, n3, n4, n5, n6, n7⟩ := h
  have hk1 : (m + 1).toNat = k + 1 := by omega
  rw [hk] at n2 n3 n4 n5 n6 n7
  rw [hk1]
  refine ⟨by omega, ?_, ?_, fun j hj => ?_, fun j hj he => ?_, fun ht _ => ?_, fun ht => by omega⟩
  · rw [ck_cn_s, ck_cn_upd (Nat.le_refl _), ck_up_eq, n2]
    split <;> simp
  · rw [ck_cn_s, ck_cn_upd (Nat.le_refl _), ck_up_eq, n3]
    by_cases e : v = 40
    · rw [if_pos e, if_pos (by rw [e]; rfl)]
      simp
    · rw [if_neg e, if_neg (by simpa using e)]
      simp
  · by_cases e : j = k
    · rw [e, ck_up_eq]
      exact hv
    · rw [ck_up_ne e]
      exact n4 j (by omega)
  · rw [ck_up_ne (show j ≠ k by omega)] at he
    by_cases e : j + 1 = k
    · rw [e, ck_up_eq]
      rcases hv with z | z | z
      · have := n6 (h1 z) (by omega)
        rw [show k - 1 = j by omega] at this
        exact absurd he this
      · exact Or.inr z
      · exact Or.inl z
    · rw [ck_up_ne e]
      exact n5 j (by omega) he
  · rw [Nat.add_sub_cancel, ck_up_eq]
    exact h2 ht
section
variable {Fc : Nat → Nat × fR} {s0 : fS} {p : Program} {l : Launch} {e : Env} {R : Room} {s : State} {m : MethodId} {args : Array Value} {below : List Frame} {meth : Method} {c : Code} {Q : State → Prop} {cc : ByteArray} {own : String} {D : va_G} {cl : List vw_C} {tys : List (ClassId × FieldType)} {M : ck_Me} {sc : ck_sc} {A : Nat → Prop} {ws0 : va_W} {sh0 : List Nat} {S : ck_S} {pc : Nat}
/-- a write of an array of ints: the world behind it -/
theorem ck_ist (X : ck_cx p l e R s m args below meth c cc own D cl tys M sc A) {t len k0 : Nat} {T : ck_T} (hTT : (mTT M)[t]? = some (1, len, k0, [T])) (hW : (t, 0) ∈ mWr M) {ws : va_W} {sh : List Nat} {H : Heap} {locs : List Loc} {ls : Array Slot} {vs : List Value} {cells slots : Nat}
    (hw : ck_wo tys (mTT M) (mSG M) ws sh) (hx : ck_ex (mWr M) ws0 sh0 ws sh) (hP : va_P D cl ws H) (hD : va_D A ws) (hS : va_S A s.heap H locs) {q a : Nat} {e0 : va_E} (hq : ws[q]? = some (a, e0)) (ht : sh[q]? = some t) {x v : Int32} (hx0 : 0 ≤ x.toInt) (hx1 : x.toInt < len) (hv : T.2.1 ≤ v.toInt ∧ v.toInt ≤ T.2.2.1) (hdg : decode cc pc = .ok (.iastore, 1))
    (kk : ∀ (cA : ClassId) (f : Nat → Int32) (H1 : Heap) (locs1 : List Loc), e0 = .inl (cA, len, .inl f) → ck_ex [(t, 0)] ws sh (ws.set q (a, .inl (cA, len, .inl (upd f x.toInt.toNat v)))) sh → ck_wo tys (mTT M) (mSG M) (ws.set q (a, .inl (cA, len, .inl (upd f x.toInt.toNat v)))) sh → ck_ex (mWr M) ws0 sh0 (ws.set q (a, .inl (cA, len, .inl (upd f x.toInt.toNat v)))) sh →
      va_P D cl (ws.set q (a, .inl (cA, len, .inl (upd f x.toInt.toNat v)))) H1 → va_D A (ws.set q (a, .inl (cA, len, .inl (upd f x.toInt.toNat v)))) → va_S A s.heap H1 locs1 → (ws.set q (a, .inl (cA, len, .inl (upd f x.toInt.toNat v))))[q]? = some (a, .inl (cA, len, .inl (upd f x.toInt.toNat v))) → WG (tM M Fc sc.1) s0 p l e R s m args below meth c (ws.set q (a, .inl (cA, len, .inl (upd f x.toInt.toNat v)))) sh H1 locs1 cells slots Q ((pc + 1), ls, vs)) :
    WG (tM M Fc sc.1) s0 p l e R s m args below meth c ws sh H locs cells slots Q (pc, ls, (.int v :: .int x :: .ref a :: vs)) := by
  obtain ⟨td, d1, d2⟩ := hw.2.1 q a _ t hq ht
  have etd : td = (1, len, k0, [T]) := Option.some.inj (d1.symm.trans hTT)
  subst etd
  obtain ⟨cA, f, t1, rfl, t3⟩ := d2
  have hin : vp_in x len := by
    rintro (z | z)
    · have := Int32.lt_iff_toInt_lt.mp z
      rw [Int32.toInt_zero] at this
      omega
    · have : x.toNatClampNeg = x.toInt.toNat := rfl
      omega
  intro lg hlg hgr
  refine va_iast X.1 X.2.1 X.2.2.2.1 hP hD hS q k0 hq t1 hin hdg (fun H1 locs1 hP1 hD1 hS1 => ?_)
  have hco : ck_co tys ws sh (1, len, k0, [T]) (.inl (cA, len, .inl (upd f x.toInt.toNat v))) := by
    refine ⟨cA, _, t1, rfl, fun T' hT' => ?_⟩
    have eT : T = T' := Option.some.inj hT'
    subst eT
    obtain ⟨u1, u2⟩ := t3 T rfl
    refine ⟨u1, fun j hj => ?_⟩
    unfold upd
    split
    · exact hv
    · exact u2 j hj
  obtain ⟨w1, w2⟩ := ck_wo_set (Wr := [(t, 0)]) (e' := .inl (cA, len, .inl (upd f x.toInt.toNat v))) hw hq ht (fun z => absurd (List.mem_singleton.mpr rfl) z) d1 hco
  exact kk cA f H1 locs1 rfl w2 w1 (hx.tr (fun z hz => by rw [List.mem_singleton.mp hz]; exact hW) w2) hP1 hD1 hS1 (List.getElem?_set_self (List.getElem?_eq_some_iff.mp hq).1) lg hlg (hgr.nx X.2.1 hdg ⟨v, x, a, _, rfl, q, _, cA, f, hq, ck_in_lt hin, rfl⟩)
theorem ck_sGs_ok (X : ck_cx p l e R s m args below meth c cc own D cl tys M sc A) {F tS len k0 : Nat} {lo hi : Int} {ts : List Nat} (hTT : (mTT M)[tS]? = some (1, len, k0, [(0, lo, hi, ts)])) (hT1 : lo ≤ 38) (hT2 : 124 ≤ hi) (hW : (tS, 0) ∈ mWr M) {L : List ck_S} (h : ck_sGs F tS len S = some L) (hk : ∀ S' ∈ L, ck_g Fc s0 p l e R s m args below meth c Q D cl tys M sc A ws0 sh0 S' (pc + 1)) (hdg : decode cc pc = .ok (.iastore, 1)) : ck_g Fc s0 p l e R s m args below meth c Q D cl tys M sc A ws0 sh0 S pc := by
  intro n ws sh H locs ls vs o hw hx hP hD hS
  unfold ck_sGs at h
  split at h
  · rename_i v i r st hst
    split at h
    · rename_i hc
      obtain ⟨hv0, hi0, hr2, hrt, hb2⟩ := hc
      split at h
      · rename_i tag m' c' o' iv hf hiv
        have o3 := o.2.2.1
        rw [hst] at o3
        obtain ⟨vv, vs0, rfl, h1, h1'⟩ := ck_hd o3
        obtain ⟨iv', vs1, rfl, h2, h3⟩ := ck_hd h1'
        obtain ⟨ra, vs2, rfl, h4, h5⟩ := ck_hd h3
        obtain ⟨hvl, v0, rfl, ev⟩ := h1.i hv0
        obtain ⟨hil, x, rfl, ex⟩ := h2.i hi0
        obtain ⟨-, -, q, a, e0, t, rfl, hq, ht, htm⟩ := h4.r hr2
        rw [hrt] at htm
        rw [List.mem_singleton.mp htm] at ht
        obtain ⟨g1, g2, g3, g4, g5, g6, g7, g8, cA, len1, f, rfl, hng⟩ := ck_gf_ok o hf hw.2.2 hq ht
        dsimp only at g3 g4 g5 g6 g7 g8 hng
        have p2 := ck_ent_ok o.2.2.2.2.1 o.2.2.2.2.2 F _ _ _ hb2
        rw [o.1.2] at p2
        have p3 : 0 ≤ (n m').1 := by
          unfold ck_ng at hng
          exact hng.1
        split at h
        · rename_i hcc
          have E := o.2.2.2.2.1 _ _ hiv (by omega)
          have hvv : v0.toInt = iv.1 := by omega
          have hkn : (n m').1.toNat = x.toInt.toNat := by omega
          have e9 : (n i.2.1).1 + 1 = (n m').1 + 1 := by omega
          -- what all three ways share
          have com : ∀ (ivs : Int), iv.1 = ivs → lo ≤ ivs → ivs ≤ hi → (∀ (cA' : ClassId) (ws' : va_W) (H1 : Heap) (locs1 : List Loc), ck_so (mnL M) (mSG M) (S.1, st, S.2.2.1.filter (fun m => !(m.1 == tS)), S.2.2.2.1 ++ [(1, (len : Int))], [(S.2.2.2.1.length, i.2.1, 1), (i.2.1, S.2.2.2.1.length, -1)] ++ S.2.2.2.2.1, S.2.2.2.2.2) (ck_nx n S.2.2.2.1.length ((n m').1 + 1, .null)) ws' sh sc ls vs2 →
              ws'[q]? = some (a, .inl (cA', len, .inl (upd f x.toInt.toNat v0))) → ck_wo tys (mTT M) (mSG M) ws' sh → ck_ex (mWr M) ws0 sh0 ws' sh → va_P D cl ws' H1 → va_D A ws' → va_S A s.heap H1 locs1 → WG (tM M Fc sc.1) s0 p l e R s m args below meth c ws' sh H1 locs1 (ck_oc R M + S.2.2.2.2.2.1) (ck_os R M + S.2.2.2.2.2.2) Q ((pc + 1), ls, vs2)) →
              WG (tM M Fc sc.1) s0 p l e R s m args below meth c ws sh H locs (ck_oc R M + S.2.2.2.2.2.1) (ck_os R M + S.2.2.2.2.2.2) Q (pc, ls, (.int v0 :: .int x :: .ref a :: vs2)) := by
            intro ivs hivs l1 l2 kk
            refine ck_ist X hTT hW hw hx hP hD hS hq ht (by omega) (by omega) ⟨by rw [hvv, hivs]; exact l1, by rw [hvv, hivs]; exact l2⟩ hdg (fun cA' f' H1 locs1 ee w1 w2 w3 hP1 hD1 hS1 hq' => ?_)
            have eff : f = f' := by cases ee; rfl
            subst eff
            refine kk cA' _ H1 locs1 ?_ hq' w2 w3 hP1 hD1 hS1
            have o1 := o.wr h5 w1
            refine ck_so.sym (iv := (1, (len : Int))) (rs := [(S.2.2.2.1.length, i.2.1, 1), (i.2.1, S.2.2.2.1.length, -1)]) (z := (n m').1 + 1) o1 (fun _ => ⟨by omega, by omega⟩) (fun r hr => ?_)
            show r.1 < S.2.2.2.1.length + 1 ∧ r.2.1 < S.2.2.2.1.length + 1 ∧ (ck_nx n S.2.2.2.1.length ((n m').1 + 1, .null) r.1).1 ≤ (ck_nx n S.2.2.2.1.length ((n m').1 + 1, .null) r.2.1).1 + r.2.2
            simp only [List.mem_cons, List.not_mem_nil, or_false] at hr
            rcases hr with rfl | rfl
            · refine ⟨Nat.lt_succ_self _, Nat.lt_succ_of_lt hil, ?_⟩
              dsimp only
              rw [ck_nx_eq, ck_nx_lt _ hil]
              dsimp only
              omega
            · refine ⟨Nat.lt_succ_of_lt hil, Nat.lt_succ_self _, ?_⟩
              dsimp only
              rw [ck_nx_eq, ck_nx_lt _ hil]
              dsimp only
              omega
          have hN1 : (S.2.2.2.1 ++ [(1, (len : Int))]).length = S.2.2.2.1.length + 1 := by simp
          -- one number more
          have two : ∀ (w : Nat) (S' : ck_S) (note : ck_M) (ivs : Int), w < S.2.2.2.1.length → iv.1 = ivs → lo ≤ ivs → ivs ≤ hi → 0 ≤ (n w).1 → (n w).1 ≤ (n m').1 → S' ∈ L →
              S' = (S.1, st, note :: S.2.2.1.filter (fun m => !(m.1 == tS)), (S.2.2.2.1 ++ [(1, (len : Int))]) ++ [(1, (len : Int))], [((S.2.2.2.1 ++ [(1, (len : Int))]).length, w, 1), (w, (S.2.2.2.1 ++ [(1, (len : Int))]).length, -1)] ++ ([(S.2.2.2.1.length, i.2.1, 1), (i.2.1, S.2.2.2.1.length, -1)] ++ S.2.2.2.2.1), S.2.2.2.2.2) →
              (∀ (cA' : ClassId) (ws' : va_W) (n2 : ck_N), ws'[q]? = some (a, .inl (cA', len, .inl (upd f x.toInt.toNat v0))) → (∀ j, j < S.2.2.2.1.length → n2 j = n j) → (n2 S.2.2.2.1.length).1 = (n m').1 + 1 → (n2 (S.2.2.2.1 ++ [(1, (len : Int))]).length).1 = (n w).1 + 1 → ck_tn (mSG M) ws' sh n2 ((S.2.2.2.1 ++ [(1, (len : Int))]) ++ [(1, (len : Int))]).length note) →
              WG (tM M Fc sc.1) s0 p l e R s m args below meth c ws sh H locs (ck_oc R M + S.2.2.2.2.2.1) (ck_os R M + S.2.2.2.2.2.2) Q (pc, ls, (.int v0 :: .int x :: .ref a :: vs2)) := by
            intro w S' note ivs hwl hivs l1 l2 hw0 hw1 hS' eS hnote
            refine com ivs hivs l1 l2 (fun cA' ws' H1 locs1 o1 hq' w2 w3 hP1 hD1 hS1 => ?_)
            have o2 := ck_so.sym (iv := (1, (len : Int))) (rs := [((S.2.2.2.1 ++ [(1, (len : Int))]).length, w, 1), (w, (S.2.2.2.1 ++ [(1, (len : Int))]).length, -1)]) (z := (n w).1 + 1) o1 (fun _ => ⟨by omega, by omega⟩) (fun r hr => by
              show r.1 < (S.2.2.2.1 ++ [(1, (len : Int))]).length + 1 ∧ r.2.1 < (S.2.2.2.1 ++ [(1, (len : Int))]).length + 1 ∧ (ck_nx (ck_nx n S.2.2.2.1.length ((n m').1 + 1, .null)) (S.2.2.2.1 ++ [(1, (len : Int))]).length ((n w).1 + 1, .null) r.1).1 ≤ (ck_nx (ck_nx n S.2.2.2.1.length ((n m').1 + 1, .null)) (S.2.2.2.1 ++ [(1, (len : Int))]).length ((n w).1 + 1, .null) r.2.1).1 + r.2.2
              simp only [List.mem_cons, List.not_mem_nil, or_false] at hr
              have hwl' : w < (S.2.2.2.1 ++ [(1, (len : Int))]).length := by omega
              rcases hr with rfl | rfl
              · refine ⟨Nat.lt_succ_self _, Nat.lt_succ_of_lt hwl', ?_⟩
                dsimp only
                rw [ck_nx_eq, ck_nx_lt _ hwl', ck_nx_lt _ hwl]
                exact Int.le_refl _
              · refine ⟨Nat.lt_succ_of_lt hwl', Nat.lt_succ_self _, ?_⟩
                dsimp only
                rw [ck_nx_eq, ck_nx_lt _ hwl', ck_nx_lt _ hwl]
                dsimp only
                omega)
            have o4 := o2.nt (x := note) (hnote cA' ws' _ hq' (fun j hj => by rw [ck_nx_lt j (by show _ < (S.2.2.2.1 ++ [(1, (len : Int))]).length; omega), ck_nx_lt j hj]) (by rw [ck_nx_lt _ (by show _ < (S.2.2.2.1 ++ [(1, (len : Int))]).length; omega), ck_nx_eq]) (by rw [ck_nx_eq]))
            subst eS
            exact (hk _ hS').at o4 w2 w3 hP1 hD1 hS1 rfl
          have hc0 : 0 ≤ (n c').1 ∧ (n c').1 ≤ (n m').1 := by
            have z := hng
            unfold ck_ng at z
            have := ck_cn_le ck_b3 f (n m').1.toNat
            omega
          have ho0 : 0 ≤ (n o').1 ∧ (n o').1 ≤ (n m').1 := by
            have z := hng
            unfold ck_ng at z
            have := ck_cn_le (fun x => x == 40) f (n m').1.toNat
            omega
          have hlen2 : ((S.2.2.2.1 ++ [(1, (len : Int))]) ++ [(1, (len : Int))]).length = S.2.2.2.1.length + 2 := by simp
          have i32 : ∀ z : Int32, v0.toInt = z.toInt → v0 = z := fun z hz => Int32.toInt_inj.mp hz
          split at h
          · rename_i hs
            split at h
            · rename_i htag
              have eL := Option.some.inj h
              have hb : ck_b3 v0 = true := by
                rcases hs with z | z | z
                · rw [i32 38 (by rw [hvv, z]; rfl)]; rfl
                · rw [i32 62 (by rw [hvv, z]; rfl)]; rfl
                · rw [i32 124 (by rw [hvv, z]; rfl)]; rfl
              have hne : v0 ≠ 40 ∧ v0 ≠ 45 := ⟨fun z => by rw [z] at hb; exact absurd hb (by decide), fun z => by rw [z] at hb; exact absurd hb (by decide)⟩
              refine two c' _ _ iv.1 g6 rfl (by omega) (by omega) hc0.1 hc0.2 (by rw [← eL]; exact List.mem_cons_self) rfl (fun cA' ws' n2 hq' e1 e2 e3 => ?_)
              refine ⟨by dsimp only; omega, g2, g1, rfl, by rw [hlen2]; dsimp only; omega, fun j hj => ?_, q, a, cA', len, _, ht, hq', ?_⟩
              · simp only [List.mem_cons, List.not_mem_nil, or_false] at hj
                rcases hj with rfl | rfl
                · rw [hlen2, hN1]; omega
                · rw [hlen2]; omega
              · dsimp only [List.map]
                unfold ck_nt
                rw [if_pos (by decide), e2, e3, e1 _ g7]
                have := ck_ng_push (tag' := 21) hkn hng v0 (Or.inl hb) (fun _ => htag) (fun _ => hne.2) (by decide)
                rw [if_pos hb, if_neg hne.1, Int.add_zero] at this
                exact this
            · cases h
          · split at h
            · rename_i hs40
              have eL := Option.some.inj h
              have hv40 : v0 = 40 := i32 40 (by rw [hvv, hs40]; rfl)
              refine two o' _ _ iv.1 g7 rfl (by omega) (by omega) ho0.1 ho0.2 (by rw [← eL]; exact List.mem_cons_self) rfl (fun cA' ws' n2 hq' e1 e2 e3 => ?_)
              refine ⟨by dsimp only; omega, g2, g1, rfl, by rw [hlen2]; dsimp only; omega, fun j hj => ?_, q, a, cA', len, _, ht, hq', ?_⟩
              · simp only [List.mem_cons, List.not_mem_nil, or_false] at hj
                rcases hj with rfl | rfl
                · rw [hlen2]; omega
                · rw [hlen2, hN1]; omega
              · dsimp only [List.map]
                unfold ck_nt
                rw [if_pos (by decide), e2, e3, e1 _ g6]
                have := ck_ng_push (tag' := 21) hkn hng v0 (Or.inr (Or.inl hv40)) (fun z => by rw [hv40] at z; exact absurd z (by decide)) (fun _ z => by rw [hv40] at z; exact absurd z (by decide)) (by decide)
                rw [if_neg (by rw [hv40]; decide), if_pos hv40, Int.add_zero] at this
                exact this
            · split at h
              · rename_i hs45
                have eL := Option.some.inj h
                have hv45 : v0 = 45 := i32 45 (by rw [hvv, hs45]; rfl)
                refine com iv.1 rfl (by omega) (by omega) (fun cA' ws' H1 locs1 o1 hq' w2 w3 hP1 hD1 hS1 => ?_)
                have o4 := o1.nt (x := (tS, 0, (20, S.2.2.2.1.length, [c', o']))) (by
                  show ck_tn (mSG M) ws' sh _ (S.2.2.2.1 ++ [(1, (len : Int))]).length _
                  refine ⟨by dsimp only; omega, g2, g1, rfl, by rw [hN1]; dsimp only; omega, fun j hj => ?_, q, a, cA', len, _, ht, hq', ?_⟩
                  · simp only [List.mem_cons, List.not_mem_nil, or_false] at hj
                    rcases hj with rfl | rfl
                    · rw [hN1]; omega
                    · rw [hN1]; omega
                  · dsimp only [List.map]
                    unfold ck_nt
                    rw [if_pos (by decide), ck_nx_eq, ck_nx_lt _ g6, ck_nx_lt _ g7]
                    have := ck_ng_push (tag' := 20) hkn hng v0 (Or.inr (Or.inr hv45)) (fun z => by rw [hv45] at z; exact absurd z (by decide)) (fun z => absurd z (by decide)) (by decide)
                    rw [if_neg (by rw [hv45]; decide), if_neg (by rw [hv45]; decide), Int.add_zero, Int.add_zero] at this
                    exact this)
                exact (hk _ (by rw [← eL]; exact List.mem_cons_self)).at o4 w2 w3 hP1 hD1 hS1 rfl
              · cases h
        · cases h
      · cases h
    · cases h
  · cases h
/-- the first instruction: aload_0; no sign waits -/
def ck_sG0 (tM tS : Nat) (S : ck_S) : Option (List ck_S) := match ck_look S.1 0 with
  | some r => if r.1 = 2 ∧ r.2.2 = [tM] then some [(S.1, r :: S.2.1, (tS, 0, (21, 0, [0, 0])) :: S.2.2.1, S.2.2.2)] else none
  | none => none
theorem ck_sG0_ok (X : ck_cx p l e R s m args below meth c cc own D cl tys M sc A) {tM tS len k0 kf ci : Nat} {Ts : List ck_T} {td : ck_D} {lo hi : Int} (hTT : (mTT M)[tS]? = some (1, len, k0, Ts)) (hM : (mTT M)[tM]? = some td) (hM0 : td.1 = 0) (hMf : td.2.2.2[kf]? = some (2, lo, hi, [tS])) (hSG : tS ∈ mSG M) (ht0 : tS ≠ 0) {L : List ck_S} (h : ck_sG0 tM tS S = some L) (hk : ∀ S' ∈ L, ck_g Fc s0 p l e R s m args below meth c Q D cl tys M sc A ws0 sh0 S' (pc + 1)) (hdg : decode cc pc = .ok (.aload_n 0, 1)) : ck_g Fc s0 p l e R s m args below meth c Q D cl tys M sc A ws0 sh0 S pc := by
  intro n ws sh H locs ls vs o hw hx hP hD hS
  unfold ck_sG0 at h
  split at h
  · rename_i r hr
    split at h
    · rename_i hc
      have eL := Option.some.inj h
      obtain ⟨v, hv1, hv2⟩ := ck_look_ok o.2.1 hr
      obtain ⟨-, -, q, a, e0, t, rfl, hq, ht, htm⟩ := hv2.r hc.1
      rw [hc.2] at htm
      rw [List.mem_singleton.mp htm] at ht
      obtain ⟨td', d1, d2⟩ := hw.2.1 q a _ tM hq ht
      have etd : td' = td := Option.some.inj (d1.symm.trans hM)
      subst etd
      unfold ck_co at d2
      rw [hM0] at d2
      obtain ⟨fs, -, -, d3⟩ := d2
      obtain ⟨u, -, d4⟩ := d3 kf _ hMf
      obtain ⟨q2, a2, e2, t2, rfl, hq2, ht2, htm2⟩ := (show ck_rf ws sh [tS] u from d4)
      rw [List.mem_singleton.mp htm2] at ht2
      obtain ⟨td2, d5, d6⟩ := hw.2.1 q2 a2 _ tS hq2 ht2
      have etd2 : td2 = (1, len, k0, Ts) := Option.some.inj (d5.symm.trans hTT)
      subst etd2
      obtain ⟨cA, f, -, rfl, -⟩ := d6
      have o1 : ck_so (mnL M) (mSG M) (S.1, r :: S.2.1, S.2.2.1, S.2.2.2) n ws sh sc ls (.ref a :: vs) := ⟨o.1, o.2.1, ⟨hv2, o.2.2.1⟩, o.2.2.2⟩
      have o2 := o1.nt (x := (tS, 0, (21, 0, [0, 0]))) ⟨by dsimp only; omega, ht0, hSG, rfl, o.1.1, fun j hj => by
          simp only [List.mem_cons, List.not_mem_nil, or_false, or_self] at hj
          rw [hj]; exact o.1.1, q2, a2, cA, len, f, ht2, hq2, by
          dsimp only [List.map]
          unfold ck_nt
          rw [if_pos (by decide), o.1.2]
          exact ⟨by decide, rfl, rfl, fun j hj => absurd hj (by simp), fun j hj => absurd hj (by simp), fun _ z => absurd z (by decide), fun z => absurd z (by decide)⟩⟩
      refine WG.ld (fun h => lv_aload_n X.1 X.2.1 hdg rfl hv1 h) hv1 X.2.1 hdg (fun _ _ h => h) ?_
      exact (hk _ (by rw [← eL]; exact List.mem_cons_self)).at o2 hw hx hP hD hS rfl
    · cases h
  · cases h
end
end
noncomputable section
/-! what is held: reads and writes under notes of a set of places -/
/-- a note of this tag -/
def ck_fn (t tag : Nat) (S : ck_S) : Option (Nat × List Nat) := S.2.2.1.findSome? (fun x => if x.1 == t && (x.2.1 == 0 && x.2.2.1 == tag) then some (x.2.2.2.1, x.2.2.2.2) else none)
/-- a note of this tag, of this number -/
def ck_fm (F t tag i : Nat) (S : ck_S) : Option (Nat × List Nat) := S.2.2.1.findSome? (fun x => if x.1 == t && (x.2.1 == 0 && (x.2.2.1 == tag && ck_eq2 F S.2.2.2.1 S.2.2.2.2.1 x.2.2.2.1 i)) then some (x.2.2.2.1, x.2.2.2.2) else none)
/-- a note of this tag, whose last number is this -/
def ck_l1 (l : List Nat) (p : Nat → Bool) : Bool := match l with
  | [k] => p k
  | _ => false
def ck_fl (F t tag i : Nat) (S : ck_S) : Option (Nat × List Nat) := S.2.2.1.findSome? (fun x => if x.1 == t && (x.2.1 == 0 && (x.2.2.1 == tag && ck_l1 x.2.2.2.2 (fun k => ck_eq2 F S.2.2.2.1 S.2.2.2.2.1 k i))) then some (x.2.2.2.1, x.2.2.2.2) else none)
section
variable {nL : Nat} {SG : List Nat} {S : ck_S} {n : ck_N} {ws : va_W} {sh : List Nat} {sc : ck_sc} {ls : Array Slot} {vs : List Value}
theorem ck_note {t tag : Nat} {x : ck_M} (h : ck_so nL SG S n ws sh sc ls vs) (hx : x ∈ S.2.2.1) (h1 : x.1 = t) (h2 : x.2.2.1 = tag) (h20 : 20 ≤ tag) (hu : ∀ t ∈ SG, ∀ q r : Nat, sh[q]? = some t → sh[r]? = some t → q = r) {q a : Nat} {e : va_E} (hq : ws[q]? = some (a, e)) (ht : sh[q]? = some t) :
    t ∈ SG ∧ t ≠ 0 ∧ x.2.2.2.1 < S.2.2.2.1.length ∧ (∀ j ∈ x.2.2.2.2, j < S.2.2.2.1.length) ∧ ∃ (cA : ClassId) (len : Nat) (f : Nat → Int32), e = .inl (cA, len, .inl f) ∧ ck_nt tag f (n x.2.2.2.1).1 (x.2.2.2.2.map (fun j => (n j).1)) := by
  rcases h.2.2.2.1 x hx with ⟨-, -, ⟨z, -⟩ | ⟨z, -⟩⟩ | ⟨-, -, q1, a', oo, v, -, -, -, w⟩ | ⟨w0, w1, w2, w3, w4, w5, q1, a', cA, len, f, w6, w7, w8⟩
  · omega
  · omega
  · exfalso
    have w := w.2
    split at w <;> omega
  · rw [h1] at w1 w2 w6
    have eq := hu t w2 q1 q w6 ht
    subst eq
    rw [hq] at w7
    have ee := congrArg Prod.snd (Option.some.inj w7)
    rw [h2] at w8
    exact ⟨w2, w1, w4, w5, cA, len, f, ee, w8⟩
theorem ck_fn_ok {t tag : Nat} {y : Nat × List Nat} (hf : ck_fn t tag S = some y) : ∃ x ∈ S.2.2.1, x.1 = t ∧ x.2.2.1 = tag ∧ x.2.2.2.1 = y.1 ∧ x.2.2.2.2 = y.2 := by
  obtain ⟨x, hx, h1⟩ := List.exists_of_findSome?_eq_some hf
  split at h1
  · rename_i hc
    simp only [Bool.and_eq_true, beq_iff_eq] at hc
    cases h1
    exact ⟨x, hx, hc.1, hc.2.2, rfl, rfl⟩
  · cases h1
theorem ck_fm_ok {F t tag i : Nat} {y : Nat × List Nat} (h : ck_so nL SG S n ws sh sc ls vs) (hf : ck_fm F t tag i S = some y) : ∃ x ∈ S.2.2.1, x.1 = t ∧ x.2.2.1 = tag ∧ x.2.2.2.1 = y.1 ∧ x.2.2.2.2 = y.2 ∧ (n y.1).1 = (n i).1 := by
  obtain ⟨x, hx, h1⟩ := List.exists_of_findSome?_eq_some hf
  split at h1
  · rename_i hc
    simp only [Bool.and_eq_true, beq_iff_eq] at hc
    cases h1
    exact ⟨x, hx, hc.1, hc.2.2.1, rfl, rfl, ck_eq2_ok h.2.2.2.2.1 h.2.2.2.2.2 hc.2.2.2⟩
  · cases h1
theorem ck_fl_ok {F t tag i : Nat} {y : Nat × List Nat} (h : ck_so nL SG S n ws sh sc ls vs) (hf : ck_fl F t tag i S = some y) : ∃ x ∈ S.2.2.1, ∃ k, x.1 = t ∧ x.2.2.1 = tag ∧ x.2.2.2.1 = y.1 ∧ x.2.2.2.2 = [k] ∧ (n k).1 = (n i).1 := by
  obtain ⟨x, hx, h1⟩ := List.exists_of_findSome?_eq_some hf
  split at h1
  · rename_i hc
    simp only [Bool.and_eq_true, beq_iff_eq] at hc
    cases h1
    obtain ⟨c1, -, c2, c3⟩ := hc
    unfold ck_l1 at c3
    split at c3
    · rename_i k hk
      exact ⟨x, hx, k, c1, c2, rfl, hk, ck_eq2_ok h.2.2.2.2.1 h.2.2.2.2.2 c3⟩
    · cases c3
  · cases h1
end
/-- a read of what is held -/
def ck_sWl (F tW tN len : Nat) (S : ck_S) : Option (List ck_S) := match S.2.1 with
  | i :: r :: st => if i.1 = 0 ∧ r.1 = 2 ∧ r.2.2 = [tW] ∧ ck_ent S.2.2.2.1 S.2.2.2.2.1 F 0 i.2.1 0 = true ∧ ck_ent S.2.2.2.1 S.2.2.2.2.1 F i.2.1 0 ((len : Int) - 1) = true then (match ck_fm F tW 33 i.2.1 S with
    | some (_, [w]) => some [(S.1, (0, w, []) :: st, S.2.2.1, S.2.2.2)]
    | _ => (match ck_fn tW 30 S with
      | some (z, _) => if (S.2.2.1.contains (tN, 0, (31, z, []))) = true then some [
          (S.1, (0, S.2.2.2.1.length, []) :: st, (tW, 0, (33, i.2.1, [S.2.2.2.1.length])) :: S.2.2.1, S.2.2.2.1 ++ [(-2147483648, -1)], S.2.2.2.2.1, S.2.2.2.2.2),
          (S.1, (0, S.2.2.2.1.length, []) :: st, (tW, 0, (33, i.2.1, [S.2.2.2.1.length])) :: S.2.2.1, S.2.2.2.1 ++ [(0, 0)], S.2.2.2.2.1, S.2.2.2.2.2),
          (S.1, (0, S.2.2.2.1.length, []) :: st, (tN, 0, (32, i.2.1, [])) :: (tW, 0, (33, i.2.1, [S.2.2.2.1.length])) :: S.2.2.1, S.2.2.2.1 ++ [(1, 1)], S.2.2.2.2.1, S.2.2.2.2.2)] else none
      | none => none)) else none
  | _ => none
/-- a read of its number -/
def ck_sNl (F tN len : Nat) (lo hi : Int) (S : ck_S) : Option (List ck_S) := match S.2.1 with
  | i :: r :: st => if i.1 = 0 ∧ r.1 = 2 ∧ r.2.2 = [tN] ∧ ck_ent S.2.2.2.1 S.2.2.2.2.1 F 0 i.2.1 0 = true ∧ ck_ent S.2.2.2.1 S.2.2.2.2.1 F i.2.1 0 ((len : Int) - 1) = true then (match ck_fm F tN 32 i.2.1 S with
    | some _ => some [(S.1, (0, S.2.2.2.1.length, []) :: st, S.2.2.1, S.2.2.2.1 ++ [(lo, 9)], S.2.2.2.2.1, S.2.2.2.2.2)]
    | none => some [(S.1, (0, S.2.2.2.1.length, []) :: st, S.2.2.1, S.2.2.2.1 ++ [(lo, hi)], S.2.2.2.2.1, S.2.2.2.2.2)]) else none
  | _ => none
/-- a write of what is held -/
def ck_sWs (F tW tN len : Nat) (S : ck_S) : Option (List ck_S) := match S.2.1 with
  | v :: i :: r :: st => if v.1 = 0 ∧ i.1 = 0 ∧ r.1 = 2 ∧ r.2.2 = [tW] ∧ ck_ent S.2.2.2.1 S.2.2.2.2.1 F 0 i.2.1 0 = true ∧ ck_ent S.2.2.2.1 S.2.2.2.2.1 F i.2.1 0 ((len : Int) - 1) = true then (match ck_fn tW 30 S with
    | some (z, _) => if (S.2.2.1.contains (tN, 0, (31, z, []))) = true then (
        if ck_ent S.2.2.2.1 S.2.2.2.2.1 F v.2.1 0 1 = true ∧ ck_ent S.2.2.2.1 S.2.2.2.2.1 F 0 v.2.1 (-1) = true then
          some [(S.1, st, (tW, 0, (30, S.2.2.2.1.length, [])) :: (tN, 0, (34, S.2.2.2.1.length, [i.2.1])) :: S.2.2.1.filter (fun m => !(m.1 == tW)), S.2.2.2.1 ++ [(1, 0)], S.2.2.2.2.1, S.2.2.2.2.2)]
        else if ck_ent S.2.2.2.1 S.2.2.2.2.1 F v.2.1 0 0 = true ∧ ck_ent S.2.2.2.1 S.2.2.2.2.1 F 0 v.2.1 9 = true then
          some [(S.1, st, (tW, 0, (30, S.2.2.2.1.length, [])) :: (tN, 0, (31, S.2.2.2.1.length, [])) :: (tN, 0, (35, S.2.2.2.1.length, [i.2.1])) :: S.2.2.1.filter (fun m => !(m.1 == tW)), S.2.2.2.1 ++ [(1, 0)], S.2.2.2.2.1, S.2.2.2.2.2)]
        else none) else none
    | none => none) else none
  | _ => none
/-- a write of its number -/
def ck_sNs (F tN len : Nat) (lo hi : Int) (S : ck_S) : Option (List ck_S) := match S.2.1 with
  | v :: i :: r :: st => if v.1 = 0 ∧ i.1 = 0 ∧ r.1 = 2 ∧ r.2.2 = [tN] ∧ ck_ent S.2.2.2.1 S.2.2.2.2.1 F 0 i.2.1 0 = true ∧ ck_ent S.2.2.2.1 S.2.2.2.2.1 F i.2.1 0 ((len : Int) - 1) = true ∧ ck_ent S.2.2.2.1 S.2.2.2.2.1 F v.2.1 0 hi = true ∧ ck_ent S.2.2.2.1 S.2.2.2.2.1 F 0 v.2.1 (-lo) = true then (match ck_fl F tN 35 i.2.1 S with
    | some (z, _) => some [(S.1, st, (tN, 0, (31, z, [])) :: S.2.2.1.filter (fun m => !(m.1 == tN)), S.2.2.2)]
    | none => (match ck_fl F tN 34 i.2.1 S with
      | some (z, _) => if ck_ent S.2.2.2.1 S.2.2.2.2.1 F v.2.1 0 9 = true then some [(S.1, st, (tN, 0, (31, z, [])) :: S.2.2.1.filter (fun m => !(m.1 == tN)), S.2.2.2)] else none
      | none => none)) else none
  | _ => none
/-- a place more, a place less -/
theorem ck_bit6 : ∀ b0 b1 b2 b3 b4 b5 : Bool, (b0.toNat + 2 * b1.toNat + 4 * b2.toNat + 8 * b3.toNat + 16 * b4.toNat + 32 * b5.toNat).testBit 0 = b0 ∧ (b0.toNat + 2 * b1.toNat + 4 * b2.toNat + 8 * b3.toNat + 16 * b4.toNat + 32 * b5.toNat).testBit 1 = b1 ∧ (b0.toNat + 2 * b1.toNat + 4 * b2.toNat + 8 * b3.toNat + 16 * b4.toNat + 32 * b5.toNat).testBit 2 = b2 ∧
    (b0.toNat + 2 * b1.toNat + 4 * b2.toNat + 8 * b3.toNat + 16 * b4.toNat + 32 * b5.toNat).testBit 3 = b3 ∧ (b0.toNat + 2 * b1.toNat + 4 * b2.toNat + 8 * b3.toNat + 16 * b4.toNat + 32 * b5.toNat).testBit 4 = b4 ∧ (b0.toNat + 2 * b1.toNat + 4 * b2.toNat + 8 * b3.toNat + 16 * b4.toNat + 32 * b5.toNat).testBit 5 = b5 := by decide
theorem ck_bits (P : Nat → Bool) : ∃ y : Nat, ∀ i, i < 6 → y.testBit i = P i := by
  obtain ⟨h0, h1, h2, h3, h4, h5⟩ := ck_bit6 (P 0) (P 1) (P 2) (P 3) (P 4) (P 5)
  refine ⟨(P 0).toNat + 2 * (P 1).toNat + 4 * (P 2).toNat + 8 * (P 3).toNat + 16 * (P 4).toNat + 32 * (P 5).toNat, fun i hi => ?_⟩
  rcases (show i = 0 ∨ i = 1 ∨ i = 2 ∨ i = 3 ∨ i = 4 ∨ i = 5 by omega) with rfl | rfl | rfl | rfl | rfl | rfl
  · exact h0
  · exact h1
  · exact h2
  · exact h3
  · exact h4
  · exact h5
section
variable {Fc : Nat → Nat × fR} {s0 : fS} {p : Program} {l : Launch} {e : Env} {R : Room} {s : State} {m : MethodId} {args : Array Value} {below : List Frame} {meth : Method} {c : Code} {Q : State → Prop} {cc : ByteArray} {own : String} {D : va_G} {cl : List vw_C} {tys : List (ClassId × FieldType)} {M : ck_Me} {sc : ck_sc} {A : Nat → Prop} {ws0 : va_W} {sh0 : List Nat} {S : ck_S} {pc : Nat}
theorem ck_ird (X : ck_cx p l e R s m args below meth c cc own D cl tys M sc A) {F t len k0 : Nat} {T : ck_T} (hTT : (mTT M)[t]? = some (1, len, k0, [T])) {i r : ck_V} {st : List ck_V} (hst : S.2.1 = i :: r :: st) (hc : i.1 = 0 ∧ r.1 = 2 ∧ r.2.2 = [t] ∧ ck_ent S.2.2.2.1 S.2.2.2.2.1 F 0 i.2.1 0 = true ∧ ck_ent S.2.2.2.1 S.2.2.2.2.1 F i.2.1 0 ((len : Int) - 1) = true) (hdg : decode cc pc = .ok (.iaload, 1))
    {n : ck_N} {ws : va_W} {sh : List Nat} {H : Heap} {locs : List Loc} {ls : Array Slot} {vs : List Value} {cells slots : Nat} (o : ck_so (mnL M) (mSG M) S n ws sh sc ls vs) (hw : ck_wo tys (mTT M) (mSG M) ws sh) (hP : va_P D cl ws H) (hD : va_D A ws)
    (kk : ∀ (q a : Nat) (cA : ClassId) (f : Nat → Int32) (vs2 : List Value), ws[q]? = some (a, .inl (cA, len, .inl f)) → sh[q]? = some t → i.2.1 < S.2.2.2.1.length → 0 ≤ (n i.2.1).1 → (n i.2.1).1 < len → (T.2.1 ≤ (f (n i.2.1).1.toNat).toInt ∧ (f (n i.2.1).1.toNat).toInt ≤ T.2.2.1) → ck_two (ck_vo ws sh sc n S.2.2.2.1.length) st vs2 → WG (tM M Fc sc.1) s0 p l e R s m args below meth c ws sh H locs cells slots Q ((pc + 1), ls, (.int (f (n i.2.1).1.toNat) :: vs2))) :
    WG (tM M Fc sc.1) s0 p l e R s m args below meth c ws sh H locs cells slots Q (pc, ls, vs) := by
  obtain ⟨hi0, hr2, hrt, hb1, hb2⟩ := hc
  have o3 := o.2.2.1
  rw [hst] at o3
  obtain ⟨iv, vs1, rfl, h2, h3⟩ := ck_hd o3
  obtain ⟨ra, vs2, rfl, h4, h5⟩ := ck_hd h3
  obtain ⟨hil, x, rfl, ex⟩ := h2.i hi0
  obtain ⟨-, -, q, a, e0, t', rfl, hq, ht, htm⟩ := h4.r hr2
  rw [hrt] at htm
  rw [List.mem_singleton.mp htm] at ht
  have p1 := ck_ent_ok o.2.2.2.2.1 o.2.2.2.2.2 F _ _ _ hb1
  have p2 := ck_ent_ok o.2.2.2.2.1 o.2.2.2.2.2 F _ _ _ hb2
  rw [o.1.2] at p1 p2
  obtain ⟨td, d1, d2⟩ := hw.2.1 q a _ t hq ht
  have etd : td = (1, len, k0, [T]) := Option.some.inj (d1.symm.trans hTT)
  subst etd
  obtain ⟨cA, f, t1, rfl, t3⟩ := d2
  have hxn : x.toNatClampNeg = (n i.2.1).1.toNat := by show x.toInt.toNat = _; rw [ex]
  have hin : vp_in x len := by
    rintro (z | z)
    · have := Int32.lt_iff_toInt_lt.mp z
      rw [Int32.toInt_zero] at this
      omega
    · rw [hxn] at z
      omega
  refine WG.up (fun h => va_iald X.1 X.2.1 X.2.2.2.1 hP q k0 hq t1 hin hdg h) X.2.1 hdg (fun lg => ⟨x, a, _, rfl, Or.inl ⟨ck_nsc X hD hq, q, _, cA, f, hq, ck_in_lt hin, rfl⟩⟩) ?_
  rw [hxn]
  exact kk q a cA f vs2 hq ht hil (by omega) (by omega) ((t3 T rfl).2 (n i.2.1).1.toNat (show (n i.2.1).1.toNat < len by omega)) h5
theorem ck_sWl_ok (X : ck_cx p l e R s m args below meth c cc own D cl tys M sc A) {F tW tN len k0 : Nat} {T : ck_T} (hTT : (mTT M)[tW]? = some (1, len, k0, [T])) (h6 : len = 6) (hT : T.2.2.1 ≤ 1 ∧ -2147483648 ≤ T.2.1) {L : List ck_S} (h : ck_sWl F tW tN len S = some L) (hk : ∀ S' ∈ L, ck_g Fc s0 p l e R s m args below meth c Q D cl tys M sc A ws0 sh0 S' (pc + 1)) (hdg : decode cc pc = .ok (.iaload, 1)) : ck_g Fc s0 p l e R s m args below meth c Q D cl tys M sc A ws0 sh0 S pc := by
  intro n ws sh H locs ls vs o hw hx hP hD hS
  unfold ck_sWl at h
  split at h
  · rename_i i r st hst
    split at h
    · rename_i hc
      refine ck_ird X hTT hst hc hdg o hw hP hD (fun q a cA f vs2 hq ht hil hn0 hn1 hb h5 => ?_)
      split at h
      · rename_i z w hf
        have eL := Option.some.inj h
        obtain ⟨x, hx1, x1, x2, x3, x4, x5⟩ := ck_fm_ok o hf
        obtain ⟨g1, g2, g3, g4, cA', len', f', e1, g5⟩ := ck_note o hx1 x1 x2 (by decide) hw.2.2 hq ht
        cases e1
        rw [x4] at g4 g5
        have g5 : (f (n x.2.2.2.1).1.toNat).toInt = (n w).1 := g5
        rw [x3, x5] at g5
        exact (hk (S.1, (0, w, []) :: st, S.2.2.1, S.2.2.2) (by rw [← eL]; exact List.mem_cons_self)).at (o.ss (st := (0, w, []) :: st) (vs' := .int (f (n i.2.1).1.toNat) :: vs2) (show _ ∧ _ from ⟨.mi (g4 w List.mem_cons_self) g5, h5⟩)) hw hx hP hD hS rfl
      · split at h
        · rename_i z zl hf
          split at h
          · rename_i hN
            have eL := Option.some.inj h
            obtain ⟨x, hx1, x1, x2, x3, x4⟩ := ck_fn_ok hf
            obtain ⟨g1, g2, g3, g4, cA', len', f', e1, g5⟩ := ck_note o hx1 x1 x2 (by decide) hw.2.2 hq ht
            cases e1
            have g5 : ∀ j : Nat, j < 6 → (f j).toInt = 1 → (n x.2.2.2.1).1.toNat.testBit j = true := g5
            rw [x3] at g5
            have hN1 : ∀ y : Int × Int, (S.2.2.2.1 ++ [y]).length = S.2.2.2.1.length + 1 := fun y => by simp
            have go : ∀ (lo hi : Int), lo ≤ (f (n i.2.1).1.toNat).toInt → (f (n i.2.1).1.toNat).toInt ≤ hi → ck_so (mnL M) (mSG M) (S.1, (0, S.2.2.2.1.length, []) :: st, (tW, 0, (33, i.2.1, [S.2.2.2.1.length])) :: S.2.2.1, S.2.2.2.1 ++ [(lo, hi)], S.2.2.2.2.1, S.2.2.2.2.2) (ck_nx n S.2.2.2.1.length ((f (n i.2.1).1.toNat).toInt, .null)) ws sh sc ls (.int (f (n i.2.1).1.toNat) :: vs2) := by
              intro lo hi h1 h2
              have o1 := o.new h5 (tag := 0) (ts := []) (iv := (lo, hi)) (rs := []) (x := ((f (n i.2.1).1.toNat).toInt, .null)) (v := .int (f (n i.2.1).1.toNat)) (.mi (Nat.lt_succ_self _) (by rw [ck_nx_eq])) (fun _ => ⟨h1, h2⟩) (fun r hr => by cases hr)
              exact o1.nt (x := (tW, 0, (33, i.2.1, [S.2.2.2.1.length]))) (by
                show ck_tn (mSG M) ws sh _ (S.2.2.2.1 ++ [(lo, hi)]).length _
                refine ⟨by dsimp only; omega, g2, g1, rfl, by rw [hN1]; dsimp only; omega, fun j hj => ?_, q, a, cA, len, f, ht, hq, ?_⟩
                · simp only [List.mem_cons, List.not_mem_nil, or_false] at hj
                  rw [hN1]; omega
                · dsimp only [List.map]
                  unfold ck_nt
                  rw [if_neg (by decide)]
                  show (f _).toInt = _
                  rw [ck_nx_lt _ hil, ck_nx_eq])
            by_cases c1 : (f (n i.2.1).1.toNat).toInt ≤ -1
            · exact (hk _ (by rw [← eL]; exact List.mem_cons_self)).at (go _ _ (by omega) c1) hw hx hP hD hS rfl
            · by_cases c2 : (f (n i.2.1).1.toNat).toInt = 0
              · exact (hk _ (by rw [← eL]; exact List.mem_cons_of_mem _ List.mem_cons_self)).at (go _ _ (by omega) (by omega)) hw hx hP hD hS rfl
              · have c3 : (f (n i.2.1).1.toNat).toInt = 1 := by omega
                have o2 := go 1 1 (by omega) (by omega)
                -- the numbers' array
                rcases o.2.2.2.1 _ (List.contains_iff_mem.mp hN) with ⟨-, -, ⟨y, -⟩ | ⟨y, -⟩⟩ | ⟨-, -, q1, a', oo, v, -, -, -, w⟩ | ⟨w0, w1, w2, w3, w4, w5, q1, a', cA1, len1, f1, w6, w7, w8⟩
                · cases y
                · cases y
                · exact w.2.elim
                · have w8 : ∀ j : Nat, j < 6 → (n z).1.toNat.testBit j = true → (f1 j).toInt ≤ 9 := w8
                  have o3 := o2.nt (x := (tN, 0, (32, i.2.1, []))) (by
                    show ck_tn (mSG M) ws sh _ (S.2.2.2.1 ++ [((1 : Int), (1 : Int))]).length _
                    refine ⟨by dsimp only; omega, w1, w2, rfl, by rw [hN1]; dsimp only; omega, fun j hj => absurd hj List.not_mem_nil, q1, a', cA1, len1, f1, w6, w7, ?_⟩
                    dsimp only [List.map]
                    unfold ck_nt
                    rw [if_neg (by decide)]
                    show (f1 _).toInt ≤ 9
                    rw [ck_nx_lt _ hil]
                    exact w8 _ (by omega) (g5 _ (by omega) c3))
                  exact (hk _ (by rw [← eL]; exact List.mem_cons_of_mem _ (List.mem_cons_of_mem _ List.mem_cons_self))).at o3 hw hx hP hD hS rfl
          · cases h
        · cases h
    · cases h
  · cases h
theorem ck_sNl_ok (X : ck_cx p l e R s m args below meth c cc own D cl tys M sc A) {F tN len k0 : Nat} {lo hi : Int} {ts : List Nat} (hTT : (mTT M)[tN]? = some (1, len, k0, [(0, lo, hi, ts)])) {L : List ck_S} (h : ck_sNl F tN len lo hi S = some L) (hk : ∀ S' ∈ L, ck_g Fc s0 p l e R s m args below meth c Q D cl tys M sc A ws0 sh0 S' (pc + 1)) (hdg : decode cc pc = .ok (.iaload, 1)) : ck_g Fc s0 p l e R s m args below meth c Q D cl tys M sc A ws0 sh0 S pc := by
  intro n ws sh H locs ls vs o hw hx hP hD hS
  unfold ck_sNl at h
  split at h
  · rename_i i r st hst
    split at h
    · rename_i hc
      refine ck_ird X hTT hst hc hdg o hw hP hD (fun q a cA f vs2 hq ht hil hn0 hn1 hb h5 => ?_)
      have go : ∀ (hi : Int), (f (n i.2.1).1.toNat).toInt ≤ hi → ck_so (mnL M) (mSG M) (S.1, (0, S.2.2.2.1.length, []) :: st, S.2.2.1, S.2.2.2.1 ++ [(lo, hi)], S.2.2.2.2.1, S.2.2.2.2.2) (ck_nx n S.2.2.2.1.length ((f (n i.2.1).1.toNat).toInt, .null)) ws sh sc ls (.int (f (n i.2.1).1.toNat) :: vs2) := by
        intro hi h2
        exact o.new h5 (tag := 0) (ts := []) (iv := (lo, hi)) (rs := []) (x := ((f (n i.2.1).1.toNat).toInt, .null)) (v := .int (f (n i.2.1).1.toNat)) (.mi (Nat.lt_succ_self _) (by rw [ck_nx_eq])) (fun _ => ⟨hb.1, h2⟩) (fun r hr => by cases hr)
      split at h
      · rename_i y hf
        have eL := Option.some.inj h
        obtain ⟨x, hx1, x1, x2, x3, x4, x5⟩ := ck_fm_ok o hf
        obtain ⟨g1, g2, g3, g4, cA', len', f', e1, g5⟩ := ck_note o hx1 x1 x2 (by decide) hw.2.2 hq ht
        cases e1
        have g5 : (f (n x.2.2.2.1).1.toNat).toInt ≤ 9 := g5
        rw [x3, x5] at g5
        exact (hk _ (by rw [← eL]; exact List.mem_cons_self)).at (go 9 g5) hw hx hP hD hS rfl
      · have eL := Option.some.inj h
        exact (hk _ (by rw [← eL]; exact List.mem_cons_self)).at (go hi hb.2) hw hx hP hD hS rfl
    · cases h
  · cases h
theorem ck_sWs_ok (X : ck_cx p l e R s m args below meth c cc own D cl tys M sc A) {F tW tN len k0 : Nat} {lo hi : Int} {ts : List Nat} (hTT : (mTT M)[tW]? = some (1, len, k0, [(0, lo, hi, ts)])) (h6 : len = 6) (hlo : lo ≤ -9) (hhi : 1 ≤ hi) (htN : tN ≠ tW) (hW : (tW, 0) ∈ mWr M) {L : List ck_S} (h : ck_sWs F tW tN len S = some L) (hk : ∀ S' ∈ L, ck_g Fc s0 p l e R s m args below meth c Q D cl tys M sc A ws0 sh0 S' (pc + 1)) (hdg : decode cc pc = .ok (.iastore, 1)) : ck_g Fc s0 p l e R s m args below meth c Q D cl tys M sc A ws0 sh0 S pc := by
  intro n ws sh H locs ls vs o hw hx hP hD hS
  unfold ck_sWs at h
  split at h
  · rename_i v i r st hst
    split at h
    · rename_i hc
      obtain ⟨hv0, hi0, hr2, hrt, hb1, hb2⟩ := hc
      split at h
      · rename_i z zl hf
        split at h
        · rename_i hN
          have o3 := o.2.2.1
          rw [hst] at o3
          obtain ⟨vv, vs0, rfl, h1, h1'⟩ := ck_hd o3
          obtain ⟨iv', vs1, rfl, h2, h3⟩ := ck_hd h1'
          obtain ⟨ra, vs2, rfl, h4, h5⟩ := ck_hd h3
          obtain ⟨hvl, v0, rfl, ev⟩ := h1.i hv0
          obtain ⟨hil, x, rfl, ex⟩ := h2.i hi0
          obtain ⟨-, -, q, a, e0, t, rfl, hq, ht, htm⟩ := h4.r hr2
          rw [hrt] at htm
          rw [List.mem_singleton.mp htm] at ht
          have p1 := ck_ent_ok o.2.2.2.2.1 o.2.2.2.2.2 F _ _ _ hb1
          have p2 := ck_ent_ok o.2.2.2.2.1 o.2.2.2.2.2 F _ _ _ hb2
          rw [o.1.2] at p1 p2
          obtain ⟨y, hy1, x1, x2, x3, x4⟩ := ck_fn_ok hf
          obtain ⟨g1, g2, g3, g4, cA', len', f, rfl, g5⟩ := ck_note o hy1 x1 x2 (by decide) hw.2.2 hq ht
          have g5 : ∀ j : Nat, j < 6 → (f j).toInt = 1 → (n y.2.2.2.1).1.toNat.testBit j = true := g5
          rw [x3] at g5
          rcases o.2.2.2.1 _ (List.contains_iff_mem.mp hN) with ⟨-, -, ⟨w, -⟩ | ⟨w, -⟩⟩ | ⟨-, -, q1, a', oo, v, -, -, -, w⟩ | ⟨w0, w1, w2, w3, w4, w5, q1, a', cA1, len1, f1, w6, w7, w8⟩
          · cases w
          · cases w
          · exact w.2.elim
          have w8 : ∀ j : Nat, j < 6 → (n z).1.toNat.testBit j = true → (f1 j).toInt ≤ 9 := w8
          have hN1 : ∀ y : Int × Int, (S.2.2.2.1 ++ [y]).length = S.2.2.2.1.length + 1 := fun y => by simp
          have hqq : q ≠ q1 := fun eq => by
            rw [eq, w6] at ht
            exact htN (Option.some.inj ht)
          -- what both ways share
          have com : ∀ (Z : Nat), lo ≤ v0.toInt → v0.toInt ≤ hi → (∀ (cA' : ClassId) (ws' : va_W) (H1 : Heap) (locs1 : List Loc), ck_so (mnL M) (mSG M) (S.1, st, S.2.2.1.filter (fun m => !(m.1 == tW)), S.2.2.2.1 ++ [((1 : Int), (0 : Int))], S.2.2.2.2.1, S.2.2.2.2.2) (ck_nx n S.2.2.2.1.length ((Z : Int), .null)) ws' sh sc ls vs2 →
              ws'[q]? = some (a, .inl (cA', len, .inl (upd f x.toInt.toNat v0))) → ws'[q1]? = some (a', .inl (cA1, len1, .inl f1)) → ck_wo tys (mTT M) (mSG M) ws' sh → ck_ex (mWr M) ws0 sh0 ws' sh → va_P D cl ws' H1 → va_D A ws' → va_S A s.heap H1 locs1 → WG (tM M Fc sc.1) s0 p l e R s m args below meth c ws' sh H1 locs1 (ck_oc R M + S.2.2.2.2.2.1) (ck_os R M + S.2.2.2.2.2.2) Q ((pc + 1), ls, vs2)) →
              WG (tM M Fc sc.1) s0 p l e R s m args below meth c ws sh H locs (ck_oc R M + S.2.2.2.2.2.1) (ck_os R M + S.2.2.2.2.2.2) Q (pc, ls, (.int v0 :: .int x :: .ref a :: vs2)) := by
            intro Z l1 l2 kk
            refine ck_ist X hTT hW hw hx hP hD hS hq ht (by omega) (by omega) ⟨l1, l2⟩ hdg (fun cA' f' H1 locs1 ee w1 w2 w3 hP1 hD1 hS1 hq' => ?_)
            have eff : f = f' := by cases ee; rfl
            subst eff
            refine kk cA' _ H1 locs1 ?_ hq' (by rw [List.getElem?_set_ne hqq]; exact w7) w2 w3 hP1 hD1 hS1
            have o1 := o.wr h5 w1
            exact ck_so.sym (iv := ((1 : Int), (0 : Int))) (rs := []) (z := (Z : Int)) o1 (fun hh => absurd hh (by decide)) (fun r hr => by cases hr)
          have hk6 : (n i.2.1).1.toNat < 6 := by omega
          have hxk : x.toInt.toNat = (n i.2.1).1.toNat := by rw [ex]
          -- the notes behind it
          have nW : ∀ (Z : Nat) (ws' : va_W) (cA' : ClassId), (∀ j, j < 6 → (upd f x.toInt.toNat v0 j).toInt = 1 → Z.testBit j = true) → ws'[q]? = some (a, .inl (cA', len, .inl (upd f x.toInt.toNat v0))) → ck_tn (mSG M) ws' sh (ck_nx n S.2.2.2.1.length ((Z : Int), .null)) (S.2.2.2.1 ++ [((1 : Int), (0 : Int))]).length (tW, 0, (30, S.2.2.2.1.length, [])) := by
            intro Z ws' cA' hZ hq'
            refine ⟨by dsimp only; omega, g2, g1, rfl, by rw [hN1]; dsimp only; omega, fun j hj => absurd hj List.not_mem_nil, q, a, cA', len, _, ht, hq', ?_⟩
            unfold ck_nt
            rw [if_neg (by dsimp only; omega)]
            show ∀ j : Nat, j < 6 → _ → _
            rw [ck_nx_eq]
            exact hZ
          split at h
          · rename_i hv1
            obtain ⟨hv1, hv2⟩ := hv1
            have r1 := ck_ent_ok o.2.2.2.2.1 o.2.2.2.2.2 F _ _ _ hv1
            have r2 := ck_ent_ok o.2.2.2.2.1 o.2.2.2.2.2 F _ _ _ hv2
            rw [o.1.2] at r1 r2
            have eL := Option.some.inj h
            obtain ⟨Z, hZ⟩ := ck_bits (fun j => (n z).1.toNat.testBit j || j == (n i.2.1).1.toNat)
            refine com Z (by omega) (by omega) (fun cA' ws' H1 locs1 o1 hq' hq1 w2' w3' hP1 hD1 hS1 => ?_)
            have o2 := o1.nt (x := (tN, 0, (34, S.2.2.2.1.length, [i.2.1]))) (by
              show ck_tn (mSG M) ws' sh _ (S.2.2.2.1 ++ [((1 : Int), (0 : Int))]).length _
              refine ⟨by dsimp only; omega, w1, w2, rfl, by rw [hN1]; dsimp only; omega, fun j hj => by rw [List.mem_singleton.mp hj, hN1]; omega, q1, a', cA1, len1, f1, w6, hq1, ?_⟩
              dsimp only [List.map]
              unfold ck_nt
              rw [if_neg (by decide)]
              show ∀ j : Nat, j < 6 → _ → _ → _
              rw [ck_nx_eq, ck_nx_lt _ hil]
              intro j hj hne hb
              refine w8 j hj ?_
              have hb : Z.testBit j = true := hb
              rw [hZ j hj, Bool.or_eq_true, beq_iff_eq] at hb
              rcases hb with hb | hb
              · exact hb
              · exact absurd hb hne)
            have o4 := o2.nt (x := (tW, 0, (30, S.2.2.2.1.length, []))) (nW Z ws' cA' (fun j hj hu => by
              rw [hZ j hj, Bool.or_eq_true, beq_iff_eq]
              by_cases ej : j = (n i.2.1).1.toNat
              · exact Or.inr ej
              · rw [ck_up_ne (by rw [hxk]; exact ej)] at hu
                exact Or.inl (g5 j hj hu)) hq')
            exact (hk _ (by rw [← eL]; exact List.mem_cons_self)).at o4 w2' w3' hP1 hD1 hS1 rfl
          · split at h
            · rename_i hv1
              obtain ⟨hv1, hv2⟩ := hv1
              have r1 := ck_ent_ok o.2.2.2.2.1 o.2.2.2.2.2 F _ _ _ hv1
              have r2 := ck_ent_ok o.2.2.2.2.1 o.2.2.2.2.2 F _ _ _ hv2
              rw [o.1.2] at r1 r2
              have eL := Option.some.inj h
              obtain ⟨Z, hZ⟩ := ck_bits (fun j => (n z).1.toNat.testBit j && !(j == (n i.2.1).1.toNat))
              refine com Z (by omega) (by omega) (fun cA' ws' H1 locs1 o1 hq' hq1 w2' w3' hP1 hD1 hS1 => ?_)
              have h31 : ∀ j : Nat, j < 6 → Z.testBit j = true → (f1 j).toInt ≤ 9 := fun j hj hb => by
                rw [hZ j hj, Bool.and_eq_true] at hb
                exact w8 j hj hb.1
              have o2 := o1.nt (x := (tN, 0, (35, S.2.2.2.1.length, [i.2.1]))) (by
                show ck_tn (mSG M) ws' sh _ (S.2.2.2.1 ++ [((1 : Int), (0 : Int))]).length _
                refine ⟨by dsimp only; omega, w1, w2, rfl, by rw [hN1]; dsimp only; omega, fun j hj => by rw [List.mem_singleton.mp hj, hN1]; omega, q1, a', cA1, len1, f1, w6, hq1, ?_⟩
                dsimp only [List.map]
                unfold ck_nt
                rw [if_neg (by decide)]
                show (∀ j : Nat, j < 6 → _ → _) ∧ _
                rw [ck_nx_eq, ck_nx_lt _ hil]
                refine ⟨h31, ?_⟩
                show Z.testBit _ = false
                rw [hZ _ hk6]
                simp)
              have o2' := o2.nt (x := (tN, 0, (31, S.2.2.2.1.length, []))) (by
                show ck_tn (mSG M) ws' sh _ (S.2.2.2.1 ++ [((1 : Int), (0 : Int))]).length _
                refine ⟨by dsimp only; omega, w1, w2, rfl, by rw [hN1]; dsimp only; omega, fun j hj => absurd hj List.not_mem_nil, q1, a', cA1, len1, f1, w6, hq1, ?_⟩
                unfold ck_nt
                rw [if_neg (by dsimp only; omega)]
                show ∀ j : Nat, j < 6 → _ → _
                rw [ck_nx_eq]
                exact h31)
              have o4 := o2'.nt (x := (tW, 0, (30, S.2.2.2.1.length, []))) (nW Z ws' cA' (fun j hj hu => by
                rw [hZ j hj, Bool.and_eq_true]
                by_cases ej : j = (n i.2.1).1.toNat
                · rw [ej, ← hxk, ck_up_eq] at hu
                  omega
                · rw [ck_up_ne (by rw [hxk]; exact ej)] at hu
                  exact ⟨g5 j hj hu, by simp [ej]⟩) hq')
              exact (hk _ (by rw [← eL]; exact List.mem_cons_self)).at o4 w2' w3' hP1 hD1 hS1 rfl
            · cases h
        · cases h
      · cases h
    · cases h
  · cases h
theorem ck_sNs_ok (X : ck_cx p l e R s m args below meth c cc own D cl tys M sc A) {F tN len k0 : Nat} {lo hi : Int} {ts : List Nat} (hTT : (mTT M)[tN]? = some (1, len, k0, [(0, lo, hi, ts)])) (h6 : len = 6) (hW : (tN, 0) ∈ mWr M) {L : List ck_S} (h : ck_sNs F tN len lo hi S = some L) (hk : ∀ S' ∈ L, ck_g Fc s0 p l e R s m args below meth c Q D cl tys M sc A ws0 sh0 S' (pc + 1)) (hdg : decode cc pc = .ok (.iastore, 1)) : ck_g Fc s0 p l e R s m args below meth c Q D cl tys M sc A ws0 sh0 S pc := by
  intro n ws sh H locs ls vs o hw hx hP hD hS
  unfold ck_sNs at h
  split at h
  · rename_i v i r st hst
    split at h
    · rename_i hc
      obtain ⟨hv0, hi0, hr2, hrt, hb1, hb2, hb3, hb4⟩ := hc
      have o3 := o.2.2.1
      rw [hst] at o3
      obtain ⟨vv, vs0, rfl, h1, h1'⟩ := ck_hd o3
      obtain ⟨iv', vs1, rfl, h2, h3⟩ := ck_hd h1'
      obtain ⟨ra, vs2, rfl, h4, h5⟩ := ck_hd h3
      obtain ⟨hvl, v0, rfl, ev⟩ := h1.i hv0
      obtain ⟨hil, x, rfl, ex⟩ := h2.i hi0
      obtain ⟨-, -, q, a, e0, t, rfl, hq, ht, htm⟩ := h4.r hr2
      rw [hrt] at htm
      rw [List.mem_singleton.mp htm] at ht
      have p1 := ck_ent_ok o.2.2.2.2.1 o.2.2.2.2.2 F _ _ _ hb1
      have p2 := ck_ent_ok o.2.2.2.2.1 o.2.2.2.2.2 F _ _ _ hb2
      have p3 := ck_ent_ok o.2.2.2.2.1 o.2.2.2.2.2 F _ _ _ hb3
      have p4 := ck_ent_ok o.2.2.2.2.1 o.2.2.2.2.2 F _ _ _ hb4
      rw [o.1.2] at p1 p2 p3 p4
      have hxk : x.toInt.toNat = (n i.2.1).1.toNat := by rw [ex]
      have com : ∀ (f : Nat → Int32) (cA0 : ClassId) (len0 : Nat) (z : Nat), e0 = .inl (cA0, len0, .inl f) → tN ∈ mSG M → tN ≠ 0 → z < S.2.2.2.1.length → (∀ j : Nat, j < 6 → (n z).1.toNat.testBit j = true → (upd f x.toInt.toNat v0 j).toInt ≤ 9) → (S.1, st, (tN, 0, (31, z, [])) :: S.2.2.1.filter (fun m => !(m.1 == tN)), S.2.2.2) ∈ L →
          WG (tM M Fc sc.1) s0 p l e R s m args below meth c ws sh H locs (ck_oc R M + S.2.2.2.2.2.1) (ck_os R M + S.2.2.2.2.2.2) Q (pc, ls, (.int v0 :: .int x :: .ref a :: vs2)) := by
        intro f cA0 len0 z e1 g1 g2 hz hb hmem
        subst e1
        refine ck_ist X hTT hW hw hx hP hD hS hq ht (by omega) (by omega) ⟨by dsimp only; omega, by dsimp only; omega⟩ hdg (fun cA' f' H1 locs1 ee w1 w2 w3 hP1 hD1 hS1 hq' => ?_)
        have eff : f = f' := by cases ee; rfl
        subst eff
        have o1 := o.wr h5 w1
        have o2 := o1.nt (x := (tN, 0, (31, z, []))) (by
          refine ⟨by dsimp only; omega, g2, g1, rfl, hz, fun j hj => absurd hj List.not_mem_nil, q, a, cA', len, _, ht, hq', ?_⟩
          unfold ck_nt
          rw [if_neg (by dsimp only; omega)]
          exact hb)
        exact (hk _ hmem).at o2 w2 w3 hP1 hD1 hS1 rfl
      split at h
      · rename_i z zl hf
        have eL := Option.some.inj h
        obtain ⟨y, hy1, k, x1, x2, x3, x4, x5⟩ := ck_fl_ok o hf
        obtain ⟨g1, g2, g3, g4, cA', len', f, rfl, g5⟩ := ck_note o hy1 x1 x2 (by decide) hw.2.2 hq ht
        rw [x4] at g5
        have g5 : (∀ j : Nat, j < 6 → (n y.2.2.2.1).1.toNat.testBit j = true → (f j).toInt ≤ 9) ∧ (n y.2.2.2.1).1.toNat.testBit (n k).1.toNat = false := g5
        rw [x3, x5] at g5
        rw [x3] at g3
        refine com f cA' len' z rfl g1 g2 g3 (fun j hj hb => ?_) (by rw [← eL]; exact List.mem_cons_self)
        by_cases ej : j = (n i.2.1).1.toNat
        · rw [ej, g5.2] at hb
          cases hb
        · rw [ck_up_ne (by rw [hxk]; exact ej)]
          exact g5.1 j hj hb
      · split at h
        · rename_i z zl hf
          split at h
          · rename_i hv9
            have p5 := ck_ent_ok o.2.2.2.2.1 o.2.2.2.2.2 F _ _ _ hv9
            rw [o.1.2] at p5
            have eL := Option.some.inj h
            obtain ⟨y, hy1, k, x1, x2, x3, x4, x5⟩ := ck_fl_ok o hf
            obtain ⟨g1, g2, g3, g4, cA', len', f, rfl, g5⟩ := ck_note o hy1 x1 x2 (by decide) hw.2.2 hq ht
            rw [x4] at g5
            have g5 : ∀ j : Nat, j < 6 → j ≠ (n k).1.toNat → (n y.2.2.2.1).1.toNat.testBit j = true → (f j).toInt ≤ 9 := g5
            rw [x3, x5] at g5
            rw [x3] at g3
            refine com f cA' len' z rfl g1 g2 g3 (fun j hj hb => ?_) (by rw [← eL]; exact List.mem_cons_self)
            by_cases ej : j = (n i.2.1).1.toNat
            · rw [ej, ← hxk, ck_up_eq]
              omega
            · rw [ck_up_ne (by rw [hxk]; exact ej)]
              exact g5 j hj ej hb
          · cases h
        · cases h
    · cases h
  · cases h
end
end
noncomputable section
/-! steps proved by hand: what the signs' notes say besides; a contract by parts of an argument; arraycopy of ints -/
def ck_lo1 (E : ck_E) (y : Nat) : ck_E := match E[y]? with
  | some iv => E.set y (max iv.1 1, iv.2)
  | none => E
theorem ck_lo1_len (E : ck_E) (y : Nat) : (ck_lo1 E y).length = E.length := by
  unfold ck_lo1
  split
  · exact List.length_set
  · rfl
theorem ck_lo1_ok {E : ck_E} {n : ck_N} {y : Nat} (h : ck_eo E n) (hy : 1 ≤ (n y).1) : ck_eo (ck_lo1 E y) n := by
  unfold ck_lo1
  split
  · rename_i iv hiv
    intro k x hx hle
    rw [List.getElem?_set] at hx
    split at hx
    · rename_i e
      subst e
      split at hx
      · have ex := Option.some.inj hx
        subst ex
        have h1 : iv.1 ≤ max iv.1 1 := Int.le_max_left _ _
        have h2 := h y iv hiv (Int.le_trans h1 hle)
        exact ⟨Int.max_le.mpr ⟨h2.1, hy⟩, h2.2⟩
      · cases hx
    · exact h k x hx hle
  · exact h
theorem ck_lo1s_ok {n : ck_N} : ∀ {ys : List Nat} {E : ck_E}, ck_eo E n → (∀ y ∈ ys, 1 ≤ (n y).1) → ck_eo (ys.foldl ck_lo1 E) n ∧ (ys.foldl ck_lo1 E).length = E.length
  | [], _, h, _ => ⟨h, rfl⟩
  | y :: ys, E, h, hy => by
    obtain ⟨a, b⟩ := ck_lo1s_ok (ys := ys) (ck_lo1_ok h (hy y List.mem_cons_self)) (fun z hz => hy z (List.mem_cons_of_mem _ hz))
    exact ⟨a, b.trans (ck_lo1_len E y)⟩
def ck_tiY (F tS x : Nat) (S : ck_S) : List Nat := if ck_ent S.2.2.2.1 S.2.2.2.2.1 F 0 x (-1) then (S.2.2.1.flatMap (fun m => if m.1 == tS && decide (20 ≤ m.2.2.1 ∧ m.2.2.1 < 30) then m.2.2.2.1 :: m.2.2.2.2 else [])).filter (fun y => ck_ent S.2.2.2.1 S.2.2.2.2.1 F x y 0) else []
/-- a load of local 0; numbers of the signs' notes that are no less than local j are at least 1 if it is -/
def ck_sTi (F tS j : Nat) (S : ck_S) : Option (List ck_S) := match ck_look S.1 0, ck_look S.1 j with
  | some r, some x => if r.1 = 2 ∧ x.1 = 0 then some [(S.1, r :: S.2.1, S.2.2.1, (ck_tiY F tS x.2.1 S).foldl ck_lo1 S.2.2.2.1, S.2.2.2.2)] else none
  | _, _ => none
/-- a load of local 0; of signs on top that are no turn, none of them open, at least one takes two values -/
def ck_sTc (F tS : Nat) (S : ck_S) : Option (List ck_S) := match ck_look S.1 0 with
  | some r => if r.1 = 2 then (match S.2.2.1.findSome? (fun x => if x.1 == tS && (x.2.1 == 0 && (decide (21 ≤ x.2.2.1 ∧ x.2.2.1 < 30) && ck_ent S.2.2.2.1 S.2.2.2.2.1 F 0 x.2.2.2.1 (-1))) then (match x.2.2.2.2 with
      | [c, o] => if ck_ent S.2.2.2.1 S.2.2.2.2.1 F o 0 0 then some c else none
      | _ => none) else none) with
    | some c => some [(S.1, r :: S.2.1, S.2.2.1, S.2.2.2.1, (0, c, -1) :: S.2.2.2.2.1, S.2.2.2.2.2)]
    | none => none) else none
  | none => none
theorem ck_cn_pos (p : Int32 → Bool) (f : Nat → Int32) {k : Nat} (h : p (f k) = true) : 1 ≤ ck_cn p f (k + 1) := by
  rw [ck_cn_s, if_pos h]
  omega
section
variable {Fc : Nat → Nat × fR} {s0 : fS} {p : Program} {l : Launch} {e : Env} {R : Room} {s : State} {m : MethodId} {args : Array Value} {below : List Frame} {meth : Method} {c : Code} {Q : State → Prop} {cc : ByteArray} {own : String} {D : va_G} {cl : List vw_C} {tys : List (ClassId × FieldType)} {M : ck_Me} {sc : ck_sc} {A : Nat → Prop} {ws0 : va_W} {sh0 : List Nat} {S : ck_S} {pc : Nat}
theorem ck_sTi_ok (X : ck_cx p l e R s m args below meth c cc own D cl tys M sc A) {F tS j : Nat} {L : List ck_S} (h : ck_sTi F tS j S = some L) (hk : ∀ S' ∈ L, ck_g Fc s0 p l e R s m args below meth c Q D cl tys M sc A ws0 sh0 S' (pc + 1)) (hdg : decode cc pc = .ok (.aload_n 0, 1)) : ck_g Fc s0 p l e R s m args below meth c Q D cl tys M sc A ws0 sh0 S pc := by
  intro n ws sh H locs ls vs o hw hx hP hD hS
  unfold ck_sTi at h
  split at h
  · rename_i r x hr hxj
    split at h
    · rename_i hc
      have eL := Option.some.inj h
      obtain ⟨v, hv1, hv2⟩ := ck_look_ok o.2.1 hr
      obtain ⟨-, -, q, a, e0, t, rfl, hq, ht, htm⟩ := hv2.r hc.1
      have key : ∀ y ∈ ck_tiY F tS x.2.1 S, 1 ≤ (n y).1 := fun y hy => by
        unfold ck_tiY at hy
        split at hy
        · rename_i g1
          have g2 := (List.mem_filter.mp hy).2
          have p1 := ck_ent_ok o.2.2.2.2.1 o.2.2.2.2.2 F _ _ _ g1
          have p2 := ck_ent_ok o.2.2.2.2.1 o.2.2.2.2.2 F _ _ _ g2
          rw [o.1.2] at p1
          omega
        · exact absurd hy List.not_mem_nil
      obtain ⟨E1, E2⟩ := ck_lo1s_ok o.2.2.2.2.1 key
      have o2 : ck_so (mnL M) (mSG M) (S.1, r :: S.2.1, S.2.2.1, (ck_tiY F tS x.2.1 S).foldl ck_lo1 S.2.2.2.1, S.2.2.2.2) n ws sh sc ls (.ref a :: vs) := by
        refine ⟨?_, ?_, ?_, ?_, E1, ?_⟩ <;> dsimp only <;> rw [E2]
        · exact o.1
        · exact o.2.1
        · exact ⟨hv2, o.2.2.1⟩
        · exact o.2.2.2.1
        · exact o.2.2.2.2.2
      refine WG.ld (fun h => lv_aload_n X.1 X.2.1 hdg rfl hv1 h) hv1 X.2.1 hdg (fun _ _ h => h) ?_
      exact (hk _ (by rw [← eL]; exact List.mem_cons_self)).at o2 hw hx hP hD hS rfl
    · cases h
  · cases h
theorem ck_sTc_ok (X : ck_cx p l e R s m args below meth c cc own D cl tys M sc A) {F tS : Nat} (hts : tS ≠ 0) {L : List ck_S} (h : ck_sTc F tS S = some L) (hk : ∀ S' ∈ L, ck_g Fc s0 p l e R s m args below meth c Q D cl tys M sc A ws0 sh0 S' (pc + 1)) (hdg : decode cc pc = .ok (.aload_n 0, 1)) : ck_g Fc s0 p l e R s m args below meth c Q D cl tys M sc A ws0 sh0 S pc := by
  intro n ws sh H locs ls vs o hw hx hP hD hS
  unfold ck_sTc at h
  split at h
  · rename_i r hr
    split at h
    · rename_i hc
      split at h
      · rename_i c0 hf
        have eL := Option.some.inj h
        obtain ⟨v, hv1, hv2⟩ := ck_look_ok o.2.1 hr
        obtain ⟨-, -, q, a, e0, t, rfl, hq, ht, htm⟩ := hv2.r hc
        obtain ⟨x, hxm, h1⟩ := List.exists_of_findSome?_eq_some hf
        split at h1
        · rename_i hc1
          simp only [Bool.and_eq_true, beq_iff_eq, decide_eq_true_eq] at hc1
          obtain ⟨c1, c2, c3, c4⟩ := hc1
          split at h1
          · rename_i c' o' hl
            split at h1
            · rename_i c5
              have ec := Option.some.inj h1
              subst ec
              have p1 := ck_ent_ok o.2.2.2.2.1 o.2.2.2.2.2 F _ _ _ c4
              have p2 := ck_ent_ok o.2.2.2.2.1 o.2.2.2.2.2 F _ _ _ c5
              rw [o.1.2] at p1 p2
              have hpos : c' < S.2.2.2.1.length ∧ 1 ≤ (n c').1 := by
                rcases o.2.2.2.1 x hxm with ⟨w, -⟩ | ⟨-, -, q1, a', oo, v, -, -, -, w⟩ | ⟨w0, w1, w2, w3, w4, w5, q1, a', cA, len, f, w6, w7, w8⟩
                · rw [c1] at w
                  exact absurd w hts
                · exfalso
                  have w := w.2
                  split at w <;> omega
                · rw [hl] at w5 w8
                  unfold ck_nt at w8
                  rw [if_pos c3.2] at w8
                  refine ⟨w5 c' (by simp), ?_⟩
                  have w8 : ck_ng x.2.2.1 f (n x.2.2.2.1).1 [(n c').1, (n o').1] := w8
                  unfold ck_ng at w8
                  obtain ⟨n1, n2, n3, n4, n5, n6, n7⟩ := w8
                  obtain ⟨k, hkm⟩ : ∃ k, (n x.2.2.2.1).1.toNat = k + 1 := ⟨(n x.2.2.2.1).1.toNat - 1, by omega⟩
                  rw [hkm] at n2 n3 n4 n6
                  have n6' := n6 c3.1 (Nat.succ_pos _)
                  rw [Nat.add_sub_cancel] at n6'
                  rcases n4 k (Nat.lt_succ_self _) with hb | hb | hb
                  · have := ck_cn_pos ck_b3 f hb
                    omega
                  · have := ck_cn_pos (fun x => x == 40) f (k := k) (by rw [hb]; rfl)
                    omega
                  · exact absurd hb n6'
              have o2 : ck_so (mnL M) (mSG M) (S.1, r :: S.2.1, S.2.2.1, S.2.2.2.1, (0, c', -1) :: S.2.2.2.2.1, S.2.2.2.2.2) n ws sh sc ls (.ref a :: vs) := by
                refine ⟨o.1, o.2.1, ⟨hv2, o.2.2.1⟩, o.2.2.2.1, o.2.2.2.2.1, fun z hz => ?_⟩
                rcases List.mem_cons.mp hz with rfl | hz
                · refine ⟨o.1.1, hpos.1, ?_⟩
                  dsimp only
                  rw [o.1.2]
                  omega
                · exact o.2.2.2.2.2 z hz
              refine WG.ld (fun h => lv_aload_n X.1 X.2.1 hdg rfl hv1 h) hv1 X.2.1 hdg (fun _ _ h => h) ?_
              exact (hk _ (by rw [← eL]; exact List.mem_cons_self)).at o2 hw hx hP hD hS rfl
            · cases h1
          · cases h1
        · cases h1
      · cases h
    · cases h
  · cases h
end
/-- a contract by parts of an argument -/
theorem ck_met_split {rr : fR} {V : ck_Wd} {l : Launch} {y : MethodName} {cc : ByteArray} {nL : Nat} {ret : Option FieldType} {rm : Room} {C : ck_C} {k : Nat} {iv : Int × Int} (hk : C.1.2.2.1[k]? = some iv) (hle : iv.1 ≤ iv.2) (ps : List (Int × Int)) (hcov : ∀ z, iv.1 ≤ z → z ≤ iv.2 → ∃ x ∈ ps, x.1 ≤ z ∧ z ≤ x.2)
    (h : ∀ x ∈ ps, ck_met V l y cc nL ret rm ((C.1.1, C.1.2.1, C.1.2.2.1.set k x, C.1.2.2.2), C.2) rr) : ck_met V l y cc nL ret rm C rr := by
  intro D tys ws sh sz n1 As sw htl hsw hn0 hpo hwo hph
  obtain ⟨z1, z2⟩ := hpo.2.2.1 k iv hk hle
  obtain ⟨x, hx, x1, x2⟩ := hcov _ z1 z2
  have hl : (C.1.2.2.1.set k x).length = C.1.2.2.1.length := List.length_set
  have hm := h x hx D tys ws sh sz n1 As sw htl hsw hn0 (by
    show ck_po _ _ _ _ _ (C.1.2.2.1.set k x).length (C.1.1, C.1.2.1, C.1.2.2.1.set k x, C.1.2.2.2) As
    rw [hl]
    refine ⟨hpo.1, hpo.2.1, fun j w hj hjl => ?_, hpo.2.2.2⟩
    dsimp only at hj
    rw [List.getElem?_set] at hj
    split at hj
    · rename_i ej
      subst ej
      split at hj
      · have ew := Option.some.inj hj
        subst ew
        exact ⟨x1, x2⟩
      · cases hj
    · exact hpo.2.2.1 j w hj hjl) hwo hph
  have hq : ck_qp V D tys ws sh sz sw n1 ((C.1.1, C.1.2.1, C.1.2.2.1.set k x, C.1.2.2.2), C.2) rr As = ck_qp V D tys ws sh sz sw n1 C rr As := by
    unfold ck_qp
    dsimp only
    rw [hl]
  rw [hq] at hm
  exact hm
section
variable {Fc : Nat → Nat × fR} {s0 : fS} {p : Program} {l : Launch} {e : Env} {R : Room} {s : State} {m : MethodId} {args : Array Value} {below : List Frame} {meth : Method} {c : Code} {Q : State → Prop} {cc : ByteArray} {own : String} {D : va_G} {tys : List (ClassId × FieldType)} {M : ck_Me} {sc : ck_sc} {A : Nat → Prop} {V : ck_Wd}
/-- System.arraycopy(a, i, b, j, v) of ints of any size -/
def ck_zC (t0 t1 : Nat) (v len : Int) : ck_C := (([(2, 1, [t0]), (0, 2, []), (2, 3, [t1]), (0, 4, []), (0, 5, [])], [], [(0, 0), (1, 0), (0, len - v), (1, 0), (0, len - v), (v, v)], []), [([], [], [(1, 0), (1, 0), (1, 0), (1, 0), (1, 0), (1, 0)], [])], [(t1, 0)], 0, 0)
theorem ck_i32_in (x : Int32) : -2147483648 ≤ x.toInt ∧ x.toInt ≤ 2147483647 := by
  have h := ck_r32 x
  exact ⟨h.1, h.2⟩
theorem ck_cs_Z {idx : Nat} (hF : Fc (3 * idx + 1) = (5, f_cpi)) (X : ck_cx p l e R s m args below meth c cc own D V.1 tys M sc A) (hts : ∀ w ∈ V.2.2.2.2.1, w.before args s = true) {t0 t1 : Nat} {v len : Int} {n0 n1 k0 k1 : Nat} {F0' : List ck_T} (htl : tys.map Prod.snd = V.2.2.2.1) (h0 : (mTT M)[t0]? = some (1, n0, k0, F0')) (h1 : (mTT M)[t1]? = some (1, n1, k1, [(0, -2147483648, 2147483647, [])])) (hmn : 0 ≤ v ∧ v ≤ len) (hm0 : len ≤ (n0 : Int)) (hm1 : len ≤ (n1 : Int)) (hw : ∀ w ∈ ([.methodLink own idx arraycopyName, .native arraycopyName, .static arraycopyName, .initialized "java/lang/System"] : List Cond), w ∈ V.2.2.2.2.1) (hR : 1 ≤ R.frames ∧ 60 ≤ R.locals) :
    ck_cs Fc s0 p l e R s m args below meth c Q cc D V.1 tys M sc A (3 * idx + 1, 0, 5, ck_zC t0 t1 v len) := by
  intro pc ls nn ws sh H locs cells slots As rest hdg hls hlen hn0 hpo hrec hwo hP hD hS hc hs hsum hk
  rw [ck_ik1] at hdg
  have hnf : nativeFrameWords "java/lang/System" "arraycopy" 5 + 11 ≤ 52 := by decide +kernel
  obtain ⟨v0, As, rfl, w0, g⟩ := ck_hd hpo.1
  obtain ⟨v1, As, rfl, w1, g⟩ := ck_hd g
  obtain ⟨v2, As, rfl, w2, g⟩ := ck_hd g
  obtain ⟨v3, As, rfl, w3, g⟩ := ck_hd g
  obtain ⟨v4, As, rfl, w4, g⟩ := ck_hd g
  cases As with
  | cons _ _ => exact g.elim
  | nil =>
    have E := hpo.2.2.1
    obtain ⟨-, -, q0, a0, e0, u0, rfl, hq0, hu0, hm0'⟩ := w0.r rfl
    obtain ⟨-, -, q1, a1, e1, u1, rfl, hq1, hu1, hm1'⟩ := w2.r rfl
    rw [List.mem_singleton.mp hm0'] at hu0
    rw [List.mem_singleton.mp hm1'] at hu1
    obtain ⟨-, sp, rfl, hsp⟩ := w1.i rfl
    obtain ⟨-, dp, rfl, hdp⟩ := w3.i rfl
    obtain ⟨-, n, rfl, hn⟩ := w4.i rfl
    have E2 := E 2 (0, len - v) rfl (by show (0 : Int) ≤ len - v; omega)
    have E4 := E 4 (0, len - v) rfl (by show (0 : Int) ≤ len - v; omega)
    have E5 := E 5 (v, v) rfl (Int.le_refl _)
    obtain ⟨td0, g0, c0⟩ := hwo.2.1 q0 a0 e0 t0 hq0 hu0
    obtain ⟨td1, g1, c1⟩ := hwo.2.1 q1 a1 e1 t1 hq1 hu1
    have e0' : td0 = (1, n0, k0, F0') := Option.some.inj (g0.symm.trans h0)
    have e1' : td1 = (1, n1, k1, [(0, -2147483648, 2147483647, [])]) := Option.some.inj (g1.symm.trans h1)
    subst e0' e1'
    obtain ⟨cA0, f0, y0, rfl, -⟩ := c0
    obtain ⟨cA1, f1, y1, rfl, -⟩ := c1
    rw [← hsp] at E2
    rw [← hdp] at E4
    rw [← hn] at E5
    dsimp only at E2 E4 E5
    have nneg : ∀ z : Int32, 0 ≤ z.toInt → ¬ z < 0 := fun z hz => by rw [Int32.lt_iff_toInt_lt]; simpa using hz
    have nz : ∀ z : Int32, 0 ≤ z.toInt → (z.toNatClampNeg : Int) = z.toInt := fun z hz => Int.toNat_of_nonneg hz
    have z1 := nz sp E2.1
    have z2 := nz dp E4.1
    have z3 := nz n (by omega)
    intro lg hlg hgr
    refine va_copyi (rest := rest) X.1 X.2.1 (X.2.2.2.2.2.1.trans hls.symm) X.2.2.1 (hts _ (hw _ (by simp))) (hts _ (hw _ (by simp))) (hts _ (hw _ (by simp))) (hts _ (hw _ (by simp))) X.2.2.2.1 hP hD hS q0 q1 k0 k1 hq0 hq1 y0 y1 rfl (nneg _ E2.1) (nneg _ E4.1) (nneg _ (by omega)) (show sp.toNatClampNeg + n.toNatClampNeg ≤ n0 by omega) (show dp.toNatClampNeg + n.toNatClampNeg ≤ n1 by omega) (fun _ _ => rfl) hR.1 (by omega) hdg (fun H1 locs1 P1 D1 S1 => ?_)
    obtain ⟨W1, W2⟩ := ck_wo_set (Wr := [(t1, 0)]) (e' := .inl (cA1, n1, .inl (va_cpy f0 f1 sp.toNatClampNeg dp.toNatClampNeg n.toNatClampNeg))) hwo hq1 hu1 (fun z => absurd (List.mem_singleton.mpr rfl) z) h1 ⟨cA1, _, y1, rfl, fun t ht => by
      have et := Option.some.inj ht
      subst et
      exact ⟨rfl, fun i _ => ck_i32_in _⟩⟩
    exact hk _ List.mem_cons_self none nn _ sh H1 locs1 (fun _ _ => rfl) W1 W2 P1 D1 S1 ⟨trivial, fun _ h => (List.not_mem_nil h).elim, fun k z hz hle => by
      have hz' : ([(1, 0), (1, 0), (1, 0), (1, 0), (1, 0), (1, 0)] : List (Int × Int))[k]? = some z := hz
      have hzm := List.mem_of_getElem? hz'
      simp at hzm
      rw [hzm] at hle
      exact absurd hle (by decide), fun _ h => (List.not_mem_nil h).elim⟩ lg hlg (hgr.nx X.2.1 hdg ⟨[.ref a0, .int sp, .ref a1, .int dp, .int n], rest, none, _, sh, rfl, by show _ = (Fc (3 * idx + 1)).1; rw [hF]; rfl, by show (Fc (3 * idx + 1)).2 _ _ _ _ _ _; rw [hF]; exact ⟨a0, a1, sp, dp, n, q0, q1, n0, n1, cA0, cA1, f0, f1, rfl, hq0, hq1, rfl, rfl, rfl⟩, rfl⟩)
end
end
noncomputable section
/-! layWorlds: the least bit of a set -/
def ck_tb1 (A e : Int) : Bool := A.toNat.testBit e.toNat
theorem ck_hb_v {x : Int64} {k : Int32} (h0 : 0 ≤ x.toInt) (hk0 : 0 ≤ k.toInt) (hk1 : k.toInt ≤ 11) : (((x.toUInt64 >>> (k.toInt64.toUInt64 &&& Int64.toUInt64 63)).toInt64 &&& Int64.ofNat 1).toInt = (Int64.ofNat 1).toInt) ↔ ck_tb1 x.toInt k.toInt = true := by
  obtain ⟨K, hK⟩ : ∃ K : Nat, k.toInt = (K : Int) := ⟨k.toInt.toNat, by omega⟩
  have hK11 : K ≤ 11 := by omega
  have hk : k = Int32.ofNat K := by
    have := ck_i32 (b := k) hk0
    rw [hK] at this
    exact this
  have hsh : ∀ j, j < 12 → ((Int32.ofNat j).toInt64.toUInt64 &&& Int64.toUInt64 63).toNat % 64 = j := by decide +kernel
  have hs := hsh K (by omega)
  rw [← hk] at hs
  have hx : x.toInt = (x.toUInt64.toNat : Int) := by
    have h1 : x.toInt = x.toBitVec.toInt := rfl
    have h2 : x.toUInt64.toNat = x.toBitVec.toNat := rfl
    rw [h1] at h0 ⊢
    rw [h2]
    rw [BitVec.toInt_eq_toNat_cond] at h0 ⊢
    split
    · rfl
    · rename_i hn
      rw [if_neg hn] at h0
      have := x.toBitVec.isLt
      omega
  have e1 : ((x.toUInt64 >>> (k.toInt64.toUInt64 &&& Int64.toUInt64 63)).toInt64 &&& Int64.ofNat 1).toInt = ((x.toUInt64.toNat >>> K % 2 : Nat) : Int) := by
    have hb : ((x.toUInt64 >>> (k.toInt64.toUInt64 &&& Int64.toUInt64 63)).toInt64 &&& Int64.ofNat 1).toBitVec.toNat = x.toUInt64.toNat >>> K % 2 := by
      show ((x.toUInt64 >>> (k.toInt64.toUInt64 &&& Int64.toUInt64 63)).toBitVec &&& (Int64.ofNat 1).toBitVec).toNat = _
      rw [BitVec.toNat_and]
      show (x.toUInt64 >>> (k.toInt64.toUInt64 &&& Int64.toUInt64 63)).toNat &&& 1 = _
      rw [UInt64.toNat_shiftRight, hs, Nat.and_one_is_mod]
    show BitVec.toInt _ = _
    rw [BitVec.toInt_eq_toNat_cond, if_pos (by omega), hb]
  rw [e1]
  unfold ck_tb1
  rw [hx, hK, Int.toNat_natCast, Int.toNat_natCast, Nat.testBit, Nat.one_and_eq_mod_two]
  have h2 : (Int64.ofNat 1).toInt = 1 := by decide
  rw [h2]
  have h3 := Nat.mod_two_eq_zero_or_one (x.toUInt64.toNat >>> K)
  rcases h3 with h3 | h3 <;> rw [h3] <;> decide
/-- hasBit says whether the bit is there -/
theorem ck_hb_met {T : fT} {ws' : va_W} {sh' : List Nat} {l : Launch} {V : ck_Wd} {D : va_G} {tys : List (ClassId × FieldType)} {ws : va_W} {sz : Nat} {sw : Option Nat} {x : Int64} {k : Int32} (h0 : 0 ≤ x.toInt) (hk0 : 0 ≤ k.toInt) (hk1 : k.toInt ≤ 11) :
    Met l yX12_hasBit (.code yX12_hasBit cX12_hasBit 3 (some .boolean) :: V.2.2.2.2.1) ⟨0, 0, 0, 0⟩ (va_Pc [.long x, .int k] (ck_st V D tys ws sz sw))
      (fun _ st oc t => ∃ b : Int32, oc = .returned (some (.int b)) ∧ (¬ b.toInt = 0 ↔ ck_tb1 x.toInt k.toInt = true) ∧ t.heap = st.heap ∧ fr T cX12_hasBit [.long x, .int k] ws' sh' (some (.int b)) ws' sh' ∧ f_rk 2 (some (.int b))) 0 0 (va_A ws sz) := by
  refine ck_ofW (cc := cX12_hasBit) (maxL := 3) (ret := some .boolean) (by decide +kernel) rfl ?_
  intro p e s m args below meth c s₁ B hml hv
  obtain ⟨rfl, -⟩ := hv
  have hx := B.exec
  have hb := B.bytes
  have hr := B.returns
  have hlocks := B.notSynchronized
  have hl := lv_entry [Value.long x, Value.int k] (n := 3) (show 3 ≤ 3 from Nat.le_refl 3)
  rw [lg_entry_eq]
  generalize (lg_sl [Value.long x, Value.int k] ++ List.replicate (3 - (lg_sl [Value.long x, Value.int k]).length) Slot.unset).toArray = ls at hl ⊢
  have hl1 : lv_has ls 3 [(0, .long x), (2, .int k)] := hl
  suffices key : WG T (0, lv_args 0 [.long x, .int k], [], ws', sh') p l e (headSpec (.code yX12_hasBit cX12_hasBit 3 (some .boolean) :: V.2.2.2.2.1) ⟨0, 0, 0, 0⟩).room s m [Value.long x, Value.int k].toArray below meth c ws' sh' s.heap [] 0 0 (MQ below (fun _ st oc t => ∃ b : Int32, oc = .returned (some (.int b)) ∧ (¬ b.toInt = 0 ↔ ck_tb1 x.toInt k.toInt = true) ∧ t.heap = st.heap ∧ fr T cX12_hasBit [.long x, .int k] ws' sh' (some (.int b)) ws' sh' ∧ f_rk 2 (some (.int b))) [Value.long x, Value.int k].toArray s 0 0 (va_A ws sz)) (0, ls, []) from key _ (by rw [hml]; exact hl) gr.rf
  have d0 : decode cX12_hasBit 0 = .ok (.lload_n 0, 1) := by decide +kernel
  have d1 : decode cX12_hasBit 1 = .ok (.iload_n 2, 1) := by decide +kernel
  have d2 : decode cX12_hasBit 2 = .ok (.lushr, 1) := by decide +kernel
  have d3 : decode cX12_hasBit 3 = .ok (.lconst 1, 1) := by decide +kernel
  have d4 : decode cX12_hasBit 4 = .ok (.land, 1) := by decide +kernel
  have d5 : decode cX12_hasBit 5 = .ok (.lconst 1, 1) := by decide +kernel
  have d6 : decode cX12_hasBit 6 = .ok (.lcmp, 1) := by decide +kernel
  have d10 : decode cX12_hasBit 10 = .ok (.iconst 1, 1) := by decide +kernel
  have d11 : decode cX12_hasBit 11 = .ok (.goto 4, 3) := by decide +kernel
  have d14 : decode cX12_hasBit 14 = .ok (.iconst 0, 1) := by decide +kernel
  have d15 : decode cX12_hasBit 15 = .ok (.ireturn, 1) := by decide +kernel
  refine WG.ld (fun h => lv_lload_n hx hb d0 rfl (lv_at hl1 0 rfl) h) (lv_at hl1 0 rfl) hb d0 (fun _ _ h => h) ?_
  refine WG.ld (fun h => lv_iload_n hx hb d1 rfl (lv_at hl1 1 rfl) h) (lv_at hl1 1 rfl) hb d1 (fun _ _ h => h) ?_
  refine WG.up (fun h => lv_lushr hx hb d2 rfl h) hb d2 (fun lg => ⟨_, _, _, rfl, rfl⟩) ?_
  refine WG.up (fun h => lv_lconst hx hb (v := Int64.ofNat 1) d3 rfl h) hb d3 (fun lg => rfl) ?_
  refine WG.up (fun h => lv_land hx hb d4 h) hb d4 (fun lg => ⟨_, _, _, rfl, rfl⟩) ?_
  refine WG.up (fun h => lv_lconst hx hb (v := Int64.ofNat 1) d5 rfl h) hb d5 (fun lg => rfl) ?_
  refine WG.up (fun h => W.lcmp hx hb d6 h) hb d6 (fun lg => ⟨_, _, _, rfl, rfl⟩) ?_
  have hv := ck_hb_v h0 hk0 hk1
  have fin : ∀ b : Int32, b.toInt = 0 ∨ b.toInt = 1 → (¬ b.toInt = 0 ↔ ck_tb1 x.toInt k.toInt = true) → WG T (0, lv_args 0 [.long x, .int k], [], ws', sh') p l e (headSpec (.code yX12_hasBit cX12_hasBit 3 (some .boolean) :: V.2.2.2.2.1) ⟨0, 0, 0, 0⟩).room s m [Value.long x, Value.int k].toArray below meth c ws' sh' s.heap [] 0 0 (MQ below (fun _ st oc t => ∃ b : Int32, oc = .returned (some (.int b)) ∧ (¬ b.toInt = 0 ↔ ck_tb1 x.toInt k.toInt = true) ∧ t.heap = st.heap ∧ fr T cX12_hasBit [.long x, .int k] ws' sh' (some (.int b)) ws' sh' ∧ f_rk 2 (some (.int b))) [Value.long x, Value.int k].toArray s 0 0 (va_A ws sz)) (15, ls, [.int b]) := by
    intro b hb1 hb2 lg hlg hgr
    refine W.zret hx hb hr (ck_nar_b (by omega) (by omega)).1 (fun t ht hW => ⟨b, rfl, hb2, ht, ⟨15, lg, 1, by rw [hb] at hgr; exact hgr, d15⟩, b, rfl, by omega, by omega⟩) (fun q hq => absurd hq List.not_mem_nil) d15 hlocks
  refine ck_row_if hx hb (cd := .ne) (off := 7) (tgt := 14) (by decide +kernel) (by decide) (fun h => ?_) (fun h => ?_)
  · have h : ¬ (lg_cmp _ _).toInt = 0 := h
    rw [ck_lg] at h
    refine WG.up (fun h => lv_iconst hx hb d14 rfl h) hb d14 (fun lg => rfl) ?_
    refine fin _ (Or.inl (by decide)) ⟨fun z => absurd (by decide) z, fun z => ?_⟩
    have := hv.mpr z
    rw [this] at h
    exact absurd (by rw [if_neg (Int.lt_irrefl _), if_pos rfl]) h
  · have h : ¬ ¬ (lg_cmp _ _).toInt = 0 := h
    rw [ck_lg] at h
    refine WG.up (fun h => lv_iconst hx hb d10 rfl h) hb d10 (fun lg => rfl) ?_
    refine WG.up (fun h => lv_goto hx hb (off := 4) (tgt := 15) d11 (by decide) h) hb d11 (fun lg => ⟨15, rfl, rfl⟩) ?_
    refine fin _ (Or.inr (by decide)) ⟨fun _ => hv.mp ?_, fun _ => by decide⟩
    have h := Decidable.of_not_not h
    split at h
    · exact absurd h (by decide)
    · split at h
      · assumption
      · exact absurd h (by decide)
theorem ck_no_low {A : Int} (h1 : 1 ≤ A) (h2 : A ≤ 4095) (h : ∀ i : Nat, i < 12 → A.toNat.testBit i = false) : False := by
  have hz : A.toNat = 0 := by
    refine Nat.eq_of_testBit_eq (fun i => ?_)
    rw [Nat.zero_testBit]
    rcases Nat.lt_or_ge i 12 with hi | hi
    · exact h i hi
    · refine Nat.testBit_lt_two_pow (Nat.lt_of_lt_of_le (show A.toNat < 2 ^ 12 by omega) (Nat.pow_le_pow_right (by decide) hi))
  omega
section
variable {Fc : Nat → Nat × fR} {s0 : fS} {p : Program} {l : Launch} {e : Env} {R : Room} {s : State} {m : MethodId} {args : Array Value} {below : List Frame} {meth : Method} {c : Code} {Q : State → Prop} {D : va_G} {tys : List (ClassId × FieldType)} {M : ck_Me} {sc : ck_sc} {A : Nat → Prop} {V : ck_Wd} {ws0 : va_W} {sh0 : List Nat}
/-- while (!hasBit(set, e)) e++: ends with e in 0..11 -/
theorem ck_lw_loop {Tb : fT} (hFb : (Fc (3 * 158 + 1)).1 = 2 ∧ ∀ (As : List Value) (ws : va_W) (sh : List Nat) (rv : Option Value), fr Tb cX12_hasBit As ws sh rv ws sh → f_dj ws → (∃ tys, ck_wo tys (mTT M) (mSG M) ws sh ∧ ck_wo tys (mTT M) (mSG M) ws sh) → f_rk 2 rv → (Fc (3 * 158 + 1)).2 As ws sh rv ws sh) (X : ck_cx p l e R s m args below meth c cX12_layWorlds "ReasonDeskModel" D V.1 tys M sc A) (hts : ∀ w ∈ V.2.2.2.2.1, w.before args s = true) (htl : tys.map Prod.snd = V.2.2.2.1) (hsw : sc.2.1.isSome = true) (hnc : ck_nq V s) (hg : ck_gd V.2.2.2.2.1)
    (hwd : ∀ w ∈ ([.methodLink "ReasonDeskModel" 158 yX12_hasBit, .static yX12_hasBit, .initialized yX12_hasBit.cls, .code yX12_hasBit cX12_hasBit 3 (some .boolean)] : List Cond), w ∈ V.2.2.2.2.1) (hR : 1 ≤ R.frames ∧ 30 ≤ R.locals)
    {ws : va_W} {sh : List Nat} (hwo : ck_wo tys (mTT M) (mSG M) ws sh) {H : Heap} {cells slots : Nat} (hP : va_P D V.1 ws H) (hD : va_D A ws) (hcs : cells ≤ R.cells ∧ slots ≤ R.slots) {x : Int32} (x1 : 1 ≤ x.toInt) (x2 : x.toInt ≤ 4095) {lvr : List (Nat × Value)} (hfil : lvr.filter (fun q => !(q.1 == 2) && !(q.1 + 1 == 2 && q.2.category == 2)) = lvr) (hm1 : (1, Value.int x) ∈ lvr) (hn2 : 2 < mnL M)
    (kk : ∀ (e' : Int32) (ls' : Array Slot) (locs' : List Loc), 0 ≤ e'.toInt → e'.toInt ≤ 11 → lv_has ls' (mnL M) ((2, .int e') :: lvr) → va_S A s.heap H locs' → WG (tM M Fc sc.1) s0 p l e R s m args below meth c ws sh H locs' cells slots Q (64, ls', [])) :
    ∀ (f j : Nat), j + f = 12 → ∀ (e0 : Int32) (ls : Array Slot) (locs : List Loc), e0.toInt = (j : Int) → (∀ i, i < j → x.toInt.toNat.testBit i = false) → lv_has ls (mnL M) ((2, .int e0) :: lvr) → va_S A s.heap H locs → WG (tM M Fc sc.1) s0 p l e R s m args below meth c ws sh H locs cells slots Q (49, ls, []) := by
  intro f
  induction f with
  | zero =>
    intro j hj e0 ls locs he hbits hls hS
    exact (ck_no_low x1 x2 (fun i hi => hbits i (by omega))).elim
  | succ f ih =>
    intro j hj e0 ls locs he hbits hls hS
    have hb := X.2.1
    have d49 : decode cX12_layWorlds 49 = .ok (.iload_n 1, 1) := by decide +kernel
    have d50 : decode cX12_layWorlds 50 = .ok (.i2l, 1) := by decide +kernel
    have d51 : decode cX12_layWorlds 51 = .ok (.iload_n 2, 1) := by decide +kernel
    have d58 : decode cX12_layWorlds 58 = .ok (.iinc 2 1, 3) := by decide +kernel
    have d61 : decode cX12_layWorlds 61 = .ok (.goto (-12), 3) := by decide +kernel
    refine WG.ld (fun h => lv_iload_n X.1 hb d49 rfl (hls.2.2 (1, .int x) (List.mem_cons_of_mem _ hm1)) h) (hls.2.2 (1, .int x) (List.mem_cons_of_mem _ hm1)) hb d49 (fun _ _ h => h) ?_
    refine WG.up (fun h => lv_i2l X.1 hb d50 rfl h) hb d50 (fun lg => ⟨x, _, rfl, rfl⟩) ?_
    refine WG.ld (fun h => lv_iload_n X.1 hb d51 rfl (hls.2.2 (2, .int e0) List.mem_cons_self) h) (hls.2.2 (2, .int e0) List.mem_cons_self) hb d51 (fun _ _ h => h) ?_
    have hxl : x.toInt64.toInt = x.toInt := Int32.toInt_toInt64 x
    have hA1 : ∀ q, va_A ws H.size q → A q := by
      rintro q (⟨k, e', h⟩ | h)
      · exact hD.2 k _ h
      · exact X.2.2.2.2.1 q (Nat.le_trans hS.1 h)
    have hMet := ck_hb_met (T := Tb) (ws' := ws) (sh' := sh) (l := l) (V := V) (D := D) (tys := tys) (ws := ws) (sz := H.size) (sw := sc.2.1) (x := x.toInt64) (k := e0) (by omega) (by omega) (by omega)
    have hpre : ∀ U : State, U.heap = H → s.WarmedH U.vm → va_Pc [.long x.toInt64, .int e0] (ck_st V D tys ws H.size sc.2.1) [Value.long x.toInt64, Value.int e0].toArray U := by
      intro U hU hW
      refine ⟨rfl, by rw [hU], by rw [hU]; exact hP, va_K.moved hW.alike X.2.2.2.1, hD.weaken (fun _ _ _ _ => trivial), hnc.warm hW, fun w hw => ?_⟩
      obtain ⟨g1, g2⟩ := X.2.2.2.2.2.2.2.2.2 w hw
      exact ⟨by rw [hU]; exact ((g1.kept hS.2.1).narrow hA1).moved hW.alike, by rw [hU]; exact ((g2.kept hS.2.1).narrow hA1).moved hW.alike⟩
    have hGi : GoodIn V.2.2.2.2.1 (va_wsS "ReasonDeskModel" 158 yX12_hasBit (.code yX12_hasBit cX12_hasBit 3 (some .boolean) :: V.2.2.2.2.1)) := ck_good hg (fun w hww => by
      rcases List.mem_append.mp hww with q | q
      · simp only [List.mem_cons, List.not_mem_nil, or_false] at q
        rcases q with rfl | rfl | rfl <;> exact hwd _ (by simp)
      · rcases List.mem_cons.mp q with rfl | q
        · exact hwd _ (by simp)
        · exact q)
    have hd52 : decode cX12_layWorlds 52 = .ok (.invokestatic 158, 3) := by decide +kernel
    have run := va_runS (rest := []) (nL := mnL M) ⟨X.1, hb, X.2.2.2.2.2.1, X.2.2.1, hts⟩ hMet (va_cwS (R := R) (maxL := 3) 2 hts hGi rfl rfl rfl ⟨by decide, by decide, by decide +kernel⟩ ⟨by show 0 + 1 ≤ _; omega, by show 8 + (3 + 11) + 0 ≤ _; omega⟩) (l := l) (e := e) (below := below) (meth := meth) (locs := locs) (cells := cells) (slots := slots) ⟨ck_st_blind, hpre⟩ (g := F0 m 52 ls [.int e0, .long x.toInt64]) rfl rfl hls.1 rfl (ck_lroom (by decide)) hd52 ⟨hcs.1, hcs.2⟩
    intro lg hlg hgr T hT Xs
    obtain ⟨v, st₀, u, T', L, h0, X', hL, e1, e2, ⟨b, hrv, hbt, hheap, hfr, hrk⟩, st⟩ := run T hT Xs
    cases hrv
    have hS' : va_S A s.heap H (locs ++ L) := ⟨hS.1, hS.2.1, fun q hq => by
      rcases List.mem_append.mp hq with h | h
      · exact hS.2.2 q h
      · exact hA1 _ (hL q h)⟩
    have next : WG (tM M Fc sc.1) s0 p l e R s m args below meth c ws sh H (locs ++ L) cells slots Q (55, ls, [.int b]) := by
      refine ck_row_if X.1 hb (cd := .ne) (off := 9) (tgt := 64) (by decide +kernel) (by decide) (fun h => ?_) (fun h => ?_)
      · exact kk e0 ls _ (by omega) (by omega) hls hS'
      · have h : ¬ ¬ b.toInt = 0 := h
        have hbf : x.toInt.toNat.testBit j = false := by
          cases hc : x.toInt.toNat.testBit j with
          | false => rfl
          | true =>
            refine absurd (hbt.mpr ?_) h
            unfold ck_tb1
            rw [hxl, he]
            exact hc
        refine WG.st hls (fun lv0 h0 hs0 kk0 => by
            obtain ⟨k0, hk0⟩ := List.getElem?_of_mem (hs0 _ List.mem_cons_self)
            exact lv_iinc X.1 hb (v := e0 + Int32.ofInt 1) d58 h0 hk0 rfl hn2 rfl kk0) hb d58 (fun lg hlg => ⟨e0, fun w hw => by
            have h1 := hlg.2.2 (2, w) hw
            have h2 := hls.2.2 (2, .int e0) List.mem_cons_self
            rw [h1] at h2
            cases h2
            rfl, rfl⟩) (fun ls' hls' => ?_)
        rw [List.filter_cons] at hls'
        simp only [beq_self_eq_true, Bool.not_true, Bool.false_and, Bool.false_eq_true, if_false] at hls'
        rw [hfil] at hls'
        refine WG.up (fun h => lv_goto X.1 hb (off := -12) (tgt := 49) d61 (by decide) h) hb d61 (fun lg => ⟨49, rfl, rfl⟩) ?_
        have hj11 : j ≤ 11 := by omega
        refine ih (j + 1) (by omega) _ ls' _ ?_ (fun i hi => ?_) hls' hS'
        · have h1 : (Int32.ofInt 1).toInt = 1 := by decide
          have e32 : e0 = Int32.ofNat j := by
            have := ck_i32 (b := e0) (by omega)
            rw [he] at this
            exact this
          rw [e32]
          have hd : ∀ j, j < 12 → (Int32.ofNat j + Int32.ofInt 1).toInt = ((j + 1 : Nat) : Int) := by decide +kernel
          exact hd j (by omega)
        · rcases Nat.lt_or_ge i j with hij | hij
          · exact hbits i hij
          · rw [show i = j by omega]
            exact hbf
    obtain ⟨t2, a1, b1⟩ := next lg hlg (hgr.nx hb hd52 ⟨[.long x.toInt64, .int e0], [], some (.int b), ws, sh, rfl, hFb.1.symm, hFb.2 _ _ _ _ hfr hD.1 ⟨tys, hwo, hwo⟩ hrk, rfl⟩) T' (by rw [e1, hheap, h0]) X'
    exact ⟨t2, st t2 a1, b1⟩
/-- from 49 to 64 -/
def ck_sLw (F : Nat) (S : ck_S) : Option (List ck_S) := match S.2.1, ck_look S.1 1, ck_look S.1 2 with
  | [], some a, some b => if a.1 = 0 ∧ b.1 = 0 ∧ ck_ent S.2.2.2.1 S.2.2.2.2.1 F 0 a.2.1 (-1) = true ∧ ck_ent S.2.2.2.1 S.2.2.2.2.1 F a.2.1 0 4095 = true ∧ ck_ent S.2.2.2.1 S.2.2.2.2.1 F 0 b.2.1 0 = true ∧ ck_ent S.2.2.2.1 S.2.2.2.2.1 F b.2.1 0 0 = true ∧ S.2.2.2.2.2 = (0, 0) then
      some [(ck_st1 S.1 2 (0, S.2.2.2.1.length, []), [], S.2.2.1, S.2.2.2.1 ++ [(0, 11)], S.2.2.2.2.1, S.2.2.2.2.2)] else none
  | _, _, _ => none
theorem ck_sLw_ok {Tb : fT} (hFb : (Fc (3 * 158 + 1)).1 = 2 ∧ ∀ (As : List Value) (ws : va_W) (sh : List Nat) (rv : Option Value), fr Tb cX12_hasBit As ws sh rv ws sh → f_dj ws → (∃ tys, ck_wo tys (mTT M) (mSG M) ws sh ∧ ck_wo tys (mTT M) (mSG M) ws sh) → f_rk 2 rv → (Fc (3 * 158 + 1)).2 As ws sh rv ws sh) (X : ck_cx p l e R s m args below meth c cX12_layWorlds "ReasonDeskModel" D V.1 tys M sc A) (hts : ∀ w ∈ V.2.2.2.2.1, w.before args s = true) (htl : tys.map Prod.snd = V.2.2.2.1) (hsw : sc.2.1.isSome = true) (hnc : ck_nq V s) (hg : ck_gd V.2.2.2.2.1)
    (hwd : ∀ w ∈ ([.methodLink "ReasonDeskModel" 158 yX12_hasBit, .static yX12_hasBit, .initialized yX12_hasBit.cls, .code yX12_hasBit cX12_hasBit 3 (some .boolean)] : List Cond), w ∈ V.2.2.2.2.1) (hR : 1 ≤ R.frames ∧ 30 ≤ R.locals) (hn2 : 2 < mnL M)
    {F : Nat} {S : ck_S} {L : List ck_S} (h : ck_sLw F S = some L) (hk : ∀ S' ∈ L, ck_g Fc s0 p l e R s m args below meth c Q D V.1 tys M sc A ws0 sh0 S' 64) : ck_g Fc s0 p l e R s m args below meth c Q D V.1 tys M sc A ws0 sh0 S 49 := by
  intro n ws sh H locs ls vs o hw hx hP hD hS
  unfold ck_sLw at h
  split at h
  · rename_i a b hst ha hb
    split at h
    · rename_i hc
      obtain ⟨c1, c2, c3, c4, c5, c6, c7⟩ := hc
      have hcs : ck_oc R M + S.2.2.2.2.2.1 ≤ R.cells ∧ ck_os R M + S.2.2.2.2.2.2 ≤ R.slots := by rw [c7]; exact ⟨Nat.sub_le _ _, Nat.sub_le _ _⟩
      have eL := Option.some.inj h
      have o3 := o.2.2.1
      rw [hst] at o3
      cases vs with
      | cons _ _ => exact o3.elim
      | nil =>
        have p3 := ck_ent_ok o.2.2.2.2.1 o.2.2.2.2.2 F _ _ _ c3
        have p4 := ck_ent_ok o.2.2.2.2.1 o.2.2.2.2.2 F _ _ _ c4
        have p5 := ck_ent_ok o.2.2.2.2.1 o.2.2.2.2.2 F _ _ _ c5
        have p6 := ck_ent_ok o.2.2.2.2.1 o.2.2.2.2.2 F _ _ _ c6
        rw [o.1.2] at p3 p4 p5 p6
        obtain ⟨lv, l1, l2⟩ := id o.2.1
        have get : ∀ (i : Nat) (v : ck_V), ck_look S.1 i = some v → v.1 = 0 → ∃ z : Int32, (i, Value.int z) ∈ lv ∧ z.toInt = (n v.2.1).1 := by
          intro i v hv h0
          unfold ck_look at hv
          cases hf : S.1.find? (fun q => q.1 == i) with
          | none => rw [hf] at hv; cases hv
          | some q0 =>
            rw [hf] at hv
            have e1 : q0.2 = v := Option.some.inj hv
            have hm := List.mem_of_find?_eq_some hf
            have hp := List.find?_some hf
            have hi0 : q0.1 = i := eq_of_beq hp
            obtain ⟨y, hy, z1, z2⟩ := ck_two.mem l2 hm
            rw [e1] at z2
            obtain ⟨hlt, x, ex, ex2⟩ := z2.i h0
            refine ⟨x, ?_, ex2⟩
            have ey : y = (i, .int x) := by rw [← hi0, z1, ← ex]
            rw [← ey]
            exact hy
        obtain ⟨x, hx1, ex⟩ := get 1 a ha c1
        obtain ⟨e0, hx2, ee⟩ := get 2 b hb c2
        have hfil : (lv.filter (fun q => !(q.1 == 2) && !(q.1 + 1 == 2 && q.2.category == 2))).filter (fun q => !(q.1 == 2) && !(q.1 + 1 == 2 && q.2.category == 2)) = lv.filter (fun q => !(q.1 == 2) && !(q.1 + 1 == 2 && q.2.category == 2)) := by
          rw [List.filter_filter]
          congr 1
          funext q
          exact Bool.and_self _
        refine ck_lw_loop hFb X hts htl hsw hnc hg hwd hR hw hP hD hcs (x := x) (by omega) (by omega) hfil (List.mem_filter.mpr ⟨hx1, rfl⟩) hn2 (fun e' ls' locs' h1 h2 hl hS' => ?_) 12 0 rfl e0 ls locs (by omega) (fun i hi => absurd hi (Nat.not_lt_zero i)) ⟨l1.1, l1.2.1, fun q hq => ?_⟩ hS
        · have hlen : (S.2.2.2.1 ++ [((0 : Int), (11 : Int))]).length = S.2.2.2.1.length + 1 := by simp
          have o1 := o.new (st := []) (vs' := []) trivial (tag := 0) (ts := []) (iv := (0, 11)) (rs := []) (x := (e'.toInt, .null)) (v := .int e') (.mi (Nat.lt_succ_self _) (by rw [ck_nx_eq])) (fun _ => ⟨h1, h2⟩) (fun r hr => by cases hr)
          obtain ⟨lv', k1, k2⟩ := o1.2.1
          have o2 : ck_so (mnL M) (mSG M) (ck_st1 S.1 2 (0, S.2.2.2.1.length, []), [], S.2.2.1, S.2.2.2.1 ++ [(0, 11)], S.2.2.2.2.1, S.2.2.2.2.2) (ck_nx n S.2.2.2.1.length (e'.toInt, .null)) ws sh sc ls' [] := by
            refine ⟨o1.1, ⟨_, hl, ⟨⟨rfl, ?_⟩, ?_⟩⟩, trivial, o1.2.2.2⟩
            · refine .mi ?_ (by rw [ck_nx_eq])
              show _ < (S.2.2.2.1 ++ [((0 : Int), (11 : Int))]).length
              rw [hlen]
              exact Nat.lt_succ_self _
            · have l3 := (ck_lo.up (n' := ck_nx n S.2.2.2.1.length (e'.toInt, .null)) ck_nx_lt (N' := (S.2.2.2.1 ++ [((0 : Int), (11 : Int))]).length) (by rw [hlen]; exact Nat.le_succ _) (⟨lv, l1, l2⟩ : ck_lo ws sh sc n S.2.2.2.1.length (mnL M) S.1 ls))
              exact ((l2.imp fun u w huw => ⟨huw.1, huw.2.up (n' := ck_nx n S.2.2.2.1.length (e'.toInt, .null)) ck_nx_lt (N' := (S.2.2.2.1 ++ [((0 : Int), (11 : Int))]).length) (by rw [hlen]; exact Nat.le_succ _)⟩) : ck_two _ S.1 lv).flt ck_flt1
          exact (hk _ (by rw [← eL]; exact List.mem_cons_self)).at o2 hw hx hP hD hS' rfl
        · rcases List.mem_cons.mp hq with rfl | hq
          · exact l1.2.2 _ hx2
          · exact l1.2.2 q (List.mem_filter.mp hq).1
    · cases h
  · cases h
end
end
noncomputable section
/-! an array's content, by its note: loads and stores at a known place; a contract by parts with cases of their own -/
def ck_k1 (E : ck_E) (i : Nat) : Option Nat := match E[i]? with
  | some iv => if iv.1 = iv.2 ∧ 0 ≤ iv.1 then some iv.1.toNat else none
  | none => none
theorem ck_k1_ok {E : ck_E} {n : ck_N} {i z : Nat} (h : ck_k1 E i = some z) (he : ck_eo E n) : (n i).1 = (z : Int) := by
  unfold ck_k1 at h
  split at h
  · rename_i iv hiv
    split at h
    · rename_i hc
      have e := Option.some.inj h
      have p := he i iv hiv (by omega)
      omega
    · cases h
  · cases h
def ck_sCl (F t len : Nat) (S : ck_S) : Option (List ck_S) := match S.2.1 with
  | i :: r :: st => if i.1 = 0 ∧ r.1 = 2 ∧ r.2.2 = [t] ∧ ck_ent S.2.2.2.1 S.2.2.2.2.1 F 0 i.2.1 0 = true ∧ ck_ent S.2.2.2.1 S.2.2.2.2.1 F i.2.1 0 ((len : Int) - 1) = true then (match ck_k1 S.2.2.2.1 i.2.1, ck_fn t 50 S with
    | some z, some y => (match y.2[z]? with
      | some k => some [(S.1, (0, k, []) :: st, S.2.2)]
      | none => none)
    | _, _ => none) else none
  | _ => none
def ck_sCs (F t len : Nat) (lo hi : Int) (S : ck_S) : Option (List ck_S) := match S.2.1 with
  | v :: i :: r :: st => if v.1 = 0 ∧ i.1 = 0 ∧ r.1 = 2 ∧ r.2.2 = [t] ∧ ck_ent S.2.2.2.1 S.2.2.2.2.1 F 0 i.2.1 0 = true ∧ ck_ent S.2.2.2.1 S.2.2.2.2.1 F i.2.1 0 ((len : Int) - 1) = true ∧ ck_ent S.2.2.2.1 S.2.2.2.2.1 F v.2.1 0 hi = true ∧ ck_ent S.2.2.2.1 S.2.2.2.2.1 F 0 v.2.1 (-lo) = true then (match ck_k1 S.2.2.2.1 i.2.1, ck_fn t 50 S with
    | some z, some y => some [(S.1, st, (t, 0, (50, y.1, y.2.set z v.2.1)) :: S.2.2.1.filter (fun m => !(m.1 == t)), S.2.2.2)]
    | _, _ => none) else none
  | _ => none
section
variable {Fc : Nat → Nat × fR} {s0 : fS} {p : Program} {l : Launch} {e : Env} {R : Room} {s : State} {m : MethodId} {args : Array Value} {below : List Frame} {meth : Method} {c : Code} {Q : State → Prop} {cc : ByteArray} {own : String} {D : va_G} {cl : List vw_C} {tys : List (ClassId × FieldType)} {M : ck_Me} {sc : ck_sc} {A : Nat → Prop} {ws0 : va_W} {sh0 : List Nat} {S : ck_S} {pc : Nat}
theorem ck_sCl_ok (X : ck_cx p l e R s m args below meth c cc own D cl tys M sc A) {F t len k0 : Nat} {T : ck_T} (hTT : (mTT M)[t]? = some (1, len, k0, [T])) {L : List ck_S} (h : ck_sCl F t len S = some L) (hk : ∀ S' ∈ L, ck_g Fc s0 p l e R s m args below meth c Q D cl tys M sc A ws0 sh0 S' (pc + 1)) (hdg : decode cc pc = .ok (.iaload, 1)) : ck_g Fc s0 p l e R s m args below meth c Q D cl tys M sc A ws0 sh0 S pc := by
  intro n ws sh H locs ls vs o hw hx hP hD hS
  unfold ck_sCl at h
  split at h
  · rename_i i r st hst
    split at h
    · rename_i hc
      split at h
      · rename_i z y hz hy
        split at h
        · rename_i k hky
          have eL := Option.some.inj h
          refine ck_ird X hTT hst hc hdg o hw hP hD (fun q a cA f vs2 hq ht hil hn0 hn1 hb h5 => ?_)
          obtain ⟨x, hx1, x1, x2, x3, x4⟩ := ck_fn_ok hy
          obtain ⟨g1, g2, g3, g4, cA', len', f', e1, g5⟩ := ck_note o hx1 x1 x2 (by decide) hw.2.2 hq ht
          cases e1
          have g5 : ∀ (i : Nat) (z : Int), (x.2.2.2.2.map (fun j => (n j).1))[i]? = some z → (f i).toInt = z := g5
          have hzi := ck_k1_ok hz o.2.2.2.2.1
          have hmem : k ∈ x.2.2.2.2 := by rw [x4]; exact List.mem_of_getElem? hky
          have hv := g5 z (n k).1 (by rw [List.getElem?_map, x4, hky]; rfl)
          have ez : (n i.2.1).1.toNat = z := by omega
          rw [ez]
          exact (hk (S.1, (0, k, []) :: st, S.2.2) (by rw [← eL]; exact List.mem_cons_self)).at (S := S) (o.ss (st := (0, k, []) :: st) ⟨.mi (g4 k hmem) hv, h5⟩) hw hx hP hD hS rfl
        · cases h
      · cases h
    · cases h
  · cases h
theorem ck_sCs_ok (X : ck_cx p l e R s m args below meth c cc own D cl tys M sc A) {F t len k0 : Nat} {lo hi : Int} {ts : List Nat} (hTT : (mTT M)[t]? = some (1, len, k0, [(0, lo, hi, ts)])) (hW : (t, 0) ∈ mWr M) {L : List ck_S} (h : ck_sCs F t len lo hi S = some L) (hk : ∀ S' ∈ L, ck_g Fc s0 p l e R s m args below meth c Q D cl tys M sc A ws0 sh0 S' (pc + 1)) (hdg : decode cc pc = .ok (.iastore, 1)) : ck_g Fc s0 p l e R s m args below meth c Q D cl tys M sc A ws0 sh0 S pc := by
  intro n ws sh H locs ls vs o hw hx hP hD hS
  unfold ck_sCs at h
  split at h
  · rename_i v i r st hst
    split at h
    · rename_i hc
      obtain ⟨hv0, hi0, hr2, hrt, hb1, hb2, hb3, hb4⟩ := hc
      split at h
      · rename_i z y hz hy
        have eL := Option.some.inj h
        have o3 := o.2.2.1
        rw [hst] at o3
        obtain ⟨vv, vs0, rfl, h1, h1'⟩ := ck_hd o3
        obtain ⟨iv', vs1, rfl, h2, h3⟩ := ck_hd h1'
        obtain ⟨ra, vs2, rfl, h4, h5⟩ := ck_hd h3
        obtain ⟨hvl, v0, rfl, ev⟩ := h1.i hv0
        obtain ⟨hil, x, rfl, ex⟩ := h2.i hi0
        obtain ⟨-, -, q, a, e0, t', rfl, hq, ht, htm⟩ := h4.r hr2
        rw [hrt] at htm
        rw [List.mem_singleton.mp htm] at ht
        have p1 := ck_ent_ok o.2.2.2.2.1 o.2.2.2.2.2 F _ _ _ hb1
        have p2 := ck_ent_ok o.2.2.2.2.1 o.2.2.2.2.2 F _ _ _ hb2
        have p3 := ck_ent_ok o.2.2.2.2.1 o.2.2.2.2.2 F _ _ _ hb3
        have p4 := ck_ent_ok o.2.2.2.2.1 o.2.2.2.2.2 F _ _ _ hb4
        rw [o.1.2] at p1 p2 p3 p4
        obtain ⟨y0, hy1, x1, x2, x3, x4⟩ := ck_fn_ok hy
        obtain ⟨g1, g2, g3, g4, cA0, len0, f0, e1, g5⟩ := ck_note o hy1 x1 x2 (by decide) hw.2.2 hq ht
        have hzi := ck_k1_ok hz o.2.2.2.2.1
        subst e1
        refine ck_ist X hTT hW hw hx hP hD hS hq ht (by omega) (by omega) ⟨by dsimp only; omega, by dsimp only; omega⟩ hdg (fun cA' f' H1 locs1 ee w1 w2 w3 hP1 hD1 hS1 hq' => ?_)
        have eff : f0 = f' := by cases ee; rfl
        subst eff
        have g5 : ∀ (i : Nat) (z : Int), (y0.2.2.2.2.map (fun j => (n j).1))[i]? = some z → (f0 i).toInt = z := g5
        have o1 := o.wr h5 w1
        have o2 := o1.nt (x := (t, 0, (50, y.1, y.2.set z v.2.1))) (by
          refine ⟨by dsimp only; omega, g2, g1, rfl, by rw [← x3]; exact g3, fun j hj => ?_, q, a, cA', len, upd f0 x.toInt.toNat v0, ht, hq', ?_⟩
          · rcases List.mem_or_eq_of_mem_set hj with hj | rfl
            · exact g4 j (by rw [x4]; exact hj)
            · exact hvl
          · show ∀ (i : Nat) (z' : Int), ((y.2.set z v.2.1).map (fun j => (n j).1))[i]? = some z' → (upd f0 x.toInt.toNat v0 i).toInt = z'
            intro j z' hj
            have ez : x.toInt.toNat = z := by omega
            rw [ez]
            unfold upd
            rw [List.getElem?_map, List.getElem?_set] at hj
            by_cases ej : z = j
            · rw [if_pos ej] at hj
              rw [if_pos ej.symm]
              split at hj
              · have h7 : (n v.2.1).1 = z' := Option.some.inj hj
                omega
              · cases hj
            · rw [if_neg ej] at hj
              rw [if_neg (fun q => ej q.symm)]
              exact g5 j z' (by rw [List.getElem?_map, x4]; exact hj))
        exact (hk _ (by rw [← eL]; exact List.mem_cons_self)).at o2 w2 w3 hP1 hD1 hS1 rfl
      · cases h
    · cases h
  · cases h
end
/-- a contract by parts of an argument, each with cases of its own -/
theorem ck_met_splitC {rr : fR} {V : ck_Wd} {l : Launch} {y : MethodName} {cc : ByteArray} {nL : Nat} {ret : Option FieldType} {rm : Room} {C : ck_C} {k : Nat} {iv : Int × Int} (hk : C.1.2.2.1[k]? = some iv) (hle : iv.1 ≤ iv.2) (ps : List ((Int × Int) × List ck_P)) (hcov : ∀ z, iv.1 ≤ z → z ≤ iv.2 → ∃ x ∈ ps, x.1.1 ≤ z ∧ z ≤ x.1.2)
    (h0 : 0 < C.1.2.2.1.length) (hsub : ∀ x ∈ ps, ∀ P ∈ x.2, C.1.2.2.1.length ≤ P.2.2.1.length ∧ (P.1, P.2.1, P.2.2.1, (k, 0, x.1.2) :: (0, k, -x.1.1) :: P.2.2.2) ∈ C.2.1)
    (h : ∀ x ∈ ps, ck_met V l y cc nL ret rm ((C.1.1, C.1.2.1, C.1.2.2.1.set k x.1, C.1.2.2.2), x.2, C.2.2) rr) : ck_met V l y cc nL ret rm C rr := by
  intro D tys ws sh sz n1 As sw htl hsw hn0 hpo hwo hph
  obtain ⟨z1, z2⟩ := hpo.2.2.1 k iv hk hle
  obtain ⟨x, hx, x1, x2⟩ := hcov _ z1 z2
  have hkl : k < C.1.2.2.1.length := (List.getElem?_eq_some_iff.mp hk).1
  have hl : (C.1.2.2.1.set k x.1).length = C.1.2.2.1.length := List.length_set
  have hm := h x hx D tys ws sh sz n1 As sw htl hsw hn0 (by
    show ck_po _ _ _ _ _ (C.1.2.2.1.set k x.1).length (C.1.1, C.1.2.1, C.1.2.2.1.set k x.1, C.1.2.2.2) As
    rw [hl]
    refine ⟨hpo.1, hpo.2.1, fun j w hj hjl => ?_, hpo.2.2.2⟩
    dsimp only at hj
    by_cases ej : k = j
    · subst ej
      rw [List.getElem?_set_self hkl] at hj
      have ew := Option.some.inj hj
      rw [← ew]
      exact ⟨x1, x2⟩
    · rw [List.getElem?_set_ne ej] at hj
      exact hpo.2.2.1 j w hj hjl) hwo hph
  refine MetFree.mono hm (fun _ _ h => h) (fun _ _ _ _ _ h => h) ?_
  rintro a st oc t - ⟨⟨⟨P, hP, rv, n2, ws', sh', q1, q2, q3, q4, q5, q6, q7, q8⟩, q9⟩, hfr⟩
  dsimp only at q2
  rw [hl] at q2
  obtain ⟨hPl, hPm⟩ := hsub x hx P hP
  refine ⟨⟨⟨_, hPm, rv, n2, ws', sh', q1, q2, q3, q4, q5, q6, ⟨q7.1, q7.2.1, q7.2.2.1, fun r hr => ?_⟩, q8⟩, q9⟩, hfr⟩
  have hn20 : (n2 0).1 = 0 := by rw [q2 0 h0]; exact hn0
  have hn2k : (n2 k).1 = (n1 k).1 := by rw [q2 k hkl]
  have hlt : k < P.2.2.1.length := Nat.lt_of_lt_of_le hkl hPl
  have hlt0 : 0 < P.2.2.1.length := Nat.lt_of_lt_of_le h0 hPl
  rcases List.mem_cons.mp hr with rfl | hr
  · refine ⟨hlt, hlt0, ?_⟩
    dsimp only
    rw [hn20, hn2k]
    omega
  · rcases List.mem_cons.mp hr with rfl | hr
    · refine ⟨hlt0, hlt, ?_⟩
      dsimp only
      rw [hn20, hn2k]
      omega
    · exact q7.2.2.2 r hr
/-- parts one behind the other leave nothing out -/
def ck_cv (lo hi : Int) : List (Int × Int) → Bool
  | [] => decide (hi < lo)
  | p :: l => decide (p.1 ≤ lo) && ck_cv (p.2 + 1) hi l
theorem ck_cv_ok {hi : Int} : ∀ {l : List ((Int × Int) × List ck_P)} {lo : Int}, ck_cv lo hi (l.map Prod.fst) = true → ∀ z, lo ≤ z → z ≤ hi → ∃ x ∈ l, x.1.1 ≤ z ∧ z ≤ x.1.2
  | [], lo, h, z, h1, h2 => by
    have h3 := of_decide_eq_true h
    omega
  | p :: l, lo, h, z, h1, h2 => by
    rw [List.map_cons, ck_cv, Bool.and_eq_true, decide_eq_true_eq] at h
    rcases Int.lt_or_le p.1.2 z with h3 | h3
    · obtain ⟨x, hx, g⟩ := ck_cv_ok h.2 z (by omega) h2
      exact ⟨x, List.mem_cons_of_mem _ hx, g⟩
    · exact ⟨p, List.mem_cons_self, by omega, h3⟩
end
noncomputable section
/-! decoding along a list of bytes -/
abbrev dcR : Type := Jvm.ClassFile.Decoder Nat
def dc_r (cc : ByteArray) (p : Nat) : Except Jvm.ClassFile.DecodeError (Nat × Nat) := Jvm.ClassFile.Reader.runAt (Jvm.ClassFile.Reader.u1 : dcR) cc p
theorem dc_u1 {cc : ByteArray} {p : Nat} {b : UInt8} {r : List UInt8} (h : cc.data.toList.drop p = b :: r) : dc_r cc p = .ok (b.toNat, p + 1) := by
  have hl : p < cc.data.toList.length := by
    have h1 := congrArg List.length h
    rw [List.length_drop, List.length_cons] at h1
    omega
  have hg : cc.data.toList[p] = b := by
    rw [List.drop_eq_getElem_cons hl] at h
    injection h
  have hs : p < cc.size := hl
  have e : cc[p] = b := hg
  rw [← e]
  show (dite (p < cc.size) (fun h => _) (fun h => _) : dcR) cc p = _
  rw [dif_pos hs]
  rfl
/-- what comes behind the first byte -/
def dcK (pc : Nat) : { K : Nat → Jvm.ClassFile.Decoder Instr // Jvm.ClassFile.Decoder.instr pc = (Jvm.ClassFile.Reader.u1 : dcR) >>= K } := ⟨_, rfl⟩
abbrev dc_s : Nat → Nat → Int := Jvm.ClassFile.Reader.signed
def dc_u2 (cc : ByteArray) (p : Nat) : Except Jvm.ClassFile.DecodeError (Nat × Nat) := Except.bind (dc_r cc p) (fun u => Except.bind (dc_r cc u.2) (fun v => .ok (u.1 * 256 + v.1, v.2)))
theorem dc_u2k {cc : ByteArray} {pc x y : Nat} (h1 : dc_r cc (pc + 1) = .ok (x, pc + 2)) (h2 : dc_r cc (pc + 2) = .ok (y, pc + 3)) : dc_u2 cc (pc + 1) = .ok (x * 256 + y, pc + 3) := by
  unfold dc_u2
  rw [h1]
  show Except.bind (dc_r cc (pc + 2)) _ = _
  rw [h2]
  rfl
section
variable {cc : ByteArray} {pc b : Nat} {i : Instr}
theorem dc_0 {n : Nat} (hb : dc_r cc pc = .ok (b, pc + 1)) (hK : (dcK pc).1 b cc (pc + 1) = .ok (i, pc + 1 + n)) : decode cc pc = .ok (i, 1 + n) := by
  unfold decode
  rw [(dcK pc).2]
  show Except.bind (Except.bind (dc_r cc pc) (fun x => (dcK pc).1 x.1 cc x.2)) _ = _
  rw [hb]
  show Except.bind ((dcK pc).1 b cc (pc + 1)) _ = _
  rw [hK]
  show Except.ok (i, pc + 1 + n - pc) = _
  rw [show pc + 1 + n - pc = 1 + n by omega]
theorem dc_1 {x : Nat} {f : Nat → Instr} (hb : dc_r cc pc = .ok (b, pc + 1)) (h1 : dc_r cc (pc + 1) = .ok (x, pc + 2)) (hK : (dcK pc).1 b cc (pc + 1) = Except.bind (dc_r cc (pc + 1)) (fun y => .ok (f y.1, y.2))) : decode cc pc = .ok (f x, 2) := dc_0 (n := 1) hb (by
  rw [hK, h1]
  rfl)
theorem dc_2 {x y : Nat} {f : Nat → Instr} (hb : dc_r cc pc = .ok (b, pc + 1)) (h1 : dc_r cc (pc + 1) = .ok (x, pc + 2)) (h2 : dc_r cc (pc + 2) = .ok (y, pc + 3)) (hK : (dcK pc).1 b cc (pc + 1) = Except.bind (dc_u2 cc (pc + 1)) (fun z => .ok (f z.1, z.2))) : decode cc pc = .ok (f (x * 256 + y), 3) := dc_0 (n := 2) hb (by
  rw [hK, dc_u2k h1 h2]
  rfl)
theorem dc_2s {x y : Nat} {f : Int → Instr} (hb : dc_r cc pc = .ok (b, pc + 1)) (h1 : dc_r cc (pc + 1) = .ok (x, pc + 2)) (h2 : dc_r cc (pc + 2) = .ok (y, pc + 3)) (hK : (dcK pc).1 b cc (pc + 1) = Except.bind (Except.bind (dc_u2 cc (pc + 1)) (fun z => .ok (dc_s 16 z.1, z.2))) (fun z => .ok (f z.1, z.2))) : decode cc pc = .ok (f (dc_s 16 (x * 256 + y)), 3) := dc_0 (n := 2) hb (by
  rw [hK, dc_u2k h1 h2]
  rfl)
theorem dc_1s {x : Nat} {f : Int → Instr} (hb : dc_r cc pc = .ok (b, pc + 1)) (h1 : dc_r cc (pc + 1) = .ok (x, pc + 2)) (hK : (dcK pc).1 b cc (pc + 1) = Except.bind (Except.bind (dc_r cc (pc + 1)) (fun z => .ok (dc_s 8 z.1, z.2))) (fun z => .ok (f z.1, z.2))) : decode cc pc = .ok (f (dc_s 8 x), 2) := dc_0 (n := 1) hb (by
  rw [hK, h1]
  rfl)
theorem dc_11 {x y : Nat} {f : Nat → Int → Instr} (hb : dc_r cc pc = .ok (b, pc + 1)) (h1 : dc_r cc (pc + 1) = .ok (x, pc + 2)) (h2 : dc_r cc (pc + 2) = .ok (y, pc + 3)) (hK : (dcK pc).1 b cc (pc + 1) = Except.bind (dc_r cc (pc + 1)) (fun u => Except.bind (Except.bind (dc_r cc u.2) (fun z => .ok (dc_s 8 z.1, z.2))) (fun v => .ok (f u.1 v.1, v.2)))) : decode cc pc = .ok (f x (dc_s 8 y), 3) := dc_0 (n := 2) hb (by
  rw [hK, h1]
  show Except.bind (Except.bind (dc_r cc (pc + 2)) _) _ = _
  rw [h2]
  rfl)
end
/-- an instruction's class, its first byte and its operand: 0 none, 1 a byte, 2 two bytes, 3 two signed, 4 one signed, 5 a byte and a signed one, 9 none of these -/
def dc_c : Instr → Nat × Nat × Int × Int
  | .aaload => (0, 50, 0, 0)
  | .aastore => (0, 83, 0, 0)
  | .aconst_null => (0, 1, 0, 0)
  | .areturn => (0, 176, 0, 0)
  | .arraylength => (0, 190, 0, 0)
  | .baload => (0, 51, 0, 0)
  | .bastore => (0, 84, 0, 0)
  | .dup => (0, 89, 0, 0)
  | .dup2 => (0, 92, 0, 0)
  | .i2b => (0, 145, 0, 0)
  | .i2l => (0, 133, 0, 0)
  | .i2s => (0, 147, 0, 0)
  | .iadd => (0, 96, 0, 0)
  | .iaload => (0, 46, 0, 0)
  | .iand => (0, 126, 0, 0)
  | .iastore => (0, 79, 0, 0)
  | .idiv => (0, 108, 0, 0)
  | .imul => (0, 104, 0, 0)
  | .ineg => (0, 116, 0, 0)
  | .ior => (0, 128, 0, 0)
  | .irem => (0, 112, 0, 0)
  | .ireturn => (0, 172, 0, 0)
  | .ishl => (0, 120, 0, 0)
  | .ishr => (0, 122, 0, 0)
  | .isub => (0, 100, 0, 0)
  | .iushr => (0, 124, 0, 0)
  | .ixor => (0, 130, 0, 0)
  | .l2i => (0, 136, 0, 0)
  | .ladd => (0, 97, 0, 0)
  | .laload => (0, 47, 0, 0)
  | .land => (0, 127, 0, 0)
  | .lastore => (0, 80, 0, 0)
  | .lcmp => (0, 148, 0, 0)
  | .lor => (0, 129, 0, 0)
  | .lreturn => (0, 173, 0, 0)
  | .lshl => (0, 121, 0, 0)
  | .lsub => (0, 101, 0, 0)
  | .lushr => (0, 125, 0, 0)
  | .lxor => (0, 131, 0, 0)
  | .pop => (0, 87, 0, 0)
  | .pop2 => (0, 88, 0, 0)
  | .return_ => (0, 177, 0, 0)
  | .iload_n k => (0, 26 + k.val, 0, 0)
  | .lload_n k => (0, 30 + k.val, 0, 0)
  | .aload_n k => (0, 42 + k.val, 0, 0)
  | .istore_n k => (0, 59 + k.val, 0, 0)
  | .lstore_n k => (0, 63 + k.val, 0, 0)
  | .astore_n k => (0, 75 + k.val, 0, 0)
  | .iconst v => if v = -1 then (0, 2, 0, 0) else if v = 0 then (0, 3, 0, 0) else if v = 1 then (0, 4, 0, 0) else if v = 2 then (0, 5, 0, 0) else if v = 3 then (0, 6, 0, 0) else if v = 4 then (0, 7, 0, 0) else if v = 5 then (0, 8, 0, 0) else (9, 0, 0, 0)
  | .lconst k => (0, 9 + k.val, 0, 0)
  | .iload x => (1, 21, (x : Int), 0)
  | .lload x => (1, 22, (x : Int), 0)
  | .aload x => (1, 25, (x : Int), 0)
  | .istore x => (1, 54, (x : Int), 0)
  | .lstore x => (1, 55, (x : Int), 0)
  | .astore x => (1, 58, (x : Int), 0)
  | .ldc x => (1, 18, (x : Int), 0)
  | .ldc_w x => (2, 19, (x : Int), 0)
  | .ldc2_w x => (2, 20, (x : Int), 0)
  | .getstatic x => (2, 178, (x : Int), 0)
  | .getfield x => (2, 180, (x : Int), 0)
  | .putfield x => (2, 181, (x : Int), 0)
  | .invokevirtual x => (2, 182, (x : Int), 0)
  | .invokespecial x => (2, 183, (x : Int), 0)
  | .invokestatic x => (2, 184, (x : Int), 0)
  | .new x => (2, 187, (x : Int), 0)
  | .anewarray x => (2, 189, (x : Int), 0)
  | .checkcast x => (2, 192, (x : Int), 0)
  | .instanceof x => (2, 193, (x : Int), 0)
  | .sipush x => (3, 17, x, 0)
  | .goto x => (3, 167, x, 0)
  | .ifnull x => (3, 198, x, 0)
  | .ifnonnull x => (3, 199, x, 0)
  | .ifCond c x => (3, (match c with | .eq => 153 | .ne => 154 | .lt => 155 | .ge => 156 | .gt => 157 | .le => 158), x, 0)
  | .if_icmp c x => (3, (match c with | .eq => 159 | .ne => 160 | .lt => 161 | .ge => 162 | .gt => 163 | .le => 164), x, 0)
  | .bipush x => (4, 16, x, 0)
  | .iinc x y => (5, 132, (x : Int), y)
  | _ => (9, 0, 0, 0)
/-- the bytes are the instruction's -/
def dc_m (n : Nat) (b : UInt8) (r : List UInt8) : Nat × Nat × Int × Int → Bool
  | (0, o, _, _) => Nat.beq o b.toNat && Nat.beq n 1
  | (1, o, x, _) => Nat.beq o b.toNat && (Nat.beq n 2 && (match r with | y :: _ => decide ((y.toNat : Int) = x) | [] => false))
  | (2, o, x, _) => Nat.beq o b.toNat && (Nat.beq n 3 && (match r with | y :: z :: _ => decide (((y.toNat * 256 + z.toNat : Nat) : Int) = x) | _ => false))
  | (3, o, x, _) => Nat.beq o b.toNat && (Nat.beq n 3 && (match r with | y :: z :: _ => decide (dc_s 16 (y.toNat * 256 + z.toNat) = x) | _ => false))
  | (4, o, x, _) => Nat.beq o b.toNat && (Nat.beq n 2 && (match r with | y :: _ => decide (dc_s 8 y.toNat = x) | [] => false))
  | (5, o, x, w) => Nat.beq o b.toNat && (Nat.beq n 3 && (match r with | y :: z :: _ => decide ((y.toNat : Int) = x) && decide (dc_s 8 z.toNat = w) | _ => false))
  | _ => false
def dc_b (i : Instr) (n : Nat) : List UInt8 → Bool
  | [] => false
  | b :: r => dc_m n b r (dc_c i)
section
variable {cc : ByteArray} {pc : Nat}

theorem dc_k0 {i : Instr} {o : Nat} {x y : Int} (h : dc_c i = (0, o, x, y)) (hb : dc_r cc pc = .ok (o, pc + 1)) : decode cc pc = .ok (i, 1) := by
  cases i
  case aaload =>
    obtain ⟨-, e⟩ := Prod.mk.inj h
    obtain ⟨e, -⟩ := Prod.mk.inj e
    rw [← e] at hb
    exact dc_0 (n := 0) hb rfl
  case aastore =>
    obtain ⟨-, e⟩ := Prod.mk.inj h
    obtain ⟨e, -⟩ := Prod.mk.inj e
    rw [← e] at hb
    exact dc_0 (n := 0) hb rfl
  case aconst_null =>
    obtain ⟨-, e⟩ := Prod.mk.inj h
    obtain ⟨e, -⟩ := Prod.mk.inj e
    rw [← e] at hb
    exact dc_0 (n := 0) hb rfl
  case areturn =>
    obtain ⟨-, e⟩ := Prod.mk.inj h
    obtain ⟨e, -⟩ := Prod.mk.inj e
    rw [← e] at hb
    exact dc_0 (n := 0) hb rfl
  case arraylength =>
    obtain ⟨-, e⟩ := Prod.mk.inj h
    obtain ⟨e, -⟩ := Prod.mk.inj e
    rw [← e] at hb
    exact dc_0 (n := 0) hb rfl
  case baload =>
    obtain ⟨-, e⟩ := Prod.mk.inj h
    obtain ⟨e, -⟩ := Prod.mk.inj e
    rw [← e] at hb
    exact dc_0 (n := 0) hb rfl
  case bastore =>
    obtain ⟨-, e⟩ := Prod.mk.inj h
    obtain ⟨e, -⟩ := Prod.mk.inj e
    rw [← e] at hb
    exact dc_0 (n := 0) hb rfl
  case dup =>
    obtain ⟨-, e⟩ := Prod.mk.inj h
    obtain ⟨e, -⟩ := Prod.mk.inj e
    rw [← e] at hb
    exact dc_0 (n := 0) hb rfl
  case dup2 =>
    obtain ⟨-, e⟩ := Prod.mk.inj h
    obtain ⟨e, -⟩ := Prod.mk.inj e
    rw [← e] at hb
    exact dc_0 (n := 0) hb rfl
  case i2b =>
    obtain ⟨-, e⟩ := Prod.mk.inj h
    obtain ⟨e, -⟩ := Prod.mk.inj e
    rw [← e] at hb
    exact dc_0 (n := 0) hb rfl
  case i2l =>
    obtain ⟨-, e⟩ := Prod.mk.inj h
    obtain ⟨e, -⟩ := Prod.mk.inj e
    rw [← e] at hb
    exact dc_0 (n := 0) hb rfl
  case i2s =>
    obtain ⟨-, e⟩ := Prod.mk.inj h
    obtain ⟨e, -⟩ := Prod.mk.inj e
    rw [← e] at hb
    exact dc_0 (n := 0) hb rfl
  case iadd =>
    obtain ⟨-, e⟩ := Prod.mk.inj h
    obtain ⟨e, -⟩ := Prod.mk.inj e
    rw [← e] at hb
    exact dc_0 (n := 0) hb rfl
  case iaload =>
    obtain ⟨-, e⟩ := Prod.mk.inj h
    obtain ⟨e, -⟩ := Prod.mk.inj e
    rw [← e] at hb
    exact dc_0 (n := 0) hb rfl
  case iand =>
    obtain ⟨-, e⟩ := Prod.mk.inj h
    obtain ⟨e, -⟩ := Prod.mk.inj e
    rw [← e] at hb
    exact dc_0 (n := 0) hb rfl
  case iastore =>
    obtain ⟨-, e⟩ := Prod.mk.inj h
    obtain ⟨e, -⟩ := Prod.mk.inj e
    rw [← e] at hb
    exact dc_0 (n := 0) hb rfl
  case idiv =>
    obtain ⟨-, e⟩ := Prod.mk.inj h
    obtain ⟨e, -⟩ := Prod.mk.inj e
    rw [← e] at hb
    exact dc_0 (n := 0) hb rfl
  case imul =>
    obtain ⟨-, e⟩ := Prod.mk.inj h
    obtain ⟨e, -⟩ := Prod.mk.inj e
    rw [← e] at hb
    exact dc_0 (n := 0) hb rfl
  case ineg =>
    obtain ⟨-, e⟩ := Prod.mk.inj h
    obtain ⟨e, -⟩ := Prod.mk.inj e
    rw [← e] at hb
    exact dc_0 (n := 0) hb rfl
  case ior =>
    obtain ⟨-, e⟩ := Prod.mk.inj h
    obtain ⟨e, -⟩ := Prod.mk.inj e
    rw [← e] at hb
    exact dc_0 (n := 0) hb rfl
  case irem =>
    obtain ⟨-, e⟩ := Prod.mk.inj h
    obtain ⟨e, -⟩ := Prod.mk.inj e
    rw [← e] at hb
    exact dc_0 (n := 0) hb rfl
  case ireturn =>
    obtain ⟨-, e⟩ := Prod.mk.inj h
    obtain ⟨e, -⟩ := Prod.mk.inj e
    rw [← e] at hb
    exact dc_0 (n := 0) hb rfl
  case ishl =>
    obtain ⟨-, e⟩ := Prod.mk.inj h
    obtain ⟨e, -⟩ := Prod.mk.inj e
    rw [← e] at hb
    exact dc_0 (n := 0) hb rfl
  case ishr =>
    obtain ⟨-, e⟩ := Prod.mk.inj h
    obtain ⟨e, -⟩ := Prod.mk.inj e
    rw [← e] at hb
    exact dc_0 (n := 0) hb rfl
  case isub =>
    obtain ⟨-, e⟩ := Prod.mk.inj h
    obtain ⟨e, -⟩ := Prod.mk.inj e
    rw [← e] at hb
    exact dc_0 (n := 0) hb rfl
  case iushr =>
    obtain ⟨-, e⟩ := Prod.mk.inj h
    obtain ⟨e, -⟩ := Prod.mk.inj e
    rw [← e] at hb
    exact dc_0 (n := 0) hb rfl
  case ixor =>
    obtain ⟨-, e⟩ := Prod.mk.inj h
    obtain ⟨e, -⟩ := Prod.mk.inj e
    rw [← e] at hb
    exact dc_0 (n := 0) hb rfl
  case l2i =>
    obtain ⟨-, e⟩ := Prod.mk.inj h
    obtain ⟨e, -⟩ := Prod.mk.inj e
    rw [← e] at hb
    exact dc_0 (n := 0) hb rfl
  case ladd =>
    obtain ⟨-, e⟩ := Prod.mk.inj h
    obtain ⟨e, -⟩ := Prod.mk.inj e
    rw [← e] at hb
    exact dc_0 (n := 0) hb rfl
  case laload =>
    obtain ⟨-, e⟩ := Prod.mk.inj h
    obtain ⟨e, -⟩ := Prod.mk.inj e
    rw [← e] at hb
    exact dc_0 (n := 0) hb rfl
  case land =>
    obtain ⟨-, e⟩ := Prod.mk.inj h
    obtain ⟨e, -⟩ := Prod.mk.inj e
    rw [← e] at hb
    exact dc_0 (n := 0) hb rfl
  case lastore =>
    obtain ⟨-, e⟩ := Prod.mk.inj h
    obtain ⟨e, -⟩ := Prod.mk.inj e
    rw [← e] at hb
    exact dc_0 (n := 0) hb rfl
  case lcmp =>
    obtain ⟨-, e⟩ := Prod.mk.inj h
    obtain ⟨e, -⟩ := Prod.mk.inj e
    rw [← e] at hb
    exact dc_0 (n := 0) hb rfl
  case lor =>
    obtain ⟨-, e⟩ := Prod.mk.inj h
    obtain ⟨e, -⟩ := Prod.mk.inj e
    rw [← e] at hb
    exact dc_0 (n := 0) hb rfl
  case lreturn =>
    obtain ⟨-, e⟩ := Prod.mk.inj h
    obtain ⟨e, -⟩ := Prod.mk.inj e
    rw [← e] at hb
    exact dc_0 (n := 0) hb rfl
  case lshl =>
    obtain ⟨-, e⟩ := Prod.mk.inj h
    obtain ⟨e, -⟩ := Prod.mk.inj e
    rw [← e] at hb
    exact dc_0 (n := 0) hb rfl
  case lsub =>
    obtain ⟨-, e⟩ := Prod.mk.inj h
    obtain ⟨e, -⟩ := Prod.mk.inj e
    rw [← e] at hb
    exact dc_0 (n := 0) hb rfl
  case lushr =>
    obtain ⟨-, e⟩ := Prod.mk.inj h
    obtain ⟨e, -⟩ := Prod.mk.inj e
    rw [← e] at hb
    exact dc_0 (n := 0) hb rfl
  case lxor =>
    obtain ⟨-, e⟩ := Prod.mk.inj h
    obtain ⟨e, -⟩ := Prod.mk.inj e
    rw [← e] at hb
    exact dc_0 (n := 0) hb rfl
  case pop =>
    obtain ⟨-, e⟩ := Prod.mk.inj h
    obtain ⟨e, -⟩ := Prod.mk.inj e
    rw [← e] at hb
    exact dc_0 (n := 0) hb rfl
  case pop2 =>
    obtain ⟨-, e⟩ := Prod.mk.inj h
    obtain ⟨e, -⟩ := Prod.mk.inj e
    rw [← e] at hb
    exact dc_0 (n := 0) hb rfl
  case return_ =>
    obtain ⟨-, e⟩ := Prod.mk.inj h
    obtain ⟨e, -⟩ := Prod.mk.inj e
    rw [← e] at hb
    exact dc_0 (n := 0) hb rfl
  case iload_n k =>
    obtain ⟨-, e⟩ := Prod.mk.inj h
    obtain ⟨e, -⟩ := Prod.mk.inj e
    rw [← e] at hb
    match k, hb with
    | 0, hb => exact dc_0 (n := 0) hb rfl
    | 1, hb => exact dc_0 (n := 0) hb rfl
    | 2, hb => exact dc_0 (n := 0) hb rfl
    | 3, hb => exact dc_0 (n := 0) hb rfl
  case lload_n k =>
    obtain ⟨-, e⟩ := Prod.mk.inj h
    obtain ⟨e, -⟩ := Prod.mk.inj e
    rw [← e] at hb
    match k, hb with
    | 0, hb => exact dc_0 (n := 0) hb rfl
    | 1, hb => exact dc_0 (n := 0) hb rfl
    | 2, hb => exact dc_0 (n := 0) hb rfl
    | 3, hb => exact dc_0 (n := 0) hb rfl
  case aload_n k =>
    obtain ⟨-, e⟩ := Prod.mk.inj h
    obtain ⟨e, -⟩ := Prod.mk.inj e
    rw [← e] at hb
    match k, hb with
    | 0, hb => exact dc_0 (n := 0) hb rfl
    | 1, hb => exact dc_0 (n := 0) hb rfl
    | 2, hb => exact dc_0 (n := 0) hb rfl
    | 3, hb => exact dc_0 (n := 0) hb rfl
  case istore_n k =>
    obtain ⟨-, e⟩ := Prod.mk.inj h
    obtain ⟨e, -⟩ := Prod.mk.inj e
    rw [← e] at hb
    match k, hb with
    | 0, hb => exact dc_0 (n := 0) hb rfl
    | 1, hb => exact dc_0 (n := 0) hb rfl
    | 2, hb => exact dc_0 (n := 0) hb rfl
    | 3, hb => exact dc_0 (n := 0) hb rfl
  case lstore_n k =>
    obtain ⟨-, e⟩ := Prod.mk.inj h
    obtain ⟨e, -⟩ := Prod.mk.inj e
    rw [← e] at hb
    match k, hb with
    | 0, hb => exact dc_0 (n := 0) hb rfl
    | 1, hb => exact dc_0 (n := 0) hb rfl
    | 2, hb => exact dc_0 (n := 0) hb rfl
    | 3, hb => exact dc_0 (n := 0) hb rfl
  case astore_n k =>
    obtain ⟨-, e⟩ := Prod.mk.inj h
    obtain ⟨e, -⟩ := Prod.mk.inj e
    rw [← e] at hb
    match k, hb with
    | 0, hb => exact dc_0 (n := 0) hb rfl
    | 1, hb => exact dc_0 (n := 0) hb rfl
    | 2, hb => exact dc_0 (n := 0) hb rfl
    | 3, hb => exact dc_0 (n := 0) hb rfl
  case lconst k =>
    obtain ⟨-, e⟩ := Prod.mk.inj h
    obtain ⟨e, -⟩ := Prod.mk.inj e
    rw [← e] at hb
    match k, hb with
    | 0, hb => exact dc_0 (n := 0) hb rfl
    | 1, hb => exact dc_0 (n := 0) hb rfl
  case iconst v =>
    have h : (if v = -1 then (0, 2, 0, 0) else if v = 0 then (0, 3, 0, 0) else if v = 1 then (0, 4, 0, 0) else if v = 2 then (0, 5, 0, 0) else if v = 3 then (0, 6, 0, 0) else if v = 4 then (0, 7, 0, 0) else if v = 5 then (0, 8, 0, 0) else (9, 0, 0, 0) : Nat × Nat × Int × Int) = (0, o, x, y) := h
    by_cases c0 : v = -1
    · rw [if_pos c0] at h
      obtain ⟨-, e⟩ := Prod.mk.inj h
      obtain ⟨e, -⟩ := Prod.mk.inj e
      rw [← e] at hb
      rw [c0]
      exact dc_0 (n := 0) hb rfl
    rw [if_neg c0] at h
    by_cases c1 : v = 0
    · rw [if_pos c1] at h
      obtain ⟨-, e⟩ := Prod.mk.inj h
      obtain ⟨e, -⟩ := Prod.mk.inj e
      rw [← e] at hb
      rw [c1]
      exact dc_0 (n := 0) hb rfl
    rw [if_neg c1] at h
    by_cases c2 : v = 1
    · rw [if_pos c2] at h
      obtain ⟨-, e⟩ := Prod.mk.inj h
      obtain ⟨e, -⟩ := Prod.mk.inj e
      rw [← e] at hb
      rw [c2]
      exact dc_0 (n := 0) hb rfl
    rw [if_neg c2] at h
    by_cases c3 : v = 2
    · rw [if_pos c3] at h
      obtain ⟨-, e⟩ := Prod.mk.inj h
      obtain ⟨e, -⟩ := Prod.mk.inj e
      rw [← e] at hb
      rw [c3]
      exact dc_0 (n := 0) hb rfl
    rw [if_neg c3] at h
    by_cases c4 : v = 3
    · rw [if_pos c4] at h
      obtain ⟨-, e⟩ := Prod.mk.inj h
      obtain ⟨e, -⟩ := Prod.mk.inj e
      rw [← e] at hb
      rw [c4]
      exact dc_0 (n := 0) hb rfl
    rw [if_neg c4] at h
    by_cases c5 : v = 4
    · rw [if_pos c5] at h
      obtain ⟨-, e⟩ := Prod.mk.inj h
      obtain ⟨e, -⟩ := Prod.mk.inj e
      rw [← e] at hb
      rw [c5]
      exact dc_0 (n := 0) hb rfl
    rw [if_neg c5] at h
    by_cases c6 : v = 5
    · rw [if_pos c6] at h
      obtain ⟨-, e⟩ := Prod.mk.inj h
      obtain ⟨e, -⟩ := Prod.mk.inj e
      rw [← e] at hb
      rw [c6]
      exact dc_0 (n := 0) hb rfl
    rw [if_neg c6] at h
    obtain ⟨e, -⟩ := Prod.mk.inj h
    exact absurd e (by decide)
  all_goals exact absurd (Prod.mk.inj h).1 (by decide)
theorem dc_ic {v : Int} {c o : Nat} {x y : Int} (h : dc_c (.iconst v) = (c, o, x, y)) : c = 0 ∨ c = 9 := by
  have h : (if v = -1 then (0, 2, 0, 0) else if v = 0 then (0, 3, 0, 0) else if v = 1 then (0, 4, 0, 0) else if v = 2 then (0, 5, 0, 0) else if v = 3 then (0, 6, 0, 0) else if v = 4 then (0, 7, 0, 0) else if v = 5 then (0, 8, 0, 0) else (9, 0, 0, 0) : Nat × Nat × Int × Int) = (c, o, x, y) := h
  by_cases c0 : v = -1
  · rw [if_pos c0] at h
    exact Or.inl (Prod.mk.inj h).1.symm
  rw [if_neg c0] at h
  by_cases c1 : v = 0
  · rw [if_pos c1] at h
    exact Or.inl (Prod.mk.inj h).1.symm
  rw [if_neg c1] at h
  by_cases c2 : v = 1
  · rw [if_pos c2] at h
    exact Or.inl (Prod.mk.inj h).1.symm
  rw [if_neg c2] at h
  by_cases c3 : v = 2
  · rw [if_pos c3] at h
    exact Or.inl (Prod.mk.inj h).1.symm
  rw [if_neg c3] at h
  by_cases c4 : v = 3
  · rw [if_pos c4] at h
    exact Or.inl (Prod.mk.inj h).1.symm
  rw [if_neg c4] at h
  by_cases c5 : v = 4
  · rw [if_pos c5] at h
    exact Or.inl (Prod.mk.inj h).1.symm
  rw [if_neg c5] at h
  by_cases c6 : v = 5
  · rw [if_pos c6] at h
    exact Or.inl (Prod.mk.inj h).1.symm
  rw [if_neg c6] at h
  exact Or.inr (Prod.mk.inj h).1.symm
theorem dc_k1 {i : Instr} {o a : Nat} {x y : Int} (h : dc_c i = (1, o, x, y)) (hb : dc_r cc pc = .ok (o, pc + 1)) (h1 : dc_r cc (pc + 1) = .ok (a, pc + 2)) (hx : (a : Int) = x) : decode cc pc = .ok (i, 2) := by
  cases i
  case iload k =>
    obtain ⟨-, e⟩ := Prod.mk.inj h
    obtain ⟨e, e2⟩ := Prod.mk.inj e
    obtain ⟨e2, -⟩ := Prod.mk.inj e2
    rw [← e] at hb
    have ek : a = k := Int.ofNat.inj (hx.trans e2.symm)
    rw [← ek]
    exact dc_1 (f := .iload) hb h1 rfl
  case lload k =>
    obtain ⟨-, e⟩ := Prod.mk.inj h
    obtain ⟨e, e2⟩ := Prod.mk.inj e
    obtain ⟨e2, -⟩ := Prod.mk.inj e2
    rw [← e] at hb
    have ek : a = k := Int.ofNat.inj (hx.trans e2.symm)
    rw [← ek]
    exact dc_1 (f := .lload) hb h1 rfl
  case aload k =>
    obtain ⟨-, e⟩ := Prod.mk.inj h
    obtain ⟨e, e2⟩ := Prod.mk.inj e
    obtain ⟨e2, -⟩ := Prod.mk.inj e2
    rw [← e] at hb
    have ek : a = k := Int.ofNat.inj (hx.trans e2.symm)
    rw [← ek]
    exact dc_1 (f := .aload) hb h1 rfl
  case istore k =>
    obtain ⟨-, e⟩ := Prod.mk.inj h
    obtain ⟨e, e2⟩ := Prod.mk.inj e
    obtain ⟨e2, -⟩ := Prod.mk.inj e2
    rw [← e] at hb
    have ek : a = k := Int.ofNat.inj (hx.trans e2.symm)
    rw [← ek]
    exact dc_1 (f := .istore) hb h1 rfl
  case lstore k =>
    obtain ⟨-, e⟩ := Prod.mk.inj h
    obtain ⟨e, e2⟩ := Prod.mk.inj e
    obtain ⟨e2, -⟩ := Prod.mk.inj e2
    rw [← e] at hb
    have ek : a = k := Int.ofNat.inj (hx.trans e2.symm)
    rw [← ek]
    exact dc_1 (f := .lstore) hb h1 rfl
  case astore k =>
    obtain ⟨-, e⟩ := Prod.mk.inj h
    obtain ⟨e, e2⟩ := Prod.mk.inj e
    obtain ⟨e2, -⟩ := Prod.mk.inj e2
    rw [← e] at hb
    have ek : a = k := Int.ofNat.inj (hx.trans e2.symm)
    rw [← ek]
    exact dc_1 (f := .astore) hb h1 rfl
  case ldc k =>
    obtain ⟨-, e⟩ := Prod.mk.inj h
    obtain ⟨e, e2⟩ := Prod.mk.inj e
    obtain ⟨e2, -⟩ := Prod.mk.inj e2
    rw [← e] at hb
    have ek : a = k := Int.ofNat.inj (hx.trans e2.symm)
    rw [← ek]
    exact dc_1 (f := .ldc) hb h1 rfl
  case iconst v =>
    exact absurd (dc_ic h) (by decide)
  all_goals exact absurd (Prod.mk.inj h).1 (by decide)
theorem dc_k2 {i : Instr} {o a b : Nat} {x y : Int} (h : dc_c i = (2, o, x, y)) (hb : dc_r cc pc = .ok (o, pc + 1)) (h1 : dc_r cc (pc + 1) = .ok (a, pc + 2)) (h2 : dc_r cc (pc + 2) = .ok (b, pc + 3)) (hx : ((a * 256 + b : Nat) : Int) = x) : decode cc pc = .ok (i, 3) := by
  cases i
  case ldc_w k =>
    obtain ⟨-, e⟩ := Prod.mk.inj h
    obtain ⟨e, e2⟩ := Prod.mk.inj e
    obtain ⟨e2, -⟩ := Prod.mk.inj e2
    rw [← e] at hb
    have ek : a * 256 + b = k := Int.ofNat.inj (hx.trans e2.symm)
    rw [← ek]
    exact dc_2 (f := .ldc_w) hb h1 h2 rfl
  case ldc2_w k =>
    obtain ⟨-, e⟩ := Prod.mk.inj h
    obtain ⟨e, e2⟩ := Prod.mk.inj e
    obtain ⟨e2, -⟩ := Prod.mk.inj e2
    rw [← e] at hb
    have ek : a * 256 + b = k := Int.ofNat.inj (hx.trans e2.symm)
    rw [← ek]
    exact dc_2 (f := .ldc2_w) hb h1 h2 rfl
  case getstatic k =>
    obtain ⟨-, e⟩ := Prod.mk.inj h
    obtain ⟨e, e2⟩ := Prod.mk.inj e
    obtain ⟨e2, -⟩ := Prod.mk.inj e2
    rw [← e] at hb
    have ek : a * 256 + b = k := Int.ofNat.inj (hx.trans e2.symm)
    rw [← ek]
    exact dc_2 (f := .getstatic) hb h1 h2 rfl
  case getfield k =>
    obtain ⟨-, e⟩ := Prod.mk.inj h
    obtain ⟨e, e2⟩ := Prod.mk.inj e
    obtain ⟨e2, -⟩ := Prod.mk.inj e2
    rw [← e] at hb
    have ek : a * 256 + b = k := Int.ofNat.inj (hx.trans e2.symm)
    rw [← ek]
    exact dc_2 (f := .getfield) hb h1 h2 rfl
  case putfield k =>
    obtain ⟨-, e⟩ := Prod.mk.inj h
    obtain ⟨e, e2⟩ := Prod.mk.inj e
    obtain ⟨e2, -⟩ := Prod.mk.inj e2
    rw [← e] at hb
    have ek : a * 256 + b = k := Int.ofNat.inj (hx.trans e2.symm)
    rw [← ek]
    exact dc_2 (f := .putfield) hb h1 h2 rfl
  case invokevirtual k =>
    obtain ⟨-, e⟩ := Prod.mk.inj h
    obtain ⟨e, e2⟩ := Prod.mk.inj e
    obtain ⟨e2, -⟩ := Prod.mk.inj e2
    rw [← e] at hb
    have ek : a * 256 + b = k := Int.ofNat.inj (hx.trans e2.symm)
    rw [← ek]
    exact dc_2 (f := .invokevirtual) hb h1 h2 rfl
  case invokespecial k =>
    obtain ⟨-, e⟩ := Prod.mk.inj h
    obtain ⟨e, e2⟩ := Prod.mk.inj e
    obtain ⟨e2, -⟩ := Prod.mk.inj e2
    rw [← e] at hb
    have ek : a * 256 + b = k := Int.ofNat.inj (hx.trans e2.symm)
    rw [← ek]
    exact dc_2 (f := .invokespecial) hb h1 h2 rfl
  case invokestatic k =>
    obtain ⟨-, e⟩ := Prod.mk.inj h
    obtain ⟨e, e2⟩ := Prod.mk.inj e
    obtain ⟨e2, -⟩ := Prod.mk.inj e2
    rw [← e] at hb
    have ek : a * 256 + b = k := Int.ofNat.inj (hx.trans e2.symm)
    rw [← ek]
    exact dc_2 (f := .invokestatic) hb h1 h2 rfl
  case new k =>
    obtain ⟨-, e⟩ := Prod.mk.inj h
    obtain ⟨e, e2⟩ := Prod.mk.inj e
    obtain ⟨e2, -⟩ := Prod.mk.inj e2
    rw [← e] at hb
    have ek : a * 256 + b = k := Int.ofNat.inj (hx.trans e2.symm)
    rw [← ek]
    exact dc_2 (f := .new) hb h1 h2 rfl
  case anewarray k =>
    obtain ⟨-, e⟩ := Prod.mk.inj h
    obtain ⟨e, e2⟩ := Prod.mk.inj e
    obtain ⟨e2, -⟩ := Prod.mk.inj e2
    rw [← e] at hb
    have ek : a * 256 + b = k := Int.ofNat.inj (hx.trans e2.symm)
    rw [← ek]
    exact dc_2 (f := .anewarray) hb h1 h2 rfl
  case checkcast k =>
    obtain ⟨-, e⟩ := Prod.mk.inj h
    obtain ⟨e, e2⟩ := Prod.mk.inj e
    obtain ⟨e2, -⟩ := Prod.mk.inj e2
    rw [← e] at hb
    have ek : a * 256 + b = k := Int.ofNat.inj (hx.trans e2.symm)
    rw [← ek]
    exact dc_2 (f := .checkcast) hb h1 h2 rfl
  case instanceof k =>
    obtain ⟨-, e⟩ := Prod.mk.inj h
    obtain ⟨e, e2⟩ := Prod.mk.inj e
    obtain ⟨e2, -⟩ := Prod.mk.inj e2
    rw [← e] at hb
    have ek : a * 256 + b = k := Int.ofNat.inj (hx.trans e2.symm)
    rw [← ek]
    exact dc_2 (f := .instanceof) hb h1 h2 rfl
  case iconst v =>
    exact absurd (dc_ic h) (by decide)
  all_goals exact absurd (Prod.mk.inj h).1 (by decide)
theorem dc_k3 {i : Instr} {o a b : Nat} {x y : Int} (h : dc_c i = (3, o, x, y)) (hb : dc_r cc pc = .ok (o, pc + 1)) (h1 : dc_r cc (pc + 1) = .ok (a, pc + 2)) (h2 : dc_r cc (pc + 2) = .ok (b, pc + 3)) (hx : dc_s 16 (a * 256 + b) = x) : decode cc pc = .ok (i, 3) := by
  cases i
  case sipush k =>
    obtain ⟨-, e⟩ := Prod.mk.inj h
    obtain ⟨e, e2⟩ := Prod.mk.inj e
    obtain ⟨e2, -⟩ := Prod.mk.inj e2
    rw [← e] at hb
    rw [show k = dc_s 16 (a * 256 + b) from (hx.trans e2.symm).symm]
    exact dc_2s (f := .sipush) hb h1 h2 rfl
  case goto k =>
    obtain ⟨-, e⟩ := Prod.mk.inj h
    obtain ⟨e, e2⟩ := Prod.mk.inj e
    obtain ⟨e2, -⟩ := Prod.mk.inj e2
    rw [← e] at hb
    rw [show k = dc_s 16 (a * 256 + b) from (hx.trans e2.symm).symm]
    exact dc_2s (f := .goto) hb h1 h2 rfl
  case ifnull k =>
    obtain ⟨-, e⟩ := Prod.mk.inj h
    obtain ⟨e, e2⟩ := Prod.mk.inj e
    obtain ⟨e2, -⟩ := Prod.mk.inj e2
    rw [← e] at hb
    rw [show k = dc_s 16 (a * 256 + b) from (hx.trans e2.symm).symm]
    exact dc_2s (f := .ifnull) hb h1 h2 rfl
  case ifnonnull k =>
    obtain ⟨-, e⟩ := Prod.mk.inj h
    obtain ⟨e, e2⟩ := Prod.mk.inj e
    obtain ⟨e2, -⟩ := Prod.mk.inj e2
    rw [← e] at hb
    rw [show k = dc_s 16 (a * 256 + b) from (hx.trans e2.symm).symm]
    exact dc_2s (f := .ifnonnull) hb h1 h2 rfl
  case ifCond c k =>
    obtain ⟨-, e⟩ := Prod.mk.inj h
    obtain ⟨e, e2⟩ := Prod.mk.inj e
    obtain ⟨e2, -⟩ := Prod.mk.inj e2
    rw [← e] at hb
    rw [show k = dc_s 16 (a * 256 + b) from (hx.trans e2.symm).symm]
    cases c
    all_goals exact dc_2s (f := fun z => .ifCond _ z) hb h1 h2 rfl
  case if_icmp c k =>
    obtain ⟨-, e⟩ := Prod.mk.inj h
    obtain ⟨e, e2⟩ := Prod.mk.inj e
    obtain ⟨e2, -⟩ := Prod.mk.inj e2
    rw [← e] at hb
    rw [show k = dc_s 16 (a * 256 + b) from (hx.trans e2.symm).symm]
    cases c
    all_goals exact dc_2s (f := fun z => .if_icmp _ z) hb h1 h2 rfl
  case iconst v =>
    exact absurd (dc_ic h) (by decide)
  all_goals exact absurd (Prod.mk.inj h).1 (by decide)
theorem dc_k4 {i : Instr} {o a : Nat} {x y : Int} (h : dc_c i = (4, o, x, y)) (hb : dc_r cc pc = .ok (o, pc + 1)) (h1 : dc_r cc (pc + 1) = .ok (a, pc + 2)) (hx : dc_s 8 a = x) : decode cc pc = .ok (i, 2) := by
  cases i
  case bipush k =>
    obtain ⟨-, e⟩ := Prod.mk.inj h
    obtain ⟨e, e2⟩ := Prod.mk.inj e
    obtain ⟨e2, -⟩ := Prod.mk.inj e2
    rw [← e] at hb
    rw [show k = dc_s 8 a from (hx.trans e2.symm).symm]
    exact dc_1s (f := .bipush) hb h1 rfl
  case iconst v =>
    exact absurd (dc_ic h) (by decide)
  all_goals exact absurd (Prod.mk.inj h).1 (by decide)
theorem dc_k5 {i : Instr} {o a b : Nat} {x y : Int} (h : dc_c i = (5, o, x, y)) (hb : dc_r cc pc = .ok (o, pc + 1)) (h1 : dc_r cc (pc + 1) = .ok (a, pc + 2)) (h2 : dc_r cc (pc + 2) = .ok (b, pc + 3)) (hx : (a : Int) = x) (hy : dc_s 8 b = y) : decode cc pc = .ok (i, 3) := by
  cases i
  case iinc k v =>
    obtain ⟨-, e⟩ := Prod.mk.inj h
    obtain ⟨e, e2⟩ := Prod.mk.inj e
    obtain ⟨e2, e3⟩ := Prod.mk.inj e2
    rw [← e] at hb
    have ek : a = k := Int.ofNat.inj (hx.trans e2.symm)
    rw [← ek, show v = dc_s 8 b from (hy.trans e3.symm).symm]
    exact dc_11 (f := .iinc) hb h1 h2 rfl
  case iconst v =>
    exact absurd (dc_ic h) (by decide)
  all_goals exact absurd (Prod.mk.inj h).1 (by decide)
theorem dc_nx {p : Nat} {b : UInt8} {r : List UInt8} (h : cc.data.toList.drop p = b :: r) : cc.data.toList.drop (p + 1) = r := by
  rw [← List.drop_drop, h]
  rfl
theorem dc_bok {i : Instr} {n : Nat} {bs : List UInt8} (hd : cc.data.toList.drop pc = bs) (h : dc_b i n bs = true) : decode cc pc = .ok (i, n) := by
  cases bs with
  | nil => exact absurd h Bool.false_ne_true
  | cons b r =>
    have hb := dc_u1 hd
    have hr := dc_nx hd
    have h : dc_m n b r (dc_c i) = true := h
    obtain ⟨⟨c, o, x, w⟩, e⟩ : ∃ t, dc_c i = t := ⟨_, rfl⟩
    rw [e] at h
    match c, e, h with
    | 0, e, h =>
      have h : (Nat.beq o b.toNat && Nat.beq n 1) = true := h
      rw [Bool.and_eq_true] at h
      rw [← Nat.eq_of_beq_eq_true h.1] at hb
      rw [Nat.eq_of_beq_eq_true h.2]
      exact dc_k0 e hb
    | 1, e, h =>
      have h : (Nat.beq o b.toNat && (Nat.beq n 2 && _)) = true := h
      rw [Bool.and_eq_true, Bool.and_eq_true] at h
      rw [← Nat.eq_of_beq_eq_true h.1] at hb
      rw [Nat.eq_of_beq_eq_true h.2.1]
      have h2 := h.2.2
      cases r with
      | nil => exact absurd h2 Bool.false_ne_true
      | cons y r => exact dc_k1 e hb (dc_u1 hr) (of_decide_eq_true h2)
    | 2, e, h =>
      have h : (Nat.beq o b.toNat && (Nat.beq n 3 && _)) = true := h
      rw [Bool.and_eq_true, Bool.and_eq_true] at h
      rw [← Nat.eq_of_beq_eq_true h.1] at hb
      rw [Nat.eq_of_beq_eq_true h.2.1]
      have h2 := h.2.2
      cases r with
      | nil => exact absurd h2 Bool.false_ne_true
      | cons y r =>
        have hz := dc_nx hr
        cases r with
        | nil => exact absurd h2 Bool.false_ne_true
        | cons z r => exact dc_k2 e hb (dc_u1 hr) (dc_u1 hz) (of_decide_eq_true h2)
    | 3, e, h =>
      have h : (Nat.beq o b.toNat && (Nat.beq n 3 && _)) = true := h
      rw [Bool.and_eq_true, Bool.and_eq_true] at h
      rw [← Nat.eq_of_beq_eq_true h.1] at hb
      rw [Nat.eq_of_beq_eq_true h.2.1]
      have h2 := h.2.2
      cases r with
      | nil => exact absurd h2 Bool.false_ne_true
      | cons y r =>
        have hz := dc_nx hr
        cases r with
        | nil => exact absurd h2 Bool.false_ne_true
        | cons z r => exact dc_k3 e hb (dc_u1 hr) (dc_u1 hz) (of_decide_eq_true h2)
    | 4, e, h =>
      have h : (Nat.beq o b.toNat && (Nat.beq n 2 && _)) = true := h
      rw [Bool.and_eq_true, Bool.and_eq_true] at h
      rw [← Nat.eq_of_beq_eq_true h.1] at hb
      rw [Nat.eq_of_beq_eq_true h.2.1]
      have h2 := h.2.2
      cases r with
      | nil => exact absurd h2 Bool.false_ne_true
      | cons y r => exact dc_k4 e hb (dc_u1 hr) (of_decide_eq_true h2)
    | 5, e, h =>
      have h : (Nat.beq o b.toNat && (Nat.beq n 3 && _)) = true := h
      rw [Bool.and_eq_true, Bool.and_eq_true] at h
      rw [← Nat.eq_of_beq_eq_true h.1] at hb
      rw [Nat.eq_of_beq_eq_true h.2.1]
      have h2 := h.2.2
      cases r with
      | nil => exact absurd h2 Bool.false_ne_true
      | cons y r =>
        have hz := dc_nx hr
        cases r with
        | nil => exact absurd h2 Bool.false_ne_true
        | cons z r =>
          have h2 : (decide ((y.toNat : Int) = x) && decide (dc_s 8 z.toNat = w)) = true := h2
          rw [Bool.and_eq_true] at h2
          exact dc_k5 e hb (dc_u1 hr) (dc_u1 hz) (of_decide_eq_true h2.1) (of_decide_eq_true h2.2)
    | c + 6, e, h => exact absurd h Bool.false_ne_true
end
/-- the instructions that are read in one walk; the others -/
def dc_w : List UInt8 → Nat → List (Nat × Instr × Nat) → Bool
  | _, _, [] => true
  | bs, p, (pc, i, n) :: r => Nat.ble p pc && (dc_b i n (bs.drop (pc - p)) && dc_w (bs.drop (pc - p)) pc r)
theorem dc_wok {cc : ByteArray} : ∀ {K : List (Nat × Instr × Nat)} {bs : List UInt8} {p : Nat}, cc.data.toList.drop p = bs → dc_w bs p K = true → ∀ x ∈ K, decode cc x.1 = .ok (x.2.1, x.2.2)
  | [], _, _, _, _ => fun _ h => absurd h List.not_mem_nil
  | (pc, i, n) :: r, bs, p, hd, h => by
    have h : (Nat.ble p pc && (dc_b i n (bs.drop (pc - p)) && dc_w (bs.drop (pc - p)) pc r)) = true := h
    rw [Bool.and_eq_true, Bool.and_eq_true] at h
    have hp : p ≤ pc := Nat.le_of_ble_eq_true h.1
    have hd2 : cc.data.toList.drop pc = bs.drop (pc - p) := by
      rw [← hd, List.drop_drop, show p + (pc - p) = pc by omega]
    exact List.forall_mem_cons.mpr ⟨dc_bok hd2 h.2.1, dc_wok hd2 h.2.2⟩
def dc_sw (x : Nat × Instr × Nat) : Bool := Nat.beq (dc_c x.2.1).1 9
/-- a method's instructions: the switches and the like by themselves -/
theorem dc_ok {cc : ByteArray} {K : List (Nat × Instr × Nat)} (h : dc_w cc.data.toList 0 (K.filter (fun x => !dc_sw x)) = true) (h2 : ∀ x ∈ K.filter dc_sw, decode cc x.1 = .ok (x.2.1, x.2.2)) : ∀ x ∈ K, decode cc x.1 = .ok (x.2.1, x.2.2) := fun x hx => by
  cases hs : dc_sw x with
  | true => exact h2 x (List.mem_filter.mpr ⟨hx, hs⟩)
  | false => exact dc_wok (p := 0) rfl h x (List.mem_filter.mpr ⟨hx, by rw [hs]; rfl⟩)
end
noncomputable section
/-! steps proved by hand: two numbers that sum to at most 240, as a note (60); a sum of the first and one below the second -/
/-- a load of local j; with the number on top it sums to at most 240: a note of the array that the object below has -/
def ck_sSa (tM tS j : Nat) (S : ck_S) : Option (List ck_S) := match S.2.1, ck_look S.1 j with
  | f :: r :: st, some m => if f.1 = 0 ∧ r.1 = 2 ∧ r.2.2 = [tM] ∧ m.1 = 0 then (match S.2.2.2.1[f.2.1]?, S.2.2.2.1[m.2.1]? with
    | some x, some y => if x.1 ≤ x.2 ∧ y.1 ≤ y.2 ∧ x.2 + y.2 ≤ 240 then some [(S.1, m :: f :: r :: st, (tS, 0, (60, f.2.1, [m.2.1])) :: S.2.2.1, S.2.2.2)] else none
    | _, _ => none) else none
  | _, _ => none
/-- a sum: by the note it is below 240 -/
def ck_sAd (F tS : Nat) (S : ck_S) : Option (List ck_S) := match S.2.1, S.2.2.1.find? (fun x => x.1 == tS && (x.2.1 == 0 && x.2.2.1 == 60)) with
  | x :: y :: st, some z => (match z.2.2.2.2 with
    | [b] => if x.1 = 0 ∧ y.1 = 0 ∧ ck_ent S.2.2.2.1 S.2.2.2.2.1 F y.2.1 z.2.2.2.1 0 = true ∧ ck_ent S.2.2.2.1 S.2.2.2.2.1 F x.2.1 b (-1) = true ∧ ck_ent S.2.2.2.1 S.2.2.2.2.1 F 0 x.2.1 0 = true ∧ ck_ent S.2.2.2.1 S.2.2.2.2.1 F 0 y.2.1 0 = true then
        some [(S.1, (0, S.2.2.2.1.length, []) :: st, S.2.2.1, S.2.2.2.1 ++ [(0, 239)], S.2.2.2.2.1, S.2.2.2.2.2)] else none
    | _ => none)
  | _, _ => none
section
variable {Fc : Nat → Nat × fR} {s0 : fS} {p : Program} {l : Launch} {e : Env} {R : Room} {s : State} {m : MethodId} {args : Array Value} {below : List Frame} {meth : Method} {c : Code} {Q : State → Prop} {cc : ByteArray} {own : String} {D : va_G} {cl : List vw_C} {tys : List (ClassId × FieldType)} {M : ck_Me} {sc : ck_sc} {A : Nat → Prop} {ws0 : va_W} {sh0 : List Nat} {S : ck_S} {pc : Nat}
theorem ck_sSa_ok (X : ck_cx p l e R s m args below meth c cc own D cl tys M sc A) {tM tS len k0 kf j : Nat} {Ts : List ck_T} {td : ck_D} {lo hi : Int} (hTT : (mTT M)[tS]? = some (1, len, k0, Ts)) (hM : (mTT M)[tM]? = some td) (hM0 : td.1 = 0) (hMf : td.2.2.2[kf]? = some (2, lo, hi, [tS])) (hSG : tS ∈ mSG M) (ht0 : tS ≠ 0) {L : List ck_S} (h : ck_sSa tM tS j S = some L) (hk : ∀ S' ∈ L, ck_g Fc s0 p l e R s m args below meth c Q D cl tys M sc A ws0 sh0 S' (pc + 2)) (hdg : decode cc pc = .ok (.iload j, 2)) : ck_g Fc s0 p l e R s m args below meth c Q D cl tys M sc A ws0 sh0 S pc := by
  intro n ws sh H locs ls vs o hw hx hP hD hS
  unfold ck_sSa at h
  split at h
  · rename_i f r st v hst hv
    split at h
    · rename_i hc
      split at h
      · rename_i x y hx1 hy1
        split at h
        · rename_i hc2
          have eL := Option.some.inj h
          have o3 := o.2.2.1
          rw [hst] at o3
          obtain ⟨w1, vs1, rfl, h2, h3⟩ := ck_hd o3
          obtain ⟨w2, vs2, rfl, h4, h5⟩ := ck_hd h3
          obtain ⟨lf, -⟩ := h2.i hc.1
          obtain ⟨-, -, q, a, e0, t, e2, hq, ht, htm⟩ := h4.r hc.2.1
          obtain ⟨w3, hv1, hv2⟩ := ck_look_ok o.2.1 hv
          obtain ⟨lm, z, e3, -⟩ := id (hv2.i hc.2.2.2)
          rw [hc.2.2.1] at htm
          rw [List.mem_singleton.mp htm] at ht
          obtain ⟨td', d1, d2⟩ := hw.2.1 q a _ tM hq ht
          have etd : td' = td := Option.some.inj (d1.symm.trans hM)
          subst etd
          unfold ck_co at d2
          rw [hM0] at d2
          obtain ⟨fs, -, -, d3⟩ := d2
          obtain ⟨u, -, d4⟩ := d3 kf _ hMf
          obtain ⟨q2, a2, e4, t2, rfl, hq2, ht2, htm2⟩ := (show ck_rf ws sh [tS] u from d4)
          rw [List.mem_singleton.mp htm2] at ht2
          obtain ⟨td2, d5, d6⟩ := hw.2.1 q2 a2 _ tS hq2 ht2
          have etd2 : td2 = (1, len, k0, Ts) := Option.some.inj (d5.symm.trans hTT)
          subst etd2
          obtain ⟨cA, g, -, rfl, -⟩ := d6
          have b1 := (o.2.2.2.2.1 _ x hx1 hc2.1).2
          have b2 := (o.2.2.2.2.1 _ y hy1 hc2.2.1).2
          have o1 : ck_so (mnL M) (mSG M) (S.1, v :: f :: r :: st, S.2.2.1, S.2.2.2) n ws sh sc ls (w3 :: w1 :: w2 :: vs2) := ⟨o.1, o.2.1, ⟨hv2, h2, h4, h5⟩, o.2.2.2⟩
          have o2 := o1.nt (x := (tS, 0, (60, f.2.1, [v.2.1]))) ⟨by dsimp only; omega, ht0, hSG, rfl, lf, fun j hj => by
              rw [List.mem_singleton.mp hj]
              exact lm, q2, a2, cA, len, g, ht2, hq2, by
              dsimp only [List.map]
              unfold ck_nt
              rw [if_neg (by decide)]
              show (n f.2.1).1 + (n v.2.1).1 ≤ 240
              omega⟩
          subst e3
          refine WG.ld (fun h => lv_iload X.1 X.2.1 hdg hv1 h) hv1 X.2.1 hdg (fun _ _ h => h) ?_
          exact (hk _ (by rw [← eL]; exact List.mem_cons_self)).at o2 hw hx hP hD hS rfl
        · cases h
      · cases h
    · cases h
  · cases h
theorem ck_sAd_ok (X : ck_cx p l e R s m args below meth c cc own D cl tys M sc A) {F tS : Nat} (hts : tS ≠ 0) {L : List ck_S} (h : ck_sAd F tS S = some L) (hk : ∀ S' ∈ L, ck_g Fc s0 p l e R s m args below meth c Q D cl tys M sc A ws0 sh0 S' (pc + 1)) (hdg : decode cc pc = .ok (.iadd, 1)) : ck_g Fc s0 p l e R s m args below meth c Q D cl tys M sc A ws0 sh0 S pc := by
  intro n ws sh H locs ls vs o hw hx hP hD hS
  unfold ck_sAd at h
  split at h
  · rename_i x y st z hst hf
    split at h
    · rename_i b hb
      split at h
      · rename_i hc
        obtain ⟨c1, c2, c3, c4, c5, c6⟩ := hc
        have eL := Option.some.inj h
        have o3 := o.2.2.1
        rw [hst] at o3
        obtain ⟨w1, vs1, rfl, h2, h3⟩ := ck_hd o3
        obtain ⟨w2, vs2, rfl, h4, h5⟩ := ck_hd h3
        obtain ⟨-, a1, rfl, e1⟩ := h2.i c1
        obtain ⟨-, a2, rfl, e2⟩ := h4.i c2
        have p3 := ck_ent_ok o.2.2.2.2.1 o.2.2.2.2.2 F _ _ _ c3
        have p4 := ck_ent_ok o.2.2.2.2.1 o.2.2.2.2.2 F _ _ _ c4
        have p5 := ck_ent_ok o.2.2.2.2.1 o.2.2.2.2.2 F _ _ _ c5
        have p6 := ck_ent_ok o.2.2.2.2.1 o.2.2.2.2.2 F _ _ _ c6
        rw [o.1.2] at p5 p6
        have hz := List.find?_some hf
        simp only [Bool.and_eq_true, beq_iff_eq] at hz
        obtain ⟨z1, z2, z3⟩ := hz
        have hsum : (n z.2.2.2.1).1 + (n b).1 ≤ 240 := by
          rcases o.2.2.2.1 z (List.mem_of_find?_eq_some hf) with ⟨w, -⟩ | ⟨-, -, q1, a', oo, v, -, -, -, w⟩ | ⟨w0, w1, w2, w3, w4, w5, q1, a', cA, len, g, w6, w7, w8⟩
          · rw [z1] at w
            exact absurd w hts
          · exfalso
            have w := w.2
            split at w <;> first | omega | exact w
          · rw [hb] at w8
            rw [z3] at w8
            unfold ck_nt at w8
            rw [if_neg (by decide)] at w8
            exact w8
        have hv : (a2 + a1).toInt = a2.toInt + a1.toInt := by
          rw [Int32.toInt_add]
          exact Int.bmod_eq_of_le (by omega) (by omega)
        have o2 := o.new (st := st) (vs' := vs2) h5 (tag := 0) (ts := []) (iv := (0, 239)) (rs := []) (x := ((a2 + a1).toInt, .null)) (v := .int (a2 + a1)) (.mi (Nat.lt_succ_self _) (by rw [ck_nx_eq])) (fun _ => by dsimp only; omega) (fun r hr => by cases hr)
        refine WG.up (fun hh => lv_iadd X.1 X.2.1 hdg hh) X.2.1 hdg (fun lg => ⟨a2, a1, _, rfl, rfl⟩) ?_
        exact (hk _ (by rw [← eL]; exact List.mem_cons_self)).at o2 hw hx hP hD hS rfl
      · cases h
    · cases h
  · cases h
end
end
