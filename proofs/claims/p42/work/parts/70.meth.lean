noncomputable section
/-! contracts: a method by its check -/
/-- what all methods share: classes, types, single types, the array classes' kinds, the tables' words, pairs that aren't castable -/
abbrev ck_Wd : Type := List vw_C × List ck_D × List Nat × List FieldType × List Cond × List (String × String) × List Cond
def ck_nk : Cond → Bool
  | .castable _ _ => true
  | .declares _ => true
  | .methodLinkNest _ _ _ _ => true
  | _ => false
/-- the words that the kit carries one by one -/
def ck_nq (V : ck_Wd) (U : State) : Prop := (∀ q ∈ V.2.2.2.2.2.1, va_Nc q.1 q.2 U) ∧ ∀ w ∈ V.2.2.2.2.2.2, ck_nk w = true ∧ va_Nw w U
theorem ck_nq.same {V : ck_Wd} {u U : State} (e : u.vm = U.vm) (h : ck_nq V u) : ck_nq V U :=
  ⟨fun q hq => (h.1 q hq).moved (by rw [e]; exact Vm.Alike.refl _), fun w hw => ⟨(h.2 w hw).1, by
    obtain ⟨h1, h2⟩ := h.2 w hw
    cases w <;> first | exact h2.same rfl e | (cases h1)⟩⟩
theorem ck_nq.warm {V : ck_Wd} {s U : State} (hW : s.WarmedH U.vm) (h : ck_nq V s) : ck_nq V U :=
  ⟨fun q hq => (h.1 q hq).moved hW.alike, fun w hw => ⟨(h.2 w hw).1, by
    obtain ⟨h1, h2⟩ := h.2 w hw
    cases w <;> first | exact h2.warmC hW | exact h2.warmM hW | exact h2.warmD hW | exact va_Nw.warmC hW h2 | exact va_Nw.warmM hW h2 | exact va_Nw.warmD hW h2 | (cases h1)⟩⟩
def ck_st (V : ck_Wd) (D : va_G) (tys : List (ClassId × FieldType)) (ws : va_W) (sz : Nat) (sw : Option Nat) (U : State) : Prop :=
  U.heap.size = sz ∧ va_P D V.1 ws U.heap ∧ va_K D V.1 tys U ∧ va_D (fun _ => True) ws ∧ ck_nq V U ∧
  ∀ w : Nat, sw = some w → va_Z "ReasonDesk$Bits" "WITH" "[J" (.ref w) (va_A ws sz) U U.heap ∧ va_T .long w 6 (fun j => .long (fw_v j)) (va_A ws sz) U U.heap
abbrev ck_Ph : Type := va_W → List Nat → ck_N → Prop
def ck_qp (V : ck_Wd) (D : va_G) (tys : List (ClassId × FieldType)) (ws : va_W) (sh : List Nat) (sz : Nat) (sw : Option Nat) (n1 : ck_N) (C : ck_C) (Ps : fR) (As : List Value) : Array Value → State → Outcome → State → Prop := fun _ st oc t =>
  (∃ P ∈ C.2.1, ∃ (rv : Option Value) (n2 : ck_N) (ws' : va_W) (sh' : List Nat), oc = .returned rv ∧ (∀ k, k < C.1.2.2.1.length → n2 k = n1 k) ∧ ck_wo tys V.2.1 V.2.2.1 ws' sh' ∧ ck_ex C.2.2.1 ws sh ws' sh' ∧ va_P D V.1 ws' t.heap ∧ va_D (va_A ws sz) ws' ∧
    ck_po V.2.2.1 ws' sh' (none, sw, fun _ => 0) n2 P.2.2.1.length P rv.toList ∧ Ps As ws sh rv ws' sh') ∧ va_F (va_A ws sz) st t
/-- a contract; Ph: what is asked besides, Ps: what is said besides -/
def ck_mtx (V : ck_Wd) (l : Launch) (y : MethodName) (cc : ByteArray) (nL : Nat) (ret : Option FieldType) (rm : Room) (C : ck_C) (Ph : ck_Ph) (Ps : fR) : Prop :=
  ∀ (D : va_G) (tys : List (ClassId × FieldType)) (ws : va_W) (sh : List Nat) (sz : Nat) (n1 : ck_N) (As : List Value) (sw : Option Nat), tys.map Prod.snd = V.2.2.2.1 → sw.isSome = true → (n1 0).1 = 0 → ck_po V.2.2.1 ws sh (none, sw, fun _ => 0) n1 C.1.2.2.1.length C.1 As → ck_wo tys V.2.1 V.2.2.1 ws sh → Ph ws sh n1 →
    Met l y (.code y cc nL ret :: V.2.2.2.2.1) rm (va_Pc As (ck_st V D tys ws sz sw)) (ck_qp V D tys ws sh sz sw n1 C Ps As) C.2.2.2.1 C.2.2.2.2 (va_A ws sz)
def ck_met (V : ck_Wd) (l : Launch) (y : MethodName) (cc : ByteArray) (nL : Nat) (ret : Option FieldType) (rm : Room) (C : ck_C) (r : fR) : Prop := ck_mtx V l y cc nL ret rm C (fun _ _ _ => True) r
def ck_args : Nat → List ck_V → List (Nat × ck_V)
  | _, [] => []
  | i, v :: vs => (i, v) :: ck_args (if v.1 = 1 then i + 2 else i + 1) vs
def ck_wid : List ck_V → Nat
  | [] => 0
  | v :: vs => ck_cat v + ck_wid vs
/-- the state at the entry -/
def ck_en (C : ck_C) : ck_S := (ck_args 0 C.1.1, [], C.1.2.1 ++ ck_ab C.1.2.2.1.length, C.1.2.2.1, C.1.2.2.2, 0, 0)
/-- a single object's own number is noted at the entry -/
def ck_p1 (M : ck_Me) (S : ck_S) (x : Nat × Nat) : Option ck_S := match S.1 with
  | q :: _ => if q.2.1 = 2 ∧ q.2.2.2 = [x.1] ∧ (mSG M).contains x.1 = true ∧ x.1 ≠ 0 then (match (mTT M)[x.1]? with
    | some td => if td.1 = 0 then (match td.2.2.2[x.2]? with
      | some y => if y.1 = 0 then some (S.1, S.2.1, (x.1, x.2, (0, S.2.2.2.1.length, [])) :: S.2.2.1, S.2.2.2.1 ++ [(y.2.1, y.2.2.1)], S.2.2.2.2) else none
      | none => none) else none
    | none => none) else none
  | [] => none
def ck_pn (M : ck_Me) : List (Nat × Nat) → ck_S → Option ck_S
  | [], S => some S
  | x :: l, S => match ck_p1 M S x with
    | some S' => ck_pn M l S'
    | none => none
theorem ck_p1_ok {M : ck_Me} {S S' : ck_S} {x : Nat × Nat} (h : ck_p1 M S x = some S') {nL : Nat} {n : ck_N} {ws : va_W} {sh : List Nat} {sc : ck_sc} {ls : Array Slot} {vs : List Value} {tys : List (ClassId × FieldType)} (o : ck_so nL (mSG M) S n ws sh sc ls vs) (hw : ck_wo tys (mTT M) (mSG M) ws sh) :
    ∃ n', ck_so nL (mSG M) S' n' ws sh sc ls vs ∧ S'.2.2.2.2.2 = S.2.2.2.2.2 := by
  unfold ck_p1 at h
  split at h
  · rename_i q rest hq
    split at h
    · rename_i hc
      split at h
      · rename_i td htd
        split at h
        · rename_i h0
          split at h
          · rename_i y hy
            split at h
            · rename_i hy0
              have e := Option.some.inj h
              subst e
              obtain ⟨lv, l1, l2⟩ := id o.2.1
              rw [hq] at l2
              cases lv with
              | nil => exact l2.elim
              | cons z lv =>
                obtain ⟨-, -, q0, a, e', t, -, hq0, ht, htm⟩ := l2.1.2.r hc.1
                rw [hc.2.1] at htm
                have et := List.mem_singleton.mp htm
                subst et
                obtain ⟨td', g1, g2⟩ := hw.2.1 q0 a e' x.1 hq0 ht
                have e1 : td' = td := Option.some.inj (g1.symm.trans htd)
                subst e1
                unfold ck_co at g2
                rw [h0] at g2
                obtain ⟨fs, rfl, g3, g4⟩ := g2
                obtain ⟨v, g5, g6⟩ := g4 x.2 y hy
                unfold ck_fo at g6
                rw [hy0] at g6
                obtain ⟨w, rfl, w1, w2⟩ := g6
                have o' := o.new o.2.2.1 (tag := 0) (ts := []) (iv := (y.2.1, y.2.2.1)) (rs := []) (x := (w.toInt, .null)) (v := .int w) (.mi (Nat.lt_succ_self _) (by rw [ck_nx_eq])) (fun _ => ⟨w1, w2⟩) (fun r hr => by cases hr)
                refine ⟨_, ⟨o'.1, o'.2.1, o'.2.2.1.2, fun u hu => ?_, o'.2.2.2.2⟩, rfl⟩
                rcases List.mem_cons.mp hu with rfl | hu
                · exact Or.inr (Or.inl ⟨hc.2.2.2, List.contains_iff_mem.mp hc.2.2.1, q0, a, _, .int w, ht, hq0, g5, o'.2.2.1.1⟩)
                · exact o'.2.2.2.1 u hu
            · cases h
          · cases h
        · cases h
      · cases h
    · cases h
  · cases h
theorem ck_pn_ok {M : ck_Me} {nL : Nat} {ws : va_W} {sh : List Nat} {sc : ck_sc} {ls : Array Slot} {vs : List Value} {tys : List (ClassId × FieldType)} (hw : ck_wo tys (mTT M) (mSG M) ws sh) : ∀ {l : List (Nat × Nat)} {S S' : ck_S} {n : ck_N}, ck_pn M l S = some S' → ck_so nL (mSG M) S n ws sh sc ls vs →
    ∃ n', ck_so nL (mSG M) S' n' ws sh sc ls vs ∧ S'.2.2.2.2.2 = S.2.2.2.2.2
  | [], S, S', n, h, o => by
    have e := Option.some.inj h
    subst e
    exact ⟨n, o, rfl⟩
  | x :: l, S, S', n, h, o => by
    rw [ck_pn] at h
    split at h
    · rename_i S1 h1
      obtain ⟨n1, o1, e1⟩ := ck_p1_ok h1 o hw
      obtain ⟨n2, o2, e2⟩ := ck_pn_ok hw h o1
      exact ⟨n2, o2, e2.trans e1⟩
    · cases h
def ck_fresh (nE : Nat) (v : ck_V) : Bool := v.1 == 0 || (v.1 == 1 || ((v.1 == 2 || (v.1 == 3 || v.1 == 4)) && decide (nE ≤ v.2.1)))
/-- the end: one of the cases is met; rt: 0 void, 1 int, 2 truth, 3 long, 4 reference -/
def ck_kr (F nE rt : Nat) (C : ck_C) (kd : Nat) (S : ck_S) : Bool :=
  (decide (S.2.2.2.2.2.1 ≤ C.2.2.2.1) && (decide (S.2.2.2.2.2.2 ≤ C.2.2.2.2) && (ck_hb S nE && (match rt with
    | 0 => kd == 0
    | 1 => kd == 1
    | 2 => kd == 1 && (match S.2.1 with
      | v :: _ => ck_ent S.2.2.2.1 S.2.2.2.2.1 F v.2.1 0 1 && ck_ent S.2.2.2.1 S.2.2.2.2.1 F 0 v.2.1 0
      | [] => false)
    | 3 => kd == 2
    | _ => kd == 3)))) &&
  C.2.1.any (fun P => P.1.all (ck_fresh nE) && (P.2.1.all (fun m => !(m.1 == 0) && (decide (20 ≤ m.2.2.1) || ck_fresh nE m.2.2)) && match ck_mt F S (List.range nE) S.2.1 P with
    | some g => g.length == P.2.2.1.length
    | none => false))
theorem ck_two_args {ws : va_W} {sh : List Nat} {sc : ck_sc} {n : ck_N} {N : Nat} : ∀ {vs : List ck_V} {xs : List Value} (i : Nat), ck_two (ck_vo ws sh sc n N) vs xs → ck_two (fun (x : Nat × ck_V) (y : Nat × Value) => x.1 = y.1 ∧ ck_vo ws sh sc n N x.2 y.2) (ck_args i vs) (lv_args i xs)
  | [], [], _, _ => trivial
  | v :: vs, x :: xs, i, h => by
    have e : (if x.category = 2 then i + 2 else i + 1) = (if v.1 = 1 then i + 2 else i + 1) := by
      rw [ck_cat_ok h.1]
      unfold ck_cat
      by_cases q : v.1 = 1
      · rw [if_pos q, if_pos q, if_pos rfl]
      · rw [if_neg q, if_neg q, if_neg (by decide)]
    refine ⟨⟨rfl, h.1⟩, ?_⟩
    show ck_two _ (ck_args (if v.1 = 1 then i + 2 else i + 1) vs) (lv_args (if x.category = 2 then i + 2 else i + 1) xs)
    rw [e]
    exact ck_two_args _ h.2
  | [], _ :: _, _, h => h.elim
  | _ :: _, [], _, h => h.elim
theorem ck_vo.ag {ws : va_W} {sh : List Nat} {sc : ck_sc} {n n2 : ck_N} {N nE : Nat} (h1 : ∀ k, k < N → (n2 k).1 = (n k).1) (h2 : ∀ k, nE ≤ k → k < N → n2 k = n k) {v : ck_V} (hf : ck_fresh nE v = true) {x : Value} (h : ck_vo ws sh sc n N v x) : ck_vo ws sh sc n2 N v x := by
  unfold ck_fresh at hf
  simp only [Bool.or_eq_true, Bool.and_eq_true, beq_iff_eq, decide_eq_true_eq] at hf
  unfold ck_vo at h ⊢
  refine ⟨h.1, ?_⟩
  have hx := h.2
  rcases hf with e | e | ⟨e | e | e, hle⟩
  · rw [e] at hx ⊢
    rw [h1 _ h.1]
    exact hx
  · rw [e] at hx ⊢
    rw [h1 _ h.1]
    exact hx
  · rw [e] at hx ⊢
    rw [h2 _ hle h.1]
    exact hx
  · rw [e] at hx ⊢
    rw [h2 _ hle h.1]
    exact hx
  · rw [e] at hx ⊢
    rw [h2 _ hle h.1]
    exact hx
section
variable {p : Program} {l : Launch} {e : Env} {R : Room} {s : State} {m : MethodId} {args : Array Value} {below : List Frame} {meth : Method} {c : Code} {Q : State → Prop} {cc : ByteArray} {own : String} {D : va_G} {cl : List vw_C} {tys : List (ClassId × FieldType)} {M : ck_Me} {sc : ck_sc} {A : Nat → Prop} {ws0 : va_W} {sh0 : List Nat} {Fc : Nat → Nat × fR} {s0 : fS}
theorem ck_kr_ok {F nE rt kd : Nat} {C : ck_C} {S : ck_S} {nL : Nat} {SG : List Nat} {n n1 : ck_N} {ws : va_W} {sh : List Nat} {b : Nat → Int} {ls : Array Slot} {vs : List Value} (h : ck_kr F nE rt C kd S = true) (o : ck_so nL SG S n ws sh (sc.1, sc.2.1, b) ls vs) (hb : ∀ k, k < nE → b (1000 + k) = (n1 k).1) :
    ∃ P ∈ C.2.1, ∃ n2 : ck_N, (∀ k, k < nE → n2 k = n1 k) ∧ ck_po SG ws sh sc n2 P.2.2.1.length P vs := by
  unfold ck_kr at h
  rw [Bool.and_eq_true, List.any_eq_true] at h
  obtain ⟨h1, P, hP, h2⟩ := h
  simp only [Bool.and_eq_true] at h1 h2
  obtain ⟨-, -, hhb, -⟩ := h1
  obtain ⟨hf1, hf2, h3⟩ := h2
  refine ⟨P, hP, ?_⟩
  split at h3
  · rename_i g hg
    obtain ⟨⟨t, rfl⟩, g2, g3, g4, g5, g6⟩ := ck_mt_ok o hg o.2.2.1 (fun s hs => by
      have h1 := List.contains_iff_mem.mp (List.all_eq_true.mp hhb (0, 1000 + s, (8, s, [])) (List.mem_map.mpr ⟨s, hs, rfl⟩))
      rcases o.2.2.2.1 _ h1 with ⟨-, z, -⟩ | ⟨z, -⟩ | ⟨-, z, -⟩
      · exact z
      · exact absurd rfl z
      · exact absurd rfl z)
    have hlen := eq_of_beq h3
    rw [hlen] at g3 g4 g6
    obtain ⟨n2, hn2⟩ : ∃ n2 : ck_N, n2 = fun k => if k < nE then n1 k else ck_pl (List.range nE ++ t) n k := ⟨_, rfl⟩
    have a1 : ∀ k, k < nE → n2 k = n1 k := fun k hk => by rw [hn2]; exact if_pos hk
    have a2 : ∀ k, nE ≤ k → n2 k = ck_pl (List.range nE ++ t) n k := fun k hk => by rw [hn2]; exact if_neg (by omega)
    have a3 : ∀ k, (n2 k).1 = (ck_pl (List.range nE ++ t) n k).1 := fun k => by
      rcases Nat.lt_or_ge k nE with hk | hk
      · rw [a1 k hk]
        unfold ck_pl
        rw [ck_rng_get hk, ck_hb_ok o.2.2.2.1 hhb hk, hb k hk]
      · rw [a2 k hk]
    have hall : ∀ v ∈ P.1, ck_fresh nE v = true := fun v hv => List.all_eq_true.mp hf1 v hv
    refine ⟨n2, a1, ?_, ?_, fun k x hx hle => by rw [a3 k]; exact g5 k x hx hle, fun r hr => ⟨(g6 r hr).1, (g6 r hr).2.1, by rw [a3, a3]; exact (g6 r hr).2.2⟩⟩
    · revert hall g3
      generalize P.1 = ps
      generalize vs = xs
      clear o hg h3
      intro g3 hall
      induction ps generalizing xs with
      | nil => cases xs with
        | nil => trivial
        | cons _ _ => exact g3.elim
      | cons v ps ih => cases xs with
        | nil => exact g3.elim
        | cons x xs => exact ⟨(g3.1.sc (sc' := sc) rfl rfl).ag (nE := nE) (fun k _ => a3 k) (fun k hk _ => a2 k hk) (hall v List.mem_cons_self), ih xs g3.2 (fun w hw => hall w (List.mem_cons_of_mem _ hw))⟩
    · intro x hx
      have hx2 := List.all_eq_true.mp hf2 x hx
      rw [Bool.and_eq_true, Bool.not_eq_true', beq_eq_false_iff_ne] at hx2
      rcases g4 x hx with ⟨z, -⟩ | ⟨z0, z1, q, a, oo, v, z2, z3, z4, z5⟩ | ⟨y0, y1, y2, y3, y4, y5, q, a, cA, len, f, y6, y7, y8⟩
      · exact absurd z hx2.1
      · rw [Bool.or_eq_true, decide_eq_true_eq] at hx2
        rcases hx2.2 with w | w
        · exfalso
          have z5 := z5.2
          split at z5 <;> omega
        · exact Or.inr (Or.inl ⟨z0, z1, q, a, oo, v, z2, z3, z4, (z5.sc (sc' := sc) rfl rfl).ag (nE := nE) (fun k _ => a3 k) (fun k hk _ => a2 k hk) w⟩)
      · refine Or.inr (Or.inr ⟨y0, y1, y2, y3, y4, y5, q, a, cA, len, f, y6, y7, ?_⟩)
        rw [a3, List.map_congr_left (fun j _ => a3 j)]
        exact y8
  · cases h3
end
end
