noncomputable section
/-! the makers' step is sound -/
def mk_ao (U : State) : Prop := va_AO "ReasonDesk$Bits" U ∧ va_AO "ReasonDesk$Entry" U ∧ va_AO "ReasonDesk$Rule" U ∧ va_AO "ReasonDesk$Thing" U ∧ mk_AI U
theorem mk_fe {α : Type} {f : α → Nat} {l : List α} {i : Nat} {y : α} (h : l.find? (fun x => f x == i) = some y) : f y = i := by
  have h2 := List.find?_some h
  exact eq_of_beq h2
theorem mk_AI.moved {u U : State} (hvm : u.vm.Alike U.vm) (h : mk_AI u) : mk_AI U := by
  obtain ⟨comp, cA, kA, h1, h2, h3, h4⟩ := h
  obtain ⟨kA', h5, h6⟩ := hvm.2.2 _ _ h2
  refine ⟨comp, cA, kA', ?_, h5, by rw [h6]; exact h3, ?_⟩
  · rw [hvm.findClass]; exact h1
  · rw [hvm.findClass]; exact h4
theorem mk_ao.moved {u U : State} (hvm : u.vm.Alike U.vm) (h : mk_ao u) : mk_ao U := ⟨h.1.moved hvm, h.2.1.moved hvm, h.2.2.1.moved hvm, h.2.2.2.1.moved hvm, h.2.2.2.2.moved hvm⟩
theorem mk_RA {U : State} {ty : FieldType} {a b : ClassId} (h : va_RA U a ty) (h2 : va_RA U b ty) : a = b := by
  cases ty with
  | object C =>
    obtain ⟨-, -, -, -, -, h3⟩ := h
    obtain ⟨-, -, -, -, -, h4⟩ := h2
    exact Option.some.inj (h3.symm.trans h4)
  | _ =>
    unfold va_RA at h h2
    exact Option.some.inj (h.symm.trans h2)
theorem ck_two_get {α β : Type} {P : α → β → Prop} : ∀ {l : List α} {r : List β}, l.length = r.length → (∀ (j : Nat) (a : α) (b : β), l[j]? = some a → r[j]? = some b → P a b) → ck_two P l r
  | [], [], _, _ => trivial
  | a :: l, b :: r, h, hp => ⟨hp 0 a b rfl rfl, ck_two_get (Nat.succ.inj h) (fun j x y h1 h2 => hp (j + 1) x y (by simpa using h1) (by simpa using h2))⟩
  | [], _ :: _, h, _ => by cases h
  | _ :: _, [], h, _ => by cases h
theorem ck_two_at {α β : Type} {P : α → β → Prop} : ∀ {l : List α} {r : List β}, ck_two P l r → ∀ (j : Nat) (a : α), l[j]? = some a → ∃ b, r[j]? = some b ∧ P a b
  | a :: l, b :: r, h, 0, x, hx => ⟨b, rfl, by rw [← Option.some.inj hx]; exact h.1⟩
  | a :: l, b :: r, h, j + 1, x, hx => ck_two_at h.2 j x (by simpa using hx)
  | [], _, _, _, _, hx => by simp at hx
  | _ :: _, [], h, _, _, _ => h.elim
theorem ck_two_set {α β : Type} {P : α → β → Prop} {x : α} {y : β} (hxy : P x y) : ∀ {l : List α} {r : List β} (k : Nat), ck_two P l r → ck_two P (l.set k x) (r.set k y)
  | [], [], _, _ => trivial
  | a :: l, b :: r, 0, h => ⟨hxy, h.2⟩
  | a :: l, b :: r, k + 1, h => ⟨h.1, ck_two_set hxy k h.2⟩
  | [], _ :: _, _, h => h.elim
  | _ :: _, [], _, h => h.elim
def mk_so (tys : List (ClassId × FieldType)) (nL : Nat) (S : mk_S) (ws : va_W) (ls : Array Slot) (vs : List Value) : Prop :=
  (∃ lv, lv_has ls nL lv ∧ ck_two (fun (x : Nat × mk_V) (y : Nat × Value) => x.1 = y.1 ∧ mk_vo ws x.2 y.2) S.1 lv) ∧ ck_two (mk_vo ws) S.2.1 vs ∧ mk_wo tys ws S.2.2.1
theorem mk_so.look {tys : List (ClassId × FieldType)} {nL : Nat} {S : mk_S} {ws : va_W} {ls : Array Slot} {vs : List Value} (h : mk_so tys nL S ws ls vs) {i : Nat} {v : mk_V} (hv : mk_look S.1 i = some v) : ∃ x, ls[i]? = some (.val x) ∧ mk_vo ws v x ∧ ∃ lv, lv_has ls nL lv ∧ (i, x) ∈ lv ∧ ck_two (fun (x : Nat × mk_V) (y : Nat × Value) => x.1 = y.1 ∧ mk_vo ws x.2 y.2) S.1 lv := by
  obtain ⟨⟨lv, h1, h2⟩, -⟩ := h
  unfold mk_look at hv
  cases hf : S.1.find? (fun q => q.1 == i) with
  | none => rw [hf] at hv; cases hv
  | some q =>
    rw [hf] at hv
    have e : q.2 = v := Option.some.inj hv
    subst e
    have hm := List.mem_of_find?_eq_some hf
    have hi : q.1 = i := mk_fe hf
    obtain ⟨y, hy, e1, e2⟩ := ck_two.mem h2 hm
    have hy1 : y.1 = i := by rw [← e1, hi]
    exact ⟨y.2, by rw [← hy1]; exact h1.2.2 y hy, e2, lv, h1, by rw [← hy1]; exact hy, h2⟩
theorem mk_flt {ws : va_W} {i : Nat} (x : Nat × mk_V) (y : Nat × Value) (h : x.1 = y.1 ∧ mk_vo ws x.2 y.2) : (!(x.1 == i)) = (!(y.1 == i) && !(y.1 + 1 == i && y.2.category == 2)) := by
  have hc : (y.2.category == 2) = false := by rw [h.2.cat]; rfl
  rw [h.1, hc, Bool.and_false, Bool.not_false, Bool.and_true]
theorem mk_cmp_ok {cd : ClassFile.Cond} {x y : Int} : mk_cmp cd x y = true ↔ ck_cm cd x y := by
  cases cd <;> simp [mk_cmp, ck_cm]
section
variable {p : Program} {l : Launch} {e : Env} {R : Room} {s : State} {m : MethodId} {args : Array Value} {below : List Frame} {meth : Method} {c : Code} {Q : State → Prop} {cc : ByteArray} {own : String} {D : va_G} {V : ck_Wd} {tys : List (ClassId × FieldType)} {T : mk_T} {A : Nat → Prop} {ws0 : va_W} {S : mk_S} {x : mk_S × Nat} {pc pc' : Nat}
def mk_g (p : Program) (l : Launch) (e : Env) (R : Room) (s : State) (m : MethodId) (args : Array Value) (below : List Frame) (meth : Method) (c : Code) (Q : State → Prop) (D : va_G) (cl : List vw_C) (tys : List (ClassId × FieldType)) (nL : Nat) (A : Nat → Prop) (ws0 : va_W) (S : mk_S) (pc : Nat) : Prop :=
  ∀ (ws : va_W) (H : Heap) (locs : List Loc) (ls : Array Slot) (vs : List Value), mk_so tys nL S ws ls vs → mk_le ws0 ws → va_P D cl ws H → va_D A ws → va_S A s.heap H locs → W p l e R s m args below meth c H locs S.2.2.2.1 S.2.2.2.2 Q (F0 m pc ls vs)
def mk_cx (p : Program) (e : Env) (R : Room) (s : State) (m : MethodId) (args : Array Value) (meth : Method) (c : Code) (cc : ByteArray) (own : String) (D : va_G) (V : ck_Wd) (tys : List (ClassId × FieldType)) (T : mk_T) (A : Nat → Prop) : Prop :=
  p.tables.exec = Jvm.exec ∧ c.code = cc ∧ s.vm.findClass own = some m.cls ∧ va_K D V.1 tys s ∧ (∀ q, s.heap.size ≤ q → A q) ∧ c.maxLocals = mnL0 T ∧ (mRC0 T ≤ R.cells ∧ mRS0 T ≤ R.slots) ∧ meth.locks = false ∧ (∀ w ∈ V.2.2.2.2.1, w.before args s = true) ∧ tys.map Prod.snd = V.2.2.2.1 ∧ ck_nq V s ∧ mk_ao s
theorem mk_cst_ok {v : Int} {ok : Bool} {w : Int32} (h : mk_cst S pc' v ok = some x) (hw : ok = true → w.toInt = v) (hk : mk_g p l e R s m args below meth c Q D V.1 tys (mnL0 T) A ws0 x.1 x.2)
    (row : ∀ (H : Heap) (locs : List Loc) (ls : Array Slot) (vs : List Value), W p l e R s m args below meth c H locs S.2.2.2.1 S.2.2.2.2 Q (F0 m pc' ls (.int w :: vs)) → W p l e R s m args below meth c H locs S.2.2.2.1 S.2.2.2.2 Q (F0 m pc ls vs)) : mk_g p l e R s m args below meth c Q D V.1 tys (mnL0 T) A ws0 S pc := by
  unfold mk_cst at h
  split at h
  · rename_i hok
    cases h
    exact fun ws H locs ls vs o hle hP hD hS => row H locs ls vs (hk ws H locs ls _ ⟨o.1, ⟨mk_vo.int (hw hok), o.2.1⟩, o.2.2⟩ hle hP hD hS)
  · cases h
theorem mk_ld_ok {i : Nat} {ok : mk_V → Bool} (h : mk_ld S pc' i ok = some x) (hk : mk_g p l e R s m args below meth c Q D V.1 tys (mnL0 T) A ws0 x.1 x.2)
    (row : ∀ (H : Heap) (locs : List Loc) (ls : Array Slot) (vs : List Value) (v : Value) (av : mk_V) (ws : va_W), ok av = true → mk_vo ws av v → ls[i]? = some (.val v) → W p l e R s m args below meth c H locs S.2.2.2.1 S.2.2.2.2 Q (F0 m pc' ls (v :: vs)) → W p l e R s m args below meth c H locs S.2.2.2.1 S.2.2.2.2 Q (F0 m pc ls vs)) : mk_g p l e R s m args below meth c Q D V.1 tys (mnL0 T) A ws0 S pc := by
  unfold mk_ld at h
  split at h
  · rename_i av hav
    split at h
    · rename_i hok
      cases h
      intro ws H locs ls vs o hle hP hD hS
      obtain ⟨v, h1, h2, -⟩ := o.look hav
      exact row H locs ls vs v av ws hok h2 h1 (hk ws H locs ls _ ⟨o.1, ⟨h2, o.2.1⟩, o.2.2⟩ hle hP hD hS)
    · cases h
  · cases h
theorem mk_sto_ok {i nL : Nat} {ok : mk_V → Bool} (h : mk_sto nL S pc' i ok = some x) (hk : mk_g p l e R s m args below meth c Q D V.1 tys nL A ws0 x.1 x.2)
    (row : ∀ (H : Heap) (locs : List Loc) (ls : Array Slot) (vs : List Value) (v : Value) (av : mk_V) (ws : va_W) (lv : List (Nat × Value)), ok av = true → mk_vo ws av v → lv_has ls nL lv → i < nL → (∀ ls' : Array Slot, lv_has ls' nL ((i, v) :: lv.filter (fun q => !(q.1 == i) && !(q.1 + 1 == i && q.2.category == 2))) → W p l e R s m args below meth c H locs S.2.2.2.1 S.2.2.2.2 Q (F0 m pc' ls' vs)) → W p l e R s m args below meth c H locs S.2.2.2.1 S.2.2.2.2 Q (F0 m pc ls (v :: vs))) : mk_g p l e R s m args below meth c Q D V.1 tys nL A ws0 S pc := by
  unfold mk_sto at h
  split at h
  · rename_i av st hst
    split at h
    · rename_i hok
      cases h
      intro ws H locs ls vs o hle hP hD hS
      obtain ⟨⟨lv, l1, l2⟩, o2, o3⟩ := o
      rw [hst] at o2
      cases vs with
      | nil => exact o2.elim
      | cons v vs =>
        exact row H locs ls vs v av ws lv hok.1 o2.1 l1 hok.2 (fun ls' hls' => hk ws H locs ls' vs ⟨⟨_, hls', ⟨⟨rfl, o2.1⟩, l2.flt mk_flt⟩⟩, o2.2, o3⟩ hle hP hD hS)
    · cases h
  · cases h
theorem mk_inc_ok (X : mk_cx p e R s m args meth c cc own D V tys T A) {i : Nat} {k : Int} (h : mk_inc (mnL0 T) S (pc + 3) i k = some x) (hk : mk_g p l e R s m args below meth c Q D V.1 tys (mnL0 T) A ws0 x.1 x.2) (hdg : decode cc pc = .ok (.iinc i k, 3)) : mk_g p l e R s m args below meth c Q D V.1 tys (mnL0 T) A ws0 S pc := by
  unfold mk_inc at h
  split at h
  · rename_i av hav
    split at h
    · rename_i hok
      obtain ⟨h1, h2, h3, h4⟩ := hok
      cases h
      intro ws H locs ls vs o hle hP hD hS
      obtain ⟨v, -, g2, lv, g3, g4, g5⟩ := o.look hav
      obtain ⟨w, rfl, ew⟩ := g2.i h1
      obtain ⟨j, hj⟩ := List.getElem?_of_mem g4
      refine lv_iinc X.1 X.2.1 (v := w + Int32.ofInt k) hdg g3 hj rfl h2 rfl (fun ls' hls' => ?_)
      refine hk ws H locs ls' vs ⟨⟨_, hls', ⟨⟨rfl, mk_vo.int ?_⟩, g5.flt mk_flt⟩⟩, o.2.1, o.2.2⟩ hle hP hD hS
      unfold mk_in32 at h4
      rw [decide_eq_true_eq] at h4
      have hkk : (Int32.ofInt k).toInt = k := Int32.toInt_ofInt_of_le (by omega) (by omega)
      rw [Int32.toInt_add, hkk, ew]
      exact Int.bmod_eq_of_le (by omega) (by omega)
    · cases h
  · cases h
theorem mk_goto_ok (X : mk_cx p e R s m args meth c cc own D V tys T A) {off : Int} (h : mk_goto S ((pc : Int) + off) = some x) (hk : mk_g p l e R s m args below meth c Q D V.1 tys (mnL0 T) A ws0 x.1 x.2) (hdg : decode cc pc = .ok (.goto off, 3)) : mk_g p l e R s m args below meth c Q D V.1 tys (mnL0 T) A ws0 S pc := by
  unfold mk_goto at h
  split at h
  · rename_i h0
    cases h
    exact fun ws H locs ls vs o hle hP hD hS => lv_goto X.1 X.2.1 hdg (tgt := ((pc : Int) + off).toNat) (by omega) (hk ws H locs ls vs o hle hP hD hS)
  · cases h
theorem mk_row_icmp (hexec : p.tables.exec = Jvm.exec) (hb : c.code = cc) {cd : ClassFile.Cond} {off : Int} {tgt : Nat} {x y : Int32} {H : Heap} {locs : List Loc} {ls : Array Slot} {cells slots : Nat} {rest : List Value} (hdg : decode cc pc = .ok (.if_icmp cd off, 3)) (ht : (pc : Int) + off = (tgt : Int))
    (kt : ck_cm cd x.toInt y.toInt → W p l e R s m args below meth c H locs cells slots Q (F0 m tgt ls rest)) (kf : ¬ ck_cm cd x.toInt y.toInt → W p l e R s m args below meth c H locs cells slots Q (F0 m (pc + 3) ls rest)) : W p l e R s m args below meth c H locs cells slots Q (F0 m pc ls (.int y :: .int x :: rest)) := by
  have e := @ck_cmI cd x y
  cases cd
  · exact lv_icmp_eq hexec hb hdg ht (fun h => kt (e.mpr h)) (fun h => kf (fun z => h (e.mp z)))
  · exact lv_icmp_ne hexec hb hdg ht (fun h => kt (e.mpr h)) (fun h => kf (fun z => e.mp z h))
  · exact lv_icmp_lt hexec hb hdg ht (fun h => kt (e.mpr h)) (fun h => kf (fun z => h (e.mp z)))
  · exact lv_icmp_ge hexec hb hdg ht (fun h => kt (e.mpr h)) (fun h => kf (fun z => h (e.mp z)))
  · exact lv_icmp_gt hexec hb hdg ht (fun h => kt (e.mpr h)) (fun h => kf (fun z => h (e.mp z)))
  · exact lv_icmp_le hexec hb hdg ht (fun h => kt (e.mpr h)) (fun h => kf (fun z => h (e.mp z)))
theorem mk_icmp_ok (X : mk_cx p e R s m args meth c cc own D V tys T A) {cd : ClassFile.Cond} {off : Int} (h : mk_icmp S pc cd off = some x) (hk : mk_g p l e R s m args below meth c Q D V.1 tys (mnL0 T) A ws0 x.1 x.2) (hdg : decode cc pc = .ok (.if_icmp cd off, 3)) : mk_g p l e R s m args below meth c Q D V.1 tys (mnL0 T) A ws0 S pc := by
  unfold mk_icmp at h
  split at h
  · rename_i y z st hst
    split at h
    · rename_i hc
      intro ws H locs ls vs o hle hP hD hS
      obtain ⟨o1, o2, o3⟩ := o
      rw [hst] at o2
      cases vs with
      | nil => exact o2.elim
      | cons v1 vs =>
        cases vs with
        | nil => exact o2.2.elim
        | cons v2 vs =>
          obtain ⟨w1, rfl, e1⟩ := o2.1.i hc.2.1
          obtain ⟨w2, rfl, e2⟩ := o2.2.1.i hc.1
          have hc3 := hc.2.2
          refine mk_row_icmp X.1 X.2.1 hdg (tgt := ((pc : Int) + off).toNat) (by omega) (fun g => ?_) (fun g => ?_)
          · rw [e1, e2] at g
            rw [if_pos (mk_cmp_ok.mpr g)] at h
            cases h
            exact hk ws H locs ls vs ⟨o1, o2.2.2, o3⟩ hle hP hD hS
          · rw [e1, e2] at g
            rw [if_neg (fun q => g (mk_cmp_ok.mp q))] at h
            cases h
            exact hk ws H locs ls vs ⟨o1, o2.2.2, o3⟩ hle hP hD hS
    · cases h
  · cases h
theorem mk_shr_ok (X : mk_cx p e R s m args meth c cc own D V tys T A) (h : mk_shr S (pc + 1) = some x) (hk : mk_g p l e R s m args below meth c Q D V.1 tys (mnL0 T) A ws0 x.1 x.2) (hdg : decode cc pc = .ok (.ishr, 1)) : mk_g p l e R s m args below meth c Q D V.1 tys (mnL0 T) A ws0 S pc := by
  unfold mk_shr at h
  split at h
  · rename_i y z st hst
    split at h
    · rename_i hc
      obtain ⟨c1, c2, c3, c4⟩ := hc
      cases h
      intro ws H locs ls vs o hle hP hD hS
      obtain ⟨o1, o2, o3⟩ := o
      rw [hst] at o2
      cases vs with
      | nil => exact o2.elim
      | cons v1 vs =>
        cases vs with
        | nil => exact o2.2.elim
        | cons v2 vs =>
          obtain ⟨w1, rfl, e1⟩ := o2.1.i c2
          obtain ⟨w2, rfl, e2⟩ := o2.2.1.i c1
          refine lv_ishr X.1 X.2.1 hdg (hk ws H locs ls _ ⟨o1, ⟨mk_vo.int ?_, o2.2.2⟩, o3⟩ hle hP hD hS)
          rw [ck_shr32 (k := y.2.1.toNat) (by omega) (by omega), BitVec.toInt_sshiftRight]
          show w2.toInt >>> _ = _
          rw [e2]
    · cases h
  · cases h
theorem mk_dup_ok (X : mk_cx p e R s m args meth c cc own D V tys T A) (h : mk_dup S (pc + 1) = some x) (hk : mk_g p l e R s m args below meth c Q D V.1 tys (mnL0 T) A ws0 x.1 x.2) (hdg : decode cc pc = .ok (.dup, 1)) : mk_g p l e R s m args below meth c Q D V.1 tys (mnL0 T) A ws0 S pc := by
  unfold mk_dup at h
  split at h
  · rename_i y st hst
    cases h
    intro ws H locs ls vs o hle hP hD hS
    obtain ⟨o1, o2, o3⟩ := o
    rw [hst] at o2
    cases vs with
    | nil => exact o2.elim
    | cons v1 vs => exact lv_dup X.1 X.2.1 hdg o2.1.cat (hk ws H locs ls _ ⟨o1, ⟨o2.1, o2.1, o2.2⟩, o3⟩ hle hP hD hS)
  · cases h
theorem mk_arr {c0 : mk_C} {e0 : va_E} {ws : va_W} (h : mk_co tys ws c0 e0) (h0 : c0.1 ≠ 0) : ∃ (cA : ClassId) (a : vp_A) (ty : FieldType), e0 = .inl (cA, a) ∧ a.1 = c0.2.2.1 ∧ tys[c0.2.1]? = some (cA, ty) := by
  unfold mk_co at h
  split at h
  · rename_i z; exact absurd z h0
  · obtain ⟨cA, f, h1, rfl, -⟩ := h
    exact ⟨_, _, _, rfl, rfl, h1⟩
  · obtain ⟨cA, f, h1, rfl⟩ := h
    exact ⟨_, _, _, rfl, rfl, h1⟩
  · obtain ⟨cA, C, f, h1, rfl, -⟩ := h
    exact ⟨_, _, _, rfl, rfl, h1⟩
  · obtain ⟨cA, f, h1, rfl, -⟩ := h
    exact ⟨_, _, _, rfl, rfl, h1⟩
  · obtain ⟨cA, f, h1, rfl, -⟩ := h
    exact ⟨_, _, _, rfl, rfl, h1⟩
theorem mk_alen_ok (X : mk_cx p e R s m args meth c cc own D V tys T A) (h : mk_alen S (pc + 1) = some x) (hk : mk_g p l e R s m args below meth c Q D V.1 tys (mnL0 T) A ws0 x.1 x.2) (hdg : decode cc pc = .ok (.arraylength, 1)) : mk_g p l e R s m args below meth c Q D V.1 tys (mnL0 T) A ws0 S pc := by
  unfold mk_alen at h
  split at h
  · rename_i r st hst
    split at h
    · rename_i hr
      split at h
      · rename_i c0 hc0
        split at h
        · rename_i hc
          cases h
          intro ws H locs ls vs o hle hP hD hS
          obtain ⟨o1, o2, o3⟩ := o
          rw [hst] at o2
          cases vs with
          | nil => exact o2.elim
          | cons v1 vs =>
            obtain ⟨a, e1, h1, rfl⟩ := o2.1.r hr
            obtain ⟨cA, a0, ty, rfl, h3, h4⟩ := mk_arr (o3.2 _ _ _ _ h1 hc0) hc.1
            refine va_alen X.1 X.2.1 X.2.2.2.1 hP r.2.2 _ h1 h4 rfl hdg (hk ws H locs ls _ ⟨o1, ⟨mk_vo.int ?_, o2.2⟩, o3⟩ hle hP hD hS)
            rw [h3]
            exact Int32.toInt_ofNat_of_lt (by omega)
        · cases h
      · cases h
    · cases h
  · cases h
end
end
