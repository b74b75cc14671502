noncomputable section
/-! the step is sound: the goal at a place, and what holds all along a method -/
/-- the room that was used before: what a method's own count doesn't hold -/
def ck_oc (R : Room) (M : ck_Me) : Nat := R.cells - (mRm M).1
def ck_os (R : Room) (M : ck_Me) : Nat := R.slots - (mRm M).2
theorem ck_ocl {R : Room} {M : ck_Me} {k n : Nat} (h : (mRm M).1 ≤ R.cells) (h2 : k + n ≤ (mRm M).1) : ck_oc R M + k + n ≤ R.cells := by
  unfold ck_oc
  omega
theorem ck_osl {R : Room} {M : ck_Me} {k n : Nat} (h : (mRm M).2 ≤ R.slots) (h2 : k + n ≤ (mRm M).2) : ck_os R M + k + n ≤ R.slots := by
  unfold ck_os
  omega
def ck_g (Fc : Nat → Nat × fR) (s0 : fS) (p : Program) (l : Launch) (e : Env) (R : Room) (s : State) (m : MethodId) (args : Array Value) (below : List Frame) (meth : Method) (c : Code) (Q : State → Prop) (D : va_G) (cl : List vw_C) (tys : List (ClassId × FieldType)) (M : ck_Me) (sc : ck_sc) (A : Nat → Prop) (ws0 : va_W) (sh0 : List Nat) (S : ck_S) (pc : Nat) : Prop :=
  ∀ (n : ck_N) (ws : va_W) (sh : List Nat) (H : Heap) (locs : List Loc) (ls : Array Slot) (vs : List Value), ck_so (mnL M) (mSG M) S n ws sh sc ls vs → ck_wo tys (mTT M) (mSG M) ws sh → ck_ex (mWr M) ws0 sh0 ws sh → va_P D cl ws H → va_D A ws → va_S A s.heap H locs →
    WG (tM M Fc sc.1) s0 p l e R s m args below meth c ws sh H locs (ck_oc R M + S.2.2.2.2.2.1) (ck_os R M + S.2.2.2.2.2.2) Q (pc, ls, vs)
def ck_cx (p : Program) (l : Launch) (e : Env) (R : Room) (s : State) (m : MethodId) (args : Array Value) (below : List Frame) (meth : Method) (c : Code) (cc : ByteArray) (own : String) (D : va_G) (cl : List vw_C) (tys : List (ClassId × FieldType)) (M : ck_Me) (sc : ck_sc) (A : Nat → Prop) : Prop :=
  p.tables.exec = Jvm.exec ∧ c.code = cc ∧ s.vm.findClass own = some m.cls ∧ va_K D cl tys s ∧ (∀ q, s.heap.size ≤ q → A q) ∧ c.maxLocals = mnL M ∧ ((mRm M).1 ≤ R.cells ∧ (mRm M).2 ≤ R.slots) ∧ meth.locks = false ∧
  (∀ (b L : Nat) (xs : Nat → Int32), sc.1 = some (b, L, xs) → va_X b L xs s s.heap ∧ b < s.heap.size ∧ ¬ A b ∧ L < 2147483648) ∧
  ∀ w : Nat, sc.2.1 = some w → va_Z "ReasonDesk$Bits" "WITH" "[J" (.ref w) A s s.heap ∧ va_T .long w 6 (fun j => .long (fw_v j)) A s s.heap
section
variable {p : Program} {l : Launch} {e : Env} {R : Room} {s : State} {m : MethodId} {args : Array Value} {below : List Frame} {meth : Method} {c : Code} {Q : State → Prop} {cc : ByteArray} {own : String} {D : va_G} {cl : List vw_C} {tys : List (ClassId × FieldType)} {M : ck_Me} {sc : ck_sc} {A : Nat → Prop} {ws0 : va_W} {sh0 : List Nat} {Fc : Nat → Nat × fR} {s0 : fS} {kr : Nat → ck_S → Bool} {k : ck_S → Bool} {S : ck_S} {pc pc' : Nat}
theorem ck_lt0 {b a : ck_V} {st : List ck_V} {ws : va_W} {sh : List Nat} {n : ck_N} {N : Nat} {vs : List Value} (h : ck_two (ck_vo ws sh sc n N) (b :: st) vs) : ∃ v vs', vs = v :: vs' ∧ ck_vo ws sh sc n N b v ∧ ck_two (ck_vo ws sh sc n N) st vs' := by
  cases vs with
  | nil => exact h.elim
  | cons v vs' => exact ⟨v, vs', rfl, h.1, h.2⟩
theorem ck_hd {b : ck_V} {st : List ck_V} {ws : va_W} {sh : List Nat} {n : ck_N} {N : Nat} {vs : List Value} (h : ck_two (ck_vo ws sh sc n N) (b :: st) vs) : ∃ v vs', vs = v :: vs' ∧ ck_vo ws sh sc n N b v ∧ ck_two (ck_vo ws sh sc n N) st vs' := by
  cases vs with
  | nil => exact h.elim
  | cons v vs' => exact ⟨v, vs', rfl, h.1, h.2⟩
theorem ck_vo.i {ws : va_W} {sh : List Nat} {n : ck_N} {N : Nat} {b : ck_V} {v : Value} (h : ck_vo ws sh sc n N b v) (e : b.1 = 0) : b.2.1 < N ∧ ∃ x : Int32, v = .int x ∧ x.toInt = (n b.2.1).1 := by
  unfold ck_vo at h
  rw [e] at h
  exact h
theorem ck_vo.j {ws : va_W} {sh : List Nat} {n : ck_N} {N : Nat} {b : ck_V} {v : Value} (h : ck_vo ws sh sc n N b v) (e : b.1 = 1) : b.2.1 < N ∧ ∃ x : Int64, v = .long x ∧ x.toInt = (n b.2.1).1 := by
  unfold ck_vo at h
  rw [e] at h
  exact h
theorem ck_vo.r {ws : va_W} {sh : List Nat} {n : ck_N} {N : Nat} {b : ck_V} {v : Value} (h : ck_vo ws sh sc n N b v) (e : b.1 = 2) : b.2.1 < N ∧ v = (n b.2.1).2 ∧ ck_rf ws sh b.2.2 v := by
  unfold ck_vo at h
  rw [e] at h
  exact h
theorem ck_vo.mi {ws : va_W} {sh : List Nat} {n : ck_N} {N k : Nat} {ts : List Nat} {x : Int32} (hk : k < N) (h : x.toInt = (n k).1) : ck_vo ws sh sc n N (0, k, ts) (.int x) := ⟨hk, x, rfl, h⟩
theorem ck_vo.ml {ws : va_W} {sh : List Nat} {n : ck_N} {N k : Nat} {ts : List Nat} {x : Int64} (hk : k < N) (h : x.toInt = (n k).1) : ck_vo ws sh sc n N (1, k, ts) (.long x) := ⟨hk, x, rfl, h⟩
/-- a row that puts a number on the stack -/
theorem ck_push {st : List ck_V} {tag : Nat} {iv : Int × Int} {vs0 : List Value} {n : ck_N} {ws : va_W} {sh : List Nat} {H : Heap} {locs : List Loc} {ls : Array Slot} {vs : List Value} {v : Value} {z : Int} (hk : ck_g Fc s0 p l e R s m args below meth c Q D cl tys M sc A ws0 sh0 (ck_new S st tag [] iv []) pc)
    (o : ck_so (mnL M) (mSG M) S n ws sh sc ls vs) (hw : ck_wo tys (mTT M) (mSG M) ws sh) (hx : ck_ex (mWr M) ws0 sh0 ws sh) (hP : va_P D cl ws H) (hD : va_D A ws) (hS : va_S A s.heap H locs) (hst : ck_two (ck_vo ws sh sc n S.2.2.2.1.length) st vs0)
    (hiv : ck_in iv z) (hv : ∀ (m : ck_N) (N k : Nat), k < N → (m k).1 = z → ck_vo ws sh sc m N (tag, k, []) v) : WG (tM M Fc sc.1) s0 p l e R s m args below meth c ws sh H locs (ck_oc R M + S.2.2.2.2.2.1) (ck_os R M + S.2.2.2.2.2.2) Q (pc, ls, (v :: vs0)) :=
  hk _ ws sh H locs ls _ (o.new hst (x := (z, .null)) (hv _ _ _ (Nat.lt_succ_self _) (by rw [ck_nx_eq])) (fun _ => hiv) (fun r hr => by cases hr)) hw hx hP hD hS
theorem ck_cstI {v : Int} {x : Int32} (hx : x.toInt = v) (hk : ck_g Fc s0 p l e R s m args below meth c Q D cl tys M sc A ws0 sh0 (ck_cst S 0 v) pc') (row : ∀ (ws : va_W) (sh : List Nat) (H : Heap) (locs : List Loc) (ls : Array Slot) (vs : List Value), WG (tM M Fc sc.1) s0 p l e R s m args below meth c ws sh H locs (ck_oc R M + S.2.2.2.2.2.1) (ck_os R M + S.2.2.2.2.2.2) Q (pc', ls, (.int x :: vs)) → WG (tM M Fc sc.1) s0 p l e R s m args below meth c ws sh H locs (ck_oc R M + S.2.2.2.2.2.1) (ck_os R M + S.2.2.2.2.2.2) Q (pc, ls, vs)) : ck_g Fc s0 p l e R s m args below meth c Q D cl tys M sc A ws0 sh0 S pc :=
  fun n ws sh H locs ls vs o hw hx1 hP hD hS => row ws sh H locs ls vs (ck_push hk o hw hx1 hP hD hS o.2.2.1 ⟨Int.le_refl _, Int.le_refl _⟩ (fun _ _ _ h1 h2 => .mi h1 (by rw [h2]; exact hx)))
theorem ck_cstL {v : Int} {x : Int64} (hx : x.toInt = v) (hk : ck_g Fc s0 p l e R s m args below meth c Q D cl tys M sc A ws0 sh0 (ck_cst S 1 v) pc') (row : ∀ (ws : va_W) (sh : List Nat) (H : Heap) (locs : List Loc) (ls : Array Slot) (vs : List Value), WG (tM M Fc sc.1) s0 p l e R s m args below meth c ws sh H locs (ck_oc R M + S.2.2.2.2.2.1) (ck_os R M + S.2.2.2.2.2.2) Q (pc', ls, (.long x :: vs)) → WG (tM M Fc sc.1) s0 p l e R s m args below meth c ws sh H locs (ck_oc R M + S.2.2.2.2.2.1) (ck_os R M + S.2.2.2.2.2.2) Q (pc, ls, vs)) : ck_g Fc s0 p l e R s m args below meth c Q D cl tys M sc A ws0 sh0 S pc :=
  fun n ws sh H locs ls vs o hw hx1 hP hD hS => row ws sh H locs ls vs (ck_push hk o hw hx1 hP hD hS o.2.2.1 ⟨Int.le_refl _, Int.le_refl _⟩ (fun _ _ _ h1 h2 => .ml h1 (by rw [h2]; exact hx)))
/-- loads -/
theorem ck_ld_ok {i : Nat} {ok : ck_V → Bool} {k : ck_S → Bool} (h : ck_ld S i ok k = true) (hk : ∀ S, k S = true → ck_g Fc s0 p l e R s m args below meth c Q D cl tys M sc A ws0 sh0 S pc') (row : ∀ (H : Heap) (locs : List Loc) (ls : Array Slot) (vs : List Value) (av : ck_V) (ws : va_W) (sh : List Nat) (n : ck_N) (N : Nat) (v : Value), ok av = true → ck_vo ws sh sc n N av v → ls[i]? = some (.val v) → WG (tM M Fc sc.1) s0 p l e R s m args below meth c ws sh H locs (ck_oc R M + S.2.2.2.2.2.1) (ck_os R M + S.2.2.2.2.2.2) Q (pc', ls, (v :: vs)) → WG (tM M Fc sc.1) s0 p l e R s m args below meth c ws sh H locs (ck_oc R M + S.2.2.2.2.2.1) (ck_os R M + S.2.2.2.2.2.2) Q (pc, ls, vs)) : ck_g Fc s0 p l e R s m args below meth c Q D cl tys M sc A ws0 sh0 S pc := by
  intro n ws sh H locs ls vs o hw hx hP hD hS
  unfold ck_ld at h
  split at h
  · rename_i av hav
    rw [Bool.and_eq_true] at h
    obtain ⟨v, h1, h2⟩ := ck_look_ok o.2.1 hav
    exact row H locs ls vs av ws sh n _ v h.1 h2 h1 (hk _ h.2 n ws sh H locs ls _ (o.ss ⟨h2, o.2.2.1⟩) hw hx hP hD hS)
  · cases h
/-- stores -/
theorem ck_sto_ok {i : Nat} {ok : ck_V → Bool} {k : ck_S → Bool} (h : ck_sto (mnL M) S i ok k = true) (hok : ∀ v, ok v = true → v.1 ≠ 1) (hk : ∀ S, k S = true → ck_g Fc s0 p l e R s m args below meth c Q D cl tys M sc A ws0 sh0 S pc')
    (row : ∀ (H : Heap) (locs : List Loc) (ls : Array Slot) (vs : List Value) (av : ck_V) (ws : va_W) (sh : List Nat) (n : ck_N) (N : Nat) (v : Value) (lv : List (Nat × Value)), ok av = true → ck_vo ws sh sc n N av v → lv_has ls (mnL M) lv → i < mnL M → (∀ ls' : Array Slot, lv_has ls' (mnL M) ((i, v) :: lv.filter (fun q => !(q.1 == i) && !(q.1 + 1 == i && q.2.category == 2))) → WG (tM M Fc sc.1) s0 p l e R s m args below meth c ws sh H locs (ck_oc R M + S.2.2.2.2.2.1) (ck_os R M + S.2.2.2.2.2.2) Q (pc', ls', vs)) → WG (tM M Fc sc.1) s0 p l e R s m args below meth c ws sh H locs (ck_oc R M + S.2.2.2.2.2.1) (ck_os R M + S.2.2.2.2.2.2) Q (pc, ls, (v :: vs))) : ck_g Fc s0 p l e R s m args below meth c Q D cl tys M sc A ws0 sh0 S pc := by
  intro n ws sh H locs ls vs o hw hx hP hD hS
  unfold ck_sto at h
  split at h
  · rename_i av st hst
    rw [Bool.and_eq_true, Bool.and_eq_true] at h
    have o3 := o.2.2.1
    rw [hst] at o3
    obtain ⟨v, vs', rfl, h2, h3⟩ := ck_hd o3
    obtain ⟨lv, l1, l2⟩ := o.2.1
    refine row H locs ls vs' av ws sh n _ v lv h.1 h2 l1 (of_decide_eq_true h.2.1) (fun ls' hls' => ?_)
    exact hk _ h.2.2 n ws sh H locs ls' _ ⟨o.1, ⟨_, hls', ⟨⟨rfl, h2⟩, l2.flt ck_flt1⟩⟩, h3, o.2.2.2⟩ hw hx hP hD hS
  · cases h
theorem ck_sto2_ok {i : Nat} {k : ck_S → Bool} (h : ck_sto2 (mnL M) S i k = true) (hk : ∀ S, k S = true → ck_g Fc s0 p l e R s m args below meth c Q D cl tys M sc A ws0 sh0 S pc')
    (row : ∀ (ws : va_W) (sh : List Nat) (H : Heap) (locs : List Loc) (ls : Array Slot) (vs : List Value) (v : Int64) (lv : List (Nat × Value)), lv_has ls (mnL M) lv → i + 1 < mnL M → (∀ ls' : Array Slot, lv_has ls' (mnL M) ((i, .long v) :: lv.filter (fun q => !(q.1 == i) && (!(q.1 == i + 1) && !(q.1 + 1 == i && q.2.category == 2)))) → WG (tM M Fc sc.1) s0 p l e R s m args below meth c ws sh H locs (ck_oc R M + S.2.2.2.2.2.1) (ck_os R M + S.2.2.2.2.2.2) Q (pc', ls', vs)) → WG (tM M Fc sc.1) s0 p l e R s m args below meth c ws sh H locs (ck_oc R M + S.2.2.2.2.2.1) (ck_os R M + S.2.2.2.2.2.2) Q (pc, ls, (.long v :: vs))) : ck_g Fc s0 p l e R s m args below meth c Q D cl tys M sc A ws0 sh0 S pc := by
  intro n ws sh H locs ls vs o hw hx hP hD hS
  unfold ck_sto2 at h
  split at h
  · rename_i av st hst
    rw [Bool.and_eq_true, Bool.and_eq_true] at h
    have o3 := o.2.2.1
    rw [hst] at o3
    obtain ⟨v, vs', rfl, h2, h3⟩ := ck_hd o3
    obtain ⟨-, x, rfl, -⟩ := h2.j (eq_of_beq h.1)
    obtain ⟨lv, l1, l2⟩ := o.2.1
    refine row ws sh H locs ls vs' x lv l1 (of_decide_eq_true h.2.1) (fun ls' hls' => ?_)
    exact hk _ h.2.2 n ws sh H locs ls' _ ⟨o.1, ⟨_, hls', ⟨⟨rfl, h2⟩, l2.flt ck_flt2⟩⟩, h3, o.2.2.2⟩ hw hx hP hD hS
  · cases h
/-- two numbers make one -/
theorem ck_b2i {op : Nat} {k : ck_S → Bool} (h : ck_b2 32 op 0 S k = true) (hk : ∀ S, k S = true → ck_g Fc s0 p l e R s m args below meth c Q D cl tys M sc A ws0 sh0 S pc')
    (row : ∀ (ws : va_W) (sh : List Nat) (H : Heap) (locs : List Loc) (ls : Array Slot) (vs : List Value) (x y : Int32), (∀ b st, S.2.1 = b :: st → ∀ iv, S.2.2.2.1[b.2.1]? = some iv → iv.1 ≤ iv.2 → ck_in iv y.toInt) → WG (tM M Fc sc.1) s0 p l e R s m args below meth c ws sh H locs (ck_oc R M + S.2.2.2.2.2.1) (ck_os R M + S.2.2.2.2.2.2) Q (pc', ls, (.int (ck_f32 op x y) :: vs)) → WG (tM M Fc sc.1) s0 p l e R s m args below meth c ws sh H locs (ck_oc R M + S.2.2.2.2.2.1) (ck_os R M + S.2.2.2.2.2.2) Q (pc, ls, (.int y :: .int x :: vs))) : ck_g Fc s0 p l e R s m args below meth c Q D cl tys M sc A ws0 sh0 S pc := by
  intro n ws sh H locs ls vs o hw hx hP hD hS
  unfold ck_b2 at h
  split at h
  · rename_i b a st hst
    rw [Bool.and_eq_true, Bool.and_eq_true] at h
    have o3 := o.2.2.1
    rw [hst] at o3
    obtain ⟨v, vs1, rfl, h2, h3⟩ := ck_hd o3
    obtain ⟨u, vs2, rfl, h4, h5⟩ := ck_hd h3
    obtain ⟨lb, y, rfl, ey⟩ := h2.i (eq_of_beq h.1)
    obtain ⟨la, x, rfl, ex⟩ := h4.i (eq_of_beq h.2.1)
    have h6 := h.2.2
    split at h6
    · rename_i S' hS'
      obtain ⟨n', o', ec, -⟩ := ck_binS_ok o h5 hS' la lb (v := .int (ck_f32 op x y)) (Z := (ck_f32 op x y).toInt) (fun ix iy h1 h2 => by
          rw [← ex] at h1
          rw [← ey] at h2
          refine ⟨ck_bin32 op h1 h2, fun e he => ?_, fun e he => ?_, fun e he => by
            subst e
            rw [← ex]
            exact ck_shl_eq h1 h2 he⟩
          · subst e
            rw [← ex, ← ey]
            exact ck_cl_eq (w := 32) (by decide) (r := (x + y).toBitVec) (z := x.toInt + y.toInt) (x := (ix.1 + iy.1, ix.2 + iy.2)) (Int32.toInt_add x y) ⟨Int.add_le_add h1.1 h2.1, Int.add_le_add h1.2 h2.2⟩ (ck_cl_in he)
          · subst e
            rw [← ex, ← ey]
            exact ck_cl_eq (w := 32) (by decide) (r := (x - y).toBitVec) (z := x.toInt - y.toInt) (x := (ix.1 - iy.2, ix.2 - iy.1)) (Int32.toInt_sub x y) ⟨Int.sub_le_sub h1.1 h2.2, Int.sub_le_sub h1.2 h2.1⟩ (ck_cl_in he))
        (fun e he => by
          subst e
          rw [← ey] at he ⊢
          exact (ck_and_r (a := x.toBitVec) (b := y.toBitVec) he).2)
        (fun e he he2 => by
          subst e
          rw [← ex] at he ⊢
          rw [← ey] at he2
          exact (ck_or_ok (a := x.toBitVec) (b := y.toBitVec) (x := (x.toInt, x.toInt)) (y := (y.toInt, y.toInt)) ⟨Int.le_refl _, Int.le_refl _⟩ ⟨Int.le_refl _, Int.le_refl _⟩ he he2).2)
        (fun m N k hk hz => .mi hk hz.symm)
      refine row ws sh H locs ls vs2 x y (fun b' st' e iv hiv hle => ?_) ?_
      · rw [hst] at e
        cases e
        have := o.2.2.2.2.1 _ iv hiv hle
        rw [← ey] at this
        exact this
      · have := hk S' h6 n' ws sh H locs ls _ o' hw hx hP hD hS
        rw [ec] at this
        exact this
    · cases h6
  · cases h
theorem ck_b2l {op : Nat} (hop : op < 6) {k : ck_S → Bool} (h : ck_b2 64 op 1 S k = true) (hk : ∀ S, k S = true → ck_g Fc s0 p l e R s m args below meth c Q D cl tys M sc A ws0 sh0 S pc')
    (row : ∀ (ws : va_W) (sh : List Nat) (H : Heap) (locs : List Loc) (ls : Array Slot) (vs : List Value) (x y : Int64), WG (tM M Fc sc.1) s0 p l e R s m args below meth c ws sh H locs (ck_oc R M + S.2.2.2.2.2.1) (ck_os R M + S.2.2.2.2.2.2) Q (pc', ls, (.long (ck_f64 op x y) :: vs)) → WG (tM M Fc sc.1) s0 p l e R s m args below meth c ws sh H locs (ck_oc R M + S.2.2.2.2.2.1) (ck_os R M + S.2.2.2.2.2.2) Q (pc, ls, (.long y :: .long x :: vs))) : ck_g Fc s0 p l e R s m args below meth c Q D cl tys M sc A ws0 sh0 S pc := by
  intro n ws sh H locs ls vs o hw hx hP hD hS
  unfold ck_b2 at h
  split at h
  · rename_i b a st hst
    rw [Bool.and_eq_true, Bool.and_eq_true] at h
    have o3 := o.2.2.1
    rw [hst] at o3
    obtain ⟨v, vs1, rfl, h2, h3⟩ := ck_hd o3
    obtain ⟨u, vs2, rfl, h4, h5⟩ := ck_hd h3
    obtain ⟨lb, y, rfl, ey⟩ := h2.j (eq_of_beq h.1)
    obtain ⟨la, x, rfl, ex⟩ := h4.j (eq_of_beq h.2.1)
    have h6 := h.2.2
    split at h6
    · rename_i S' hS'
      obtain ⟨n', o', ec, -⟩ := ck_binS_ok o h5 hS' la lb (v := .long (ck_f64 op x y)) (Z := (ck_f64 op x y).toInt) (fun ix iy h1 h2 => by
          rw [← ex] at h1
          rw [← ey] at h2
          refine ⟨ck_bin64 op hop h1 h2, fun e he => ?_, fun e he => ?_, fun e he => by omega⟩
          · subst e
            rw [← ex, ← ey]
            exact ck_cl_eq (w := 64) (by decide) (r := (x + y).toBitVec) (z := x.toInt + y.toInt) (x := (ix.1 + iy.1, ix.2 + iy.2)) (Int64.toInt_add x y) ⟨Int.add_le_add h1.1 h2.1, Int.add_le_add h1.2 h2.2⟩ (ck_cl_in he)
          · subst e
            rw [← ex, ← ey]
            exact ck_cl_eq (w := 64) (by decide) (r := (x - y).toBitVec) (z := x.toInt - y.toInt) (x := (ix.1 - iy.2, ix.2 - iy.1)) (Int64.toInt_sub x y) ⟨Int.sub_le_sub h1.1 h2.2, Int.sub_le_sub h1.2 h2.1⟩ (ck_cl_in he))
        (fun e he => by
          subst e
          rw [← ey] at he ⊢
          exact (ck_and_r (a := x.toBitVec) (b := y.toBitVec) he).2)
        (fun e he he2 => by
          subst e
          rw [← ex] at he ⊢
          rw [← ey] at he2
          exact (ck_or_ok (a := x.toBitVec) (b := y.toBitVec) (x := (x.toInt, x.toInt)) (y := (y.toInt, y.toInt)) ⟨Int.le_refl _, Int.le_refl _⟩ ⟨Int.le_refl _, Int.le_refl _⟩ he he2).2)
        (fun m N k hk hz => .ml hk hz.symm)
      have := hk S' h6 n' ws sh H locs ls _ o' hw hx hP hD hS
      rw [ec] at this
      exact row ws sh H locs ls vs2 x y this
    · cases h6
  · cases h
end
end
