noncomputable section
/-! the makers: the run, contracts, calls -/
def mk_hm (s : State) (args : Array Value) (own : String) (tys : List (ClassId × FieldType)) (y : Nat × Nat) : Prop := (∃ cA, tys[y.2]? = some (cA, .array .int)) ∧ (Cond.classLink own y.1 "[[I").before args s = true
def mk_fx (s : State) (args : Array Value) (own : String) (V : ck_Wd) (tys : List (ClassId × FieldType)) (T : mk_T) (meth : Method) : Prop :=
  (∀ y ∈ mfl0 T, ck_hg s args own V.1 y) ∧ (∀ y ∈ mpl0 T, ck_hp s args own V.1 (meth.name = "<init>") y) ∧ (∀ y ∈ mnw0 T, mk_hn s args own V.1 y) ∧ (∀ y ∈ man0 T, mk_ha s args own tys y) ∧ (∀ y ∈ mmn0 T, mk_hm s args own tys y) ∧ (∀ y ∈ mkl0 T, ck_hk s args own y) ∧ (∀ y ∈ mal0 T, mk_hs tys V.1 y)
section
variable {p : Program} {l : Launch} {e : Env} {R : Room} {s : State} {m : MethodId} {args : Array Value} {below : List Frame} {meth : Method} {c : Code} {Q : State → Prop} {cc : ByteArray} {own : String} {D : va_G} {V : ck_Wd} {tys : List (ClassId × FieldType)} {T : mk_T} {A : Nat → Prop} {ws0 : va_W} {S : mk_S} {x : mk_S × Nat} {pc pc' : Nat}
theorem mk_mnr_ok (X : mk_cx p e R s m args meth c cc own D V tys T A) (B : mk_bs V) (hmn : ∀ y ∈ mmn0 T, mk_hm s args own tys y) {idx : Nat} (h : mk_mnr T S (pc + 4) idx = some x) (hk : mk_g p l e R s m args below meth c Q D V.1 tys (mnL0 T) A ws0 x.1 x.2) (hdg : decode cc pc = .ok (.multianewarray idx 2, 4)) : mk_g p l e R s m args below meth c Q D V.1 tys (mnL0 T) A ws0 S pc := by
  obtain ⟨x1, x2, x3, x4, x5, x6, x7, x8, x9, x10, x11, x12⟩ := X
  unfold mk_mnr at h
  split at h
  · rename_i k n st y hst hy
    split at h
    · rename_i hc
      obtain ⟨c1, c2, c3, c4, c5, c6⟩ := hc
      unfold mk_al at h
      split at h
      · rename_i hc4
        cases h
        obtain ⟨⟨c5', g1⟩, g2⟩ := hmn y (List.mem_of_find?_eq_some hy)
        rw [mk_fe hy] at g2
        obtain ⟨c0', g0⟩ := mk_tyk x10 B.2.1
        intro ws H locs ls vs o hle hP hD hS
        obtain ⟨⟨lv, l1, l2⟩, o2, o3⟩ := o
        rw [hst] at o2
        cases vs with
        | nil => exact o2.elim
        | cons v1 vs =>
          cases vs with
          | nil => exact o2.2.elim
          | cons v2 vs =>
            obtain ⟨w1, rfl, e1⟩ := o2.1.i c1
            obtain ⟨w2, rfl, e2⟩ := o2.2.1.i c2
            have hneg : ∀ (w : Int32) (z : Int), w.toInt = z → 0 ≤ z → ¬ w < 0 := fun w z ew h0 q => by
              have := Int32.lt_iff_toInt_lt.mp q
              rw [Int32.toInt_zero] at this
              omega
            refine mz_row x1 x2 x3 g2 x12.2.2.2.2 (x9 _ B.1.1) x4 hP hD hS x5 g1 g0 (N := n.2.1.toNat) (K := k.2.1.toNat) (hneg _ _ e2 c4) (hneg _ _ e1 c3) (by show w2.toInt.toNat = _; rw [e2]) (by show w1.toInt.toNat = _; rw [e1]) (by omega) (by omega) (Nat.le_trans hc4.1 x7.1) (Nat.le_trans hc4.2 x7.2) hdg (fun q H1 locs1 hP1 hD1 hS1 => ?_)
            have hle2 : mk_le ws (ws ++ (q, .inl (c5', n.2.1.toNat, .inr (.inr (.inr (.inr (mz_f q n.2.1.toNat)))))) :: (List.range n.2.1.toNat).map (fun i => (q + 1 + i, .inl (c0', k.2.1.toNat, .inl (fun _ => 0))))) := mk_le.app
            have hl0 := o3.1
            have hq : (ws ++ (q, .inl (c5', n.2.1.toNat, .inr (.inr (.inr (.inr (mz_f q n.2.1.toNat)))))) :: (List.range n.2.1.toNat).map (fun i => (q + 1 + i, .inl (c0', k.2.1.toNat, .inl (fun _ => 0)))) : va_W)[S.2.2.1.length]? = some (q, .inl (c5', n.2.1.toNat, .inr (.inr (.inr (.inr (mz_f q n.2.1.toNat)))))) := by
              rw [← hl0, List.getElem?_append_right (Nat.le_refl _), Nat.sub_self]
              rfl
            have hqi : ∀ i, i < n.2.1.toNat → (ws ++ (q, .inl (c5', n.2.1.toNat, .inr (.inr (.inr (.inr (mz_f q n.2.1.toNat)))))) :: (List.range n.2.1.toNat).map (fun i => (q + 1 + i, .inl (c0', k.2.1.toNat, .inl (fun _ => 0)))) : va_W)[S.2.2.1.length + 1 + i]? = some (q + 1 + i, .inl (c0', k.2.1.toNat, .inl (fun _ => 0))) := fun i hi => by
              rw [← hl0, List.getElem?_append_right (by omega), show ws.length + 1 + i - ws.length = i + 1 by omega, List.getElem?_cons_succ]
              simp [hi]
            refine hk _ H1 locs1 ls _ ⟨⟨lv, l1, l2.imp fun _ _ z => ⟨z.1, z.2.mv hle2⟩⟩, ⟨⟨q, _, hq, rfl⟩, o2.2.2.imp fun _ _ z => z.mv hle2⟩, ?_⟩ (hle.tr hle2) hP1 hD1 hS1
            refine ⟨by simp [hl0], fun i b u d hi hd => ?_⟩
            dsimp only at hd
            rcases Nat.lt_trichotomy i ws.length with hlt | heq | hgt
            · rw [List.getElem?_append_left hlt] at hi
              rw [List.getElem?_append_left (by rw [← hl0]; exact hlt)] at hd
              exact (o3.2 i b u d hi hd).mv hle2
            · rw [heq, hl0, hq] at hi
              rw [heq, hl0, List.getElem?_append_right (Nat.le_refl _), Nat.sub_self, List.getElem?_cons_zero] at hd
              cases hi
              cases hd
              refine ⟨c5', _, g1, rfl, fun j hj => ?_⟩
              have hj' : j < n.2.1.toNat := hj
              have e5 : mk_at (5, y.2, n.2.1.toNat, (List.range n.2.1.toNat).map (fun i => ((2, 0, S.2.2.1.length + 1 + i) : mk_V))) j = (2, 0, S.2.2.1.length + 1 + j) := by
                unfold mk_at
                rw [List.getD_eq_getElem?_getD]
                simp [hj']
              rw [e5]
              refine ⟨_, _, hqi j hj', ?_⟩
              unfold mz_f
              rw [if_pos hj']
              rfl
            · obtain ⟨t, rfl⟩ : ∃ t, i = ws.length + 1 + t := ⟨i - (ws.length + 1), by omega⟩
              have ht : t < n.2.1.toNat := by
                have := (List.getElem?_eq_some_iff.mp hi).1
                simp at this
                omega
              rw [hl0, hqi t ht] at hi
              rw [hl0, List.getElem?_append_right (by omega), show S.2.2.1.length + 1 + t - S.2.2.1.length = t + 1 by omega, List.getElem?_cons_succ, List.getElem?_replicate, if_pos ht] at hd
              cases hi
              cases hd
              exact ⟨c0', _, g0, rfl, fun j => mk_vo.int rfl⟩
      · cases h
    · cases h
  · cases h
theorem mk_st_ok (X : mk_cx p e R s m args meth c cc own D V tys T A) (B : mk_bs V) (F : mk_fx s args own V tys T meth) (hcl : ∀ y ∈ mcl0 T, mk_cs p l e R s m args below meth c Q cc D V.1 tys T A y) {i : Instr} {n : Nat} (h : mk_st T S pc i n = some x) (hk : mk_g p l e R s m args below meth c Q D V.1 tys (mnL0 T) A ws0 x.1 x.2) (hdg : decode cc pc = .ok (i, n)) : mk_g p l e R s m args below meth c Q D V.1 tys (mnL0 T) A ws0 S pc := by
  have in32 : ∀ z : Int, mk_in32 z = true → -2147483648 ≤ z ∧ z ≤ 2147483647 := fun z hz => of_decide_eq_true hz
  have isi : ∀ v : mk_V, mk_isi v = true → v.1 = 1 := fun v hv => eq_of_beq hv
  have isr : ∀ v : mk_V, mk_isr v = true → v.1 ≠ 1 := fun v hv => by
    unfold mk_isr at hv
    rw [Bool.not_eq_true', beq_eq_false_iff_ne] at hv
    exact hv
  unfold mk_st at h
  split at h
  · split at h
    · rename_i hl; subst hl
      exact mk_cst_ok (w := Int32.ofInt _) h (fun q => Int32.toInt_ofInt_of_le (in32 _ q).1 (Int.lt_of_le_of_lt (in32 _ q).2 (by decide))) hk (fun H locs ls vs hW => lv_iconst X.1 X.2.1 hdg rfl hW)
    · cases h
  · split at h
    · rename_i hl; subst hl
      exact mk_cst_ok (w := (Int8.ofInt _).toInt32) h (fun q => by
        rw [decide_eq_true_eq] at q
        rw [Int8.toInt_toInt32]; exact Int8.toInt_ofInt_of_le q.1 (Int.lt_of_le_of_lt q.2 (by decide))) hk (fun H locs ls vs hW => lv_bipush X.1 X.2.1 hdg rfl hW)
    · cases h
  · split at h
    · rename_i hl; subst hl
      exact mk_cst_ok (w := (Int16.ofInt _).toInt32) h (fun q => by
        rw [decide_eq_true_eq] at q
        rw [Int16.toInt_toInt32]; exact Int16.toInt_ofInt_of_le q.1 (Int.lt_of_le_of_lt q.2 (by decide))) hk (fun H locs ls vs hW => lv_sipush X.1 X.2.1 hdg rfl hW)
    · cases h
  · split at h
    · rename_i hl; subst hl
      split at h
      · rename_i y hy
        have hp := List.find?_some hy
        rw [Bool.and_eq_true, beq_iff_eq, beq_iff_eq] at hp
        obtain ⟨v, v1, v2⟩ := (F.2.2.2.2.2.1 y (List.mem_of_find?_eq_some hy)).1 hp.2
        rw [hp.1] at v2
        exact mk_cst_ok (w := v) h (fun _ => v1) hk (fun H locs ls vs hW => lv_ldc X.1 X.2.1 X.2.2.1 v2 hdg hW)
      · cases h
    · cases h
  · split at h
    · rename_i hl; subst hl
      exact mk_ld_ok h hk (fun H locs ls vs v av ws hok hv hl hW => by
        obtain ⟨w, rfl, -⟩ := hv.i (isi _ hok)
        exact lv_iload_n X.1 X.2.1 hdg rfl hl hW)
    · cases h
  · split at h
    · rename_i hl; subst hl
      exact mk_ld_ok h hk (fun H locs ls vs v av ws hok hv hl hW => by
        obtain ⟨w, rfl, -⟩ := hv.i (isi _ hok)
        exact lv_iload X.1 X.2.1 hdg hl hW)
    · cases h
  · split at h
    · rename_i hl; subst hl
      exact mk_ld_ok h hk (fun H locs ls vs v av ws hok hv hl hW => by
        rcases hv.ni (isr _ hok) with rfl | ⟨a, rfl⟩
        · exact lv_aload_nN X.1 X.2.1 hdg rfl hl hW
        · exact lv_aload_n X.1 X.2.1 hdg rfl hl hW)
    · cases h
  · split at h
    · rename_i hl; subst hl
      exact mk_sto_ok h hk (fun H locs ls vs v av ws lv hok hv hl hi kk => by
        obtain ⟨w, rfl, -⟩ := hv.i (isi _ hok)
        exact lv_istore_n X.1 X.2.1 hdg rfl hl hi rfl kk)
    · cases h
  · split at h
    · rename_i hl; subst hl
      exact mk_sto_ok h hk (fun H locs ls vs v av ws lv hok hv hl hi kk => by
        obtain ⟨w, rfl, -⟩ := hv.i (isi _ hok)
        exact lv_istore X.1 X.2.1 hdg hl hi rfl kk)
    · cases h
  · split at h
    · rename_i hl; subst hl
      exact mk_sto_ok h hk (fun H locs ls vs v av ws lv hok hv hl hi kk => by
        rcases hv.ni (isr _ hok) with rfl | ⟨a, rfl⟩
        · exact lv_astore_nN X.1 X.2.1 hdg rfl hl hi rfl kk
        · exact lv_astore_n X.1 X.2.1 hdg rfl hl hi rfl kk)
    · cases h
  · split at h
    · rename_i hl; subst hl
      exact mk_inc_ok X h hk hdg
    · cases h
  · split at h
    · rename_i hl; subst hl
      exact mk_goto_ok X h hk hdg
    · cases h
  · split at h
    · rename_i hl; subst hl
      exact mk_icmp_ok X h hk hdg
    · cases h
  · split at h
    · rename_i hl; subst hl
      exact mk_shr_ok X h hk hdg
    · cases h
  · split at h
    · rename_i hl; subst hl
      exact mk_alen_ok X h hk hdg
    · cases h
  · split at h
    · rename_i hl; subst hl
      exact mk_dup_ok X h hk hdg
    · cases h
  · split at h
    · rename_i hl; subst hl
      exact mk_nar_ok X B h hk hdg
    · cases h
  · split at h
    · rename_i hl; subst hl
      exact mk_anr_ok X F.2.2.2.1 h hk hdg
    · cases h
  · split at h
    · rename_i hl
      obtain ⟨rfl, rfl⟩ := hl
      exact mk_mnr_ok X B F.2.2.2.2.1 h hk hdg
    · cases h
  · split at h
    · rename_i hl; subst hl
      exact mk_new_ok X F.2.2.1 h hk hdg
    · cases h
  · split at h
    · rename_i hl; subst hl
      exact mk_get_ok X F.1 h hk hdg
    · cases h
  · split at h
    · rename_i hl; subst hl
      exact mk_put_ok X F.2.1 h hk hdg
    · cases h
  · split at h
    · rename_i hl; subst hl
      exact mk_iast_ok X h hk hdg
    · cases h
  · split at h
    · rename_i hl; subst hl
      exact mk_aast_ok X F.2.2.2.2.2.2 h hk hdg
    · cases h
  · split at h
    · rename_i hl; subst hl
      exact mk_call_ok hcl X h hk (by rw [ck_ik1]; exact hdg)
    · cases h
  · split at h
    · rename_i hl; subst hl
      exact mk_call_ok hcl X h hk (by rw [ck_ik2]; exact hdg)
    · cases h
  · cases h
theorem mk_run_ok (X : mk_cx p e R s m args meth c cc own D V tys T A) (B : mk_bs V) (F : mk_fx s args own V tys T meth) (hcl : ∀ y ∈ mcl0 T, mk_cs p l e R s m args below meth c Q cc D V.1 tys T A y) {code : ck_cd} (hcode : ∀ y ∈ code, decode cc y.1 = .ok (y.2.1, y.2.2)) {rt : Nat} {r : List mk_V × mk_W}
    (hend : ∀ (S : mk_S) (pc : Nat) (i : Instr) (n : Nat), mk_ret T rt i n S = some r → decode cc pc = .ok (i, n) → mk_g p l e R s m args below meth c Q D V.1 tys (mnL0 T) A ws0 S pc) :
    ∀ (f : Nat) (S : mk_S) (pc : Nat), mk_run T rt code f S pc = some r → mk_g p l e R s m args below meth c Q D V.1 tys (mnL0 T) A ws0 S pc
  | 0, _, _, h => by cases h
  | f + 1, S, pc, h => by
    rw [mk_run] at h
    split at h
    · cases h
    · rename_i y hy
      have hd := hcode y (List.mem_of_find?_eq_some hy)
      rw [mk_fe hy] at hd
      split at h
      · rename_i r' hr'
        cases h
        exact hend S pc _ _ hr' hd
      · split at h
        · rename_i z hz
          exact mk_st_ok X B F hcl hz (mk_run_ok X B F hcl hcode hend f z.1 z.2 h) hd
        · cases h
end
def mk_sta (V : ck_Wd) (D : va_G) (tys : List (ClassId × FieldType)) (ws : va_W) (sz : Nat) (U : State) : Prop := ck_st V D tys ws sz none U ∧ mk_ao U
def mk_qp (V : ck_Wd) (D : va_G) (tys : List (ClassId × FieldType)) (ws : va_W) (sz : Nat) (r : List mk_V × mk_W) : Array Value → State → Outcome → State → Prop := fun _ st oc t =>
  (∃ (rv : Option Value) (ws' : va_W), oc = .returned rv ∧ mk_wo tys ws' r.2 ∧ mk_le ws ws' ∧ va_P D V.1 ws' t.heap ∧ va_D (va_A ws sz) ws' ∧ ck_two (mk_vo ws') r.1 rv.toList) ∧ va_F (va_A ws sz) st t
def mk_met (V : ck_Wd) (l : Launch) (y : MethodName) (cc : ByteArray) (nL : Nat) (ret : Option FieldType) (rm : Room) (f : mk_F) : Prop :=
  ∀ (D : va_G) (tys : List (ClassId × FieldType)) (ws : va_W) (sz : Nat) (As : List Value) (W : mk_W) (xs : List mk_V) (r : List mk_V × mk_W), tys.map Prod.snd = V.2.2.2.1 → mk_wo tys ws W → ck_two (mk_vo ws) xs As → f W xs = some r →
    Met l y (.code y cc nL ret :: V.2.2.2.2.1) rm (va_Pc As (mk_sta V D tys ws sz)) (mk_qp V D tys ws sz r) rm.cells rm.slots (va_A ws sz)
theorem mk_sta_blind {V : ck_Wd} {D : va_G} {tys : List (ClassId × FieldType)} {ws : va_W} {sz : Nat} {As : List Value} : FrameBlind (va_Pc As (mk_sta V D tys ws sz)) := by
  intro a U g mk h
  obtain ⟨h1, h2⟩ := ck_st_blind (sw := none) (As := As) a U g mk ⟨h.1, h.2.1⟩
  exact ⟨h1, h2, h.2.2.moved (Vm.Alike.refl U.vm)⟩
theorem mk_sl {ws : va_W} : ∀ {xs : List mk_V} {As : List Value}, ck_two (mk_vo ws) xs As → (lg_sl As).length = xs.length
  | [], [], _ => rfl
  | _ :: xs, a :: As, h => by
    have hc := h.1.cat
    have ih := mk_sl h.2
    have key : (lg_sl (a :: As)).length = 1 + (lg_sl As).length := by simp [lg_sl, hc]; omega
    rw [key, ih, List.length_cons]
    omega
  | [], _ :: _, h => h.elim
  | _ :: _, [], h => h.elim
theorem mk_two_args {ws : va_W} : ∀ {xs : List mk_V} {As : List Value} (i : Nat), ck_two (mk_vo ws) xs As → ck_two (fun (x : Nat × mk_V) (y : Nat × Value) => x.1 = y.1 ∧ mk_vo ws x.2 y.2) (mk_ar i xs) (lv_args i As)
  | [], [], _, _ => trivial
  | v :: vs, x :: xs, i, h => by
    have e : (if x.category = 2 then i + 2 else i + 1) = i + 1 := by rw [h.1.cat, if_neg (by decide)]
    refine ⟨⟨rfl, h.1⟩, ?_⟩
    show ck_two _ (mk_ar (i + 1) vs) (lv_args (if x.category = 2 then i + 2 else i + 1) xs)
    rw [e]
    exact mk_two_args _ h.2
  | [], _ :: _, _, h => h.elim
  | _ :: _, [], _, h => h.elim
def mk_tb (V : ck_Wd) (own : String) (init : Bool) (T : mk_T) : Prop := ∀ (s : State) (args : Array Value) (tys : List (ClassId × FieldType)) (meth : Method), (∀ w ∈ V.2.2.2.2.1, w.before args s = true) → tys.map Prod.snd = V.2.2.2.1 → ck_nq V s → mk_ao s → (init = true → meth.name = "<init>") → mk_fx s args own V tys T meth
def mk_ca (V : ck_Wd) (own : String) (cc : ByteArray) (rm : Room) (T : mk_T) : Prop := ∀ (p : Program) (l : Launch) (e : Env) (s : State) (m : MethodId) (args : Array Value) (below : List Frame) (meth : Method) (c : Code) (Q : State → Prop) (D : va_G) (tys : List (ClassId × FieldType)) (A : Nat → Prop),
  mk_cx p e rm s m args meth c cc own D V tys T A → ∀ y ∈ mcl0 T, mk_cs p l e rm s m args below meth c Q cc D V.1 tys T A y
theorem mk_meth {V : ck_Wd} {l : Launch} {y : MethodName} {own : String} {cc : ByteArray} {nL : Nat} {ret : Option FieldType} {rm : Room} {T : mk_T} {code : ck_cd} {rt f : Nat} (init : Bool) (hy : plainFor y = true) (ho : y.cls = own) (hinit : init = true → y.name = "<init>") (hT : mnL0 T = nL ∧ mRC0 T = rm.cells ∧ mRS0 T = rm.slots) (hrt : ck_rt rt ret)
    (hcode : ∀ x ∈ code, decode cc x.1 = .ok (x.2.1, x.2.2)) (B : mk_bs V) (htb : mk_tb V own init T) (hcl : mk_ca V own cc rm T) : mk_met V l y cc nL ret rm (mk_fn T rt code f) := by
  intro D tys ws sz As W0 xs r htl hwo hxs hf
  refine ck_ofW (cc := cc) (maxL := nL) (ret := ret) hy rfl ?_
  intro p e s m args below meth c s₁ Bd hml hv
  obtain ⟨rfl, ⟨hsz, hP, hK, hD0, hnc, -⟩, hao⟩ := hv
  have hx := Bd.exec
  have hb := Bd.bytes
  have hr := Bd.returns
  have hts0 := atoms_spec (ws := .code y cc nL ret :: V.2.2.2.2.1) Bd.pre
  have hts : ∀ w ∈ V.2.2.2.2.1, w.before As.toArray s = true := fun w hw => hts0 w (List.mem_cons_of_mem _ hw)
  have hown : s.vm.findClass own = some m.cls := by rw [← ho]; exact findClass_of_methodNamed Bd.named
  have hlocks := Bd.notSynchronized
  have hmn : meth.name = y.name := (name_of_methodNamed Bd.named Bd.method).1
  subst hsz
  have hD := hD0.self (sz := s.heap.size)
  have hA : ∀ q : Nat, s.heap.size ≤ q → va_A ws s.heap.size q := fun q h => Or.inr h
  have hS : va_S (va_A ws s.heap.size) s.heap s.heap [] := va_S.rf
  unfold mk_fn at hf
  split at hf
  · rename_i hlen
    have X : mk_cx p e rm s m As.toArray meth c cc own D V tys T (va_A ws s.heap.size) := ⟨hx, hb, hown, hK, hA, by rw [hT.1]; exact hml, by rw [hT.2.1, hT.2.2]; exact ⟨Nat.le_refl _, Nat.le_refl _⟩, hlocks, hts, htl, hnc, hao⟩
    have F := htb s As.toArray tys meth hts htl hnc hao (fun z => by rw [hmn]; exact hinit z)
    have hl := lv_entry As (n := nL) (by rw [mk_sl hxs, ← hT.1]; exact hlen)
    rw [lg_entry_eq]
    generalize (lg_sl As ++ List.replicate (nL - (lg_sl As).length) Slot.unset).toArray = ls at hl ⊢
    refine mk_run_ok (l := l) (below := below) (Q := MQ below (mk_qp V D tys ws s.heap.size r) As.toArray s rm.cells rm.slots (va_A ws s.heap.size)) X B F (hcl p l e s m As.toArray below meth c _ D tys _ X) hcode (ws0 := ws) (fun S pc i n hret hdg => ?_) f _ 0 hf ws s.heap [] ls [] ⟨⟨_, by rw [hT.1]; exact hl, mk_two_args 0 hxs⟩, trivial, hwo⟩ mk_le.rf hP hD hS
    unfold mk_ret at hret
    split at hret
    · rename_i hroom
      rw [hT.2.1, hT.2.2] at hroom
      intro ws' H locs ls vs o hle hP' hD' hS'
      obtain ⟨o1, o2, o3⟩ := o
      refine W.widen hroom.1 hroom.2 ?_
      have fin : ∀ (rv : Option Value) (t : State), rv.toList = vs → r = (S.2.1, S.2.2.1) → t.heap = H → mk_qp V D tys ws s.heap.size r As.toArray s (.returned rv) t := fun rv t hrv hr' ht => by
        subst hr'
        exact ⟨⟨rv, ws', rfl, o3, hle, by rw [ht]; exact hP', hD', by rw [hrv]; exact o2⟩, hS'.F ht⟩
      split at hret
      · split at hret
        · rename_i hc
          obtain ⟨c1, c2, c3⟩ := hc
          cases hret
          subst c2
          rw [c3] at o2
          cases vs with
          | cons _ _ => exact o2.elim
          | nil =>
            have hrt0 : ret = none := by rw [c1] at hrt; exact hrt
            exact W.vret hx hb (by rw [hr, hrt0]) (fun t ht hW => fin none t rfl (by rw [c3]) ht) hS'.2.2 hdg hlocks
        · cases hret
      · split at hret
        · rename_i hc
          obtain ⟨c1, c2, c3, c4⟩ := hc
          cases hret
          subst c2
          have hrt0 : ret = some .int := by rw [c1] at hrt; exact hrt
          have o2' := o2
          obtain ⟨v, hst⟩ := List.length_eq_one_iff.mp c3
          rw [hst] at o2' c4
          cases vs with
          | nil => exact o2'.elim
          | cons u vs =>
            cases vs with
            | cons _ _ => exact o2'.2.elim
            | nil =>
              have hv1 : v.1 = 1 := by
                have : mk_isi v = true := by simpa using c4
                exact eq_of_beq this
              obtain ⟨w, rfl, -⟩ := o2'.1.i hv1
              exact W.iret hx hb (by rw [hr, hrt0]) (fun t ht hW => fin (some (.int w)) t rfl rfl ht) hS'.2.2 hdg hlocks
        · cases hret
      · split at hret
        · rename_i hc
          obtain ⟨c1, c2, c3, c4⟩ := hc
          cases hret
          subst c2
          obtain ⟨t0, hrt0, ht0⟩ : ∃ t, ret = some t ∧ ((∃ n, t = .object n) ∨ ∃ u, t = .array u) := by rw [c1] at hrt; exact hrt
          have o2' := o2
          obtain ⟨v, hst⟩ := List.length_eq_one_iff.mp c3
          rw [hst] at o2' c4
          cases vs with
          | nil => exact o2'.elim
          | cons u vs =>
            cases vs with
            | cons _ _ => exact o2'.2.elim
            | nil =>
              have hv1 : v.1 ≠ 1 := by
                have : mk_isr v = true := by simpa using c4
                unfold mk_isr at this
                rw [Bool.not_eq_true', beq_eq_false_iff_ne] at this
                exact this
              exact W.aret hx hb (by rw [hr, hrt0]) ht0 (o2'.1.ni hv1) (fun t ht hW => fin (some u) t rfl rfl ht) hS'.2.2 hdg hlocks
        · cases hret
      · cases hret
    · cases hret
  · cases hf
end
