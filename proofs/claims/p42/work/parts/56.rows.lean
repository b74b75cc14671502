noncomputable section
def ck_eT (kd : Nat) (td : ck_D) (T : ck_T) : Prop := if kd = 2 then T = (1, 0, 0, []) else if kd = 4 then T = (0, 0, 1, []) else td.2.2.2[0]? = some T
section
variable {p : Program} {l : Launch} {e : Env} {R : Room} {s : State} {m : MethodId} {args : Array Value} {below : List Frame} {meth : Method} {c : Code} {Q : State → Prop} {cc : ByteArray} {own : String} {D : va_G} {cl : List vw_C} {tys : List (ClassId × FieldType)} {M : ck_Me} {sc : ck_sc} {A : Nat → Prop} {ws0 : va_W} {sh0 : List Nat} {Fc : Nat → Nat × fR} {s0 : fS} {k : ck_S → Bool} {S : ck_S} {pc pc' : Nat}
theorem ck_el_ok {kd i t : Nat} {T : ck_T} (h : ck_el M S kd i t = some T) : ∃ td, (mTT M)[t]? = some td ∧ td.1 = kd ∧ ck_bd M S i td.2.1 = true ∧ ck_eT kd td T := by
  unfold ck_el at h
  split at h
  · rename_i td htd
    split at h
    · rename_i h0
      refine ⟨td, htd, h0.1, h0.2, ?_⟩
      unfold ck_eT
      split at h
      · rename_i z
        rw [if_pos z]
        exact (Option.some.inj h).symm
      · rename_i z
        rw [if_neg z]
        split at h
        · rename_i z
          rw [if_pos z]
          exact (Option.some.inj h).symm
        · rename_i z
          rw [if_neg z]
          exact h
    · cases h
  · cases h
theorem ck_bd_ok {nL : Nat} {SG : List Nat} {n : ck_N} {ws : va_W} {sh : List Nat} {ls : Array Slot} {vs : List Value} (o : ck_so nL SG S n ws sh sc ls vs) {i N : Nat} (h : ck_bd M S i N = true) {x : Int32} (hx : x.toInt = (n i).1) : vp_in x N ∧ x.toNatClampNeg < N := by
  unfold ck_bd at h
  rw [Bool.and_eq_true] at h
  have p1 := ck_ent_ok o.2.2.2.2.1 o.2.2.2.2.2 _ _ _ _ h.1
  have p2 := ck_ent_ok o.2.2.2.2.1 o.2.2.2.2.2 _ _ _ _ h.2
  rw [o.1.2] at p1 p2
  have hn : x.toNatClampNeg = x.toInt.toNat := rfl
  have h0 : ¬ x < 0 := fun z => by
    have := Int32.lt_iff_toInt_lt.mp z
    rw [Int32.toInt_zero] at this
    omega
  have h1 : x.toNatClampNeg < N := by rw [hn]; omega
  exact ⟨fun z => z.elim h0 (fun z => by omega), h1⟩
theorem ck_nsc (X : ck_cx p l e R s m args below meth c cc own D cl tys M sc A) {ws : va_W} {q a : Nat} {e' : va_E} (hD : va_D A ws) (hq : ws[q]? = some (a, e')) : f_nsc (tM M Fc sc.1) a :=
  fun L xs h => (X.2.2.2.2.2.2.2.2.1 a L xs h).2.2.1 (hD.2 q _ hq)
theorem ck_in_lt {x : Int32} {N : Nat} (h : vp_in x N) : x.toNatClampNeg < N := Nat.not_le.mp (fun z => h (Or.inr z))
theorem ck_ald_ok (X : ck_cx p l e R s m args below meth c cc own D cl tys M sc A) {kd : Nat} (h : ck_ald M kd S k = true) (hk : ∀ S, k S = true → ck_g Fc s0 p l e R s m args below meth c Q D cl tys M sc A ws0 sh0 S (pc + 1))
    (row : ∀ (H : Heap) (locs : List Loc) (ls : Array Slot) (vs : List Value) (ws : va_W) (sh : List Nat) (q a : Nat) (eo : va_E) (td : ck_D) (x : Int32) (T : ck_T), va_P D cl ws H → f_nsc (tM M Fc sc.1) a → ws[q]? = some (a, eo) → td.1 = kd → ck_co tys ws sh td eo → vp_in x td.2.1 → x.toNatClampNeg < td.2.1 →
      ck_eT kd td T → (∀ v, ck_fo ws sh T v → WG (tM M Fc sc.1) s0 p l e R s m args below meth c ws sh H locs (ck_oc R M + S.2.2.2.2.2.1) (ck_os R M + S.2.2.2.2.2.2) Q ((pc + 1), ls, (v :: vs))) → WG (tM M Fc sc.1) s0 p l e R s m args below meth c ws sh H locs (ck_oc R M + S.2.2.2.2.2.1) (ck_os R M + S.2.2.2.2.2.2) Q (pc, ls, (.int x :: .ref a :: vs))) : ck_g Fc s0 p l e R s m args below meth c Q D cl tys M sc A ws0 sh0 S pc := by
  intro n ws sh H locs ls vs o hw hx hP hD hS
  unfold ck_ald at h
  split at h
  · rename_i i r st hst
    have o3 := o.2.2.1
    rw [hst] at o3
    obtain ⟨v, vs1, rfl, h2, h3⟩ := ck_hd o3
    obtain ⟨ra, vs2, rfl, h4, h5⟩ := ck_hd h3
    rw [Bool.and_eq_true, Bool.and_eq_true] at h
    obtain ⟨hi, hr2, h6⟩ := h
    obtain ⟨-, x, rfl, ex⟩ := h2.i (eq_of_beq hi)
    obtain ⟨-, -, q, a, e, t, rfl, hq, ht, htm⟩ := h4.r (eq_of_beq hr2)
    split at h6
    · rename_i T hT
      obtain ⟨y, hy, hyT⟩ := ck_jts_ok (ws := ws) (sh := sh) hT t htm
      obtain ⟨td, f1, f2, f3, f4⟩ := ck_el_ok hy
      obtain ⟨td', g1, g2⟩ := hw.2.1 q a e t hq ht
      have e1 : td' = td := Option.some.inj (g1.symm.trans f1)
      subst e1
      obtain ⟨b1, b2⟩ := ck_bd_ok o f3 ex
      refine row H locs ls vs2 ws sh q a e td' x y hP (ck_nsc X hD hq) hq f2 g2 b1 b2 f4 (fun v hv => ?_)
      split at h6
      · rename_i S' hS'
        obtain ⟨n', o', ec⟩ := ck_pt_ok hS' o h5 (hyT v hv)
        exact (hk _ h6).at o' hw hx hP hD hS ec
      · cases h6
    · cases h6
  · cases h
theorem ck_iald_ok (X : ck_cx p l e R s m args below meth c cc own D cl tys M sc A) (h : ck_ald M 1 S k = true) (hk : ∀ S, k S = true → ck_g Fc s0 p l e R s m args below meth c Q D cl tys M sc A ws0 sh0 S (pc + 1)) (hdg : decode cc pc = .ok (.iaload, 1)) : ck_g Fc s0 p l e R s m args below meth c Q D cl tys M sc A ws0 sh0 S pc := by
  refine ck_ald_ok X h hk ?_
  intro H locs ls vs ws sh q a e td x T hP hns hq hk1 hco hin hlt hT kk
  unfold ck_co at hco
  rw [hk1] at hco
  obtain ⟨cA, f, t1, rfl, t3⟩ := hco
  rw [ck_eT, if_neg (by decide), if_neg (by decide)] at hT
  obtain ⟨u1, u2⟩ := t3 T hT
  refine WG.up (fun h => va_iald X.1 X.2.1 X.2.2.2.1 hP q _ hq t1 hin hdg h) X.2.1 hdg (fun lg => ⟨x, a, _, rfl, Or.inl ⟨hns, q, _, cA, f, hq, hlt, rfl⟩⟩) (kk _ ?_)
  unfold ck_fo
  rw [u1]
  exact ⟨_, rfl, u2 _ hlt⟩
theorem ck_lald_ok (X : ck_cx p l e R s m args below meth c cc own D cl tys M sc A) (h : ck_ald M 2 S k = true) (hk : ∀ S, k S = true → ck_g Fc s0 p l e R s m args below meth c Q D cl tys M sc A ws0 sh0 S (pc + 1)) (hdg : decode cc pc = .ok (.laload, 1)) : ck_g Fc s0 p l e R s m args below meth c Q D cl tys M sc A ws0 sh0 S pc := by
  refine ck_ald_ok X h hk ?_
  intro H locs ls vs ws sh q a e td x T hP hns hq hk1 hco hin hlt hT kk
  unfold ck_co at hco
  rw [hk1] at hco
  obtain ⟨cA, f, t1, rfl⟩ := hco
  rw [ck_eT, if_pos rfl] at hT
  subst hT
  exact WG.up (fun h => va_lald X.1 X.2.1 X.2.2.2.1 hP q _ hq t1 hin hdg h) X.2.1 hdg (fun lg => ⟨x, a, _, rfl, Or.inl ⟨q, _, cA, f, hq, hlt, rfl⟩⟩) (kk _ ⟨_, rfl⟩)
theorem ck_zald_ok (X : ck_cx p l e R s m args below meth c cc own D cl tys M sc A) (h : ck_ald M 4 S k = true) (hk : ∀ S, k S = true → ck_g Fc s0 p l e R s m args below meth c Q D cl tys M sc A ws0 sh0 S (pc + 1)) (hdg : decode cc pc = .ok (.baload, 1)) : ck_g Fc s0 p l e R s m args below meth c Q D cl tys M sc A ws0 sh0 S pc := by
  refine ck_ald_ok X h hk ?_
  intro H locs ls vs ws sh q a e td x T hP hns hq hk1 hco hin hlt hT kk
  unfold ck_co at hco
  rw [hk1] at hco
  obtain ⟨cA, f, t1, rfl, t3⟩ := hco
  rw [ck_eT, if_neg (by decide), if_pos rfl] at hT
  subst hT
  exact WG.up (fun h => va_zald X.1 X.2.1 X.2.2.2.1 hP q _ hq t1 hin hdg h) X.2.1 hdg (fun lg => ⟨x, a, _, rfl, q, _, cA, f, hq, hlt, rfl⟩) (kk _ ⟨_, rfl, t3 _ hlt⟩)
theorem ck_aald_ok (X : ck_cx p l e R s m args below meth c cc own D cl tys M sc A) (h : ck_ald M 3 S k = true) (hk : ∀ S, k S = true → ck_g Fc s0 p l e R s m args below meth c Q D cl tys M sc A ws0 sh0 S (pc + 1)) (hdg : decode cc pc = .ok (.aaload, 1)) : ck_g Fc s0 p l e R s m args below meth c Q D cl tys M sc A ws0 sh0 S pc := by
  refine ck_ald_ok X h hk ?_
  intro H locs ls vs ws sh q a e td x T hP hns hq hk1 hco hin hlt hT kk
  unfold ck_co at hco
  rw [hk1] at hco
  obtain ⟨cA, C, f, t1, rfl, t3⟩ := hco
  rw [ck_eT, if_neg (by decide), if_neg (by decide)] at hT
  exact WG.up (fun h => va_aldq X.1 X.2.1 X.2.2.2.1 hP q _ hq t1 hin hdg h) X.2.1 hdg (fun lg => ⟨x, a, _, rfl, q, _, cA, f, hq, hlt, rfl⟩) (kk _ (t3 T hT _ hlt))
theorem ck_aald5_ok (X : ck_cx p l e R s m args below meth c cc own D cl tys M sc A) (h : ck_ald M 5 S k = true) (hk : ∀ S, k S = true → ck_g Fc s0 p l e R s m args below meth c Q D cl tys M sc A ws0 sh0 S (pc + 1)) (hdg : decode cc pc = .ok (.aaload, 1)) : ck_g Fc s0 p l e R s m args below meth c Q D cl tys M sc A ws0 sh0 S pc := by
  refine ck_ald_ok X h hk ?_
  intro H locs ls vs ws sh q a e td x T hP hns hq hk1 hco hin hlt hT kk
  unfold ck_co at hco
  rw [hk1] at hco
  obtain ⟨cA, f, t1, rfl, t3⟩ := hco
  rw [ck_eT, if_neg (by decide), if_neg (by decide)] at hT
  have hc : H[a]? = some (vp_cell cA (td.2.1, .inr (.inr (.inr (.inr f))))) := hP q _ hq
  have hA := (X.2.2.2.1.2 _ _ t1).1
  have e1 : vp_cell cA (td.2.1, .inr (.inr (.inr (.inr f)))) = arrV cA td.2.1 (fun j => va_rf (f j)) := rfl
  rw [e1] at hc
  refine WG.up (vs' := va_rf (f x.toNatClampNeg) :: vs) (fun h => W.aald X.1 X.2.1 hc (ty := .array .int) (hA _ _) rfl (by simp [arrV]) (j := x) (v := va_rf (f x.toNatClampNeg)) (by simpa [arrV, vp_in] using hin) ?_ (g := F0 m pc ls (.int x :: .ref a :: vs)) rfl rfl hdg h) X.2.1 hdg (fun lg => ⟨x, a, _, rfl, q, _, cA, f, hq, hlt, rfl⟩) (kk _ (t3 T hT _ hlt))
  simp [arrV, hlt]
theorem ck_ast_ok (X : ck_cx p l e R s m args below meth c cc own D cl tys M sc A) {kd : Nat} (h : ck_ast M kd S k = true) (hk : ∀ S, k S = true → ck_g Fc s0 p l e R s m args below meth c Q D cl tys M sc A ws0 sh0 S (pc + 1))
    (row : ∀ (H : Heap) (locs : List Loc) (ls : Array Slot) (vs : List Value) (ws : va_W) (sh : List Nat) (q a : Nat) (eo : va_E) (td : ck_D) (x : Int32) (T : ck_T) (u : Value), va_P D cl ws H → va_D A ws → va_S A s.heap H locs → ws[q]? = some (a, eo) → td.1 = kd → ck_co tys ws sh td eo → vp_in x td.2.1 →
      ck_eT kd td T → (kd = 4 → ∃ z : Int32, u = .int z) → (kd ≠ 4 → ck_fo ws sh T u) → (∀ (e' : va_E) (H1 : Heap) (locs1 : List Loc), (∃ y y', eo = .inl y ∧ e' = .inl y') → ck_co tys ws sh td e' → va_P D cl (ws.set q (a, e')) H1 → va_D A (ws.set q (a, e')) → va_S A s.heap H1 locs1 → WG (tM M Fc sc.1) s0 p l e R s m args below meth c (ws.set q (a, e')) sh H1 locs1 (ck_oc R M + S.2.2.2.2.2.1) (ck_os R M + S.2.2.2.2.2.2) Q ((pc + 1), ls, vs)) → WG (tM M Fc sc.1) s0 p l e R s m args below meth c ws sh H locs (ck_oc R M + S.2.2.2.2.2.1) (ck_os R M + S.2.2.2.2.2.2) Q (pc, ls, (u :: .int x :: .ref a :: vs))) : ck_g Fc s0 p l e R s m args below meth c Q D cl tys M sc A ws0 sh0 S pc := by
  intro n ws sh H locs ls vs o hw hx hP hD hS
  unfold ck_ast at h
  split at h
  · rename_i v i r st hst
    have o3 := o.2.2.1
    rw [hst] at o3
    obtain ⟨u, vs0, rfl, h1, h1'⟩ := ck_hd o3
    obtain ⟨iv, vs1, rfl, h2, h3⟩ := ck_hd h1'
    obtain ⟨ra, vs2, rfl, h4, h5⟩ := ck_hd h3
    rw [Bool.and_eq_true, Bool.and_eq_true, Bool.and_eq_true] at h
    obtain ⟨hi, hr2, hall, hcont⟩ := h
    obtain ⟨-, x, rfl, ex⟩ := h2.i (eq_of_beq hi)
    obtain ⟨-, -, q, a, e, t, rfl, hq, ht, htm⟩ := h4.r (eq_of_beq hr2)
    have h6 := List.all_eq_true.mp hall t htm
    split at h6
    · rename_i T hT
      rw [Bool.and_eq_true] at h6
      obtain ⟨hwr, hfit⟩ := h6
      obtain ⟨td, f1, f2, f3, f4⟩ := ck_el_ok hT
      obtain ⟨td', g1, g2⟩ := hw.2.1 q a e t hq ht
      have e1 : td' = td := Option.some.inj (g1.symm.trans f1)
      subst e1
      obtain ⟨b1, b2⟩ := ck_bd_ok o f3 ex
      refine row H locs ls vs2 ws sh q a e td' x T u hP hD hS hq f2 g2 b1 f4 (fun z => ?_) (fun z => ?_) (fun e' H1 locs1 he hco hP1 hD1 hS1 => ?_)
      · rw [if_pos z] at hfit
        obtain ⟨-, w, rfl, -⟩ := h1.i (eq_of_beq hfit)
        exact ⟨w, rfl⟩
      · rw [if_neg z] at hfit
        exact ck_fit_ok o hfit h1
      · obtain ⟨y, y', rfl, rfl⟩ := he
        have hsm : ck_sm (mWr M) t (.inl y) (.inl y') := fun z => absurd (List.contains_iff_mem.mp hwr) z
        obtain ⟨hw', hx'⟩ := ck_wo_set (Wr := mWr M) hw hq ht hsm f1 hco
        refine ck_g.at (hk _ hcont) ⟨o.1, o.2.1.mv hx', h5.imp fun _ _ z => z.mv hx', fun z hz => ?_, o.2.2.2.2⟩ hw' (hx.tr (fun _ z => z) hx') hP1 hD1 hS1 rfl
        obtain ⟨hz, hzf⟩ := List.mem_filter.mp hz
        rcases o.2.2.2.1 z hz with q1 | ⟨z0, z1, q1, a1, o1, v1, z2, z3, z4, z5⟩ | ⟨y0, y1, y2, y3, y4, y5, q1, a1, cA1, len1, f1, y6, y7, y8⟩
        · exact Or.inl q1
        rotate_left
        · refine Or.inr (Or.inr ⟨y0, y1, y2, y3, y4, y5, q1, a1, cA1, len1, f1, y6, ?_, y8⟩)
          rw [List.getElem?_set_ne (fun eq => by
            rw [eq] at ht
            rw [y6] at ht
            have et := Option.some.inj ht
            rw [Bool.or_eq_true, decide_eq_true_eq, Bool.not_eq_true'] at hzf
            rcases hzf with w | w
            · omega
            · rw [et, List.contains_iff_mem.mpr htm] at w
              cases w)]
          exact y7
        · have eq : q ≠ q1 := by
            intro eq
            subst eq
            rw [hq] at z3
            cases z3
          exact Or.inr (Or.inl ⟨z0, z1, q1, a1, o1, v1, z2, by rw [List.getElem?_set_ne eq]; exact z3, z4, z5.mv hx'⟩)
    · cases h6
  · cases h
theorem ck_iast_ok (X : ck_cx p l e R s m args below meth c cc own D cl tys M sc A) (h : ck_ast M 1 S k = true) (hk : ∀ S, k S = true → ck_g Fc s0 p l e R s m args below meth c Q D cl tys M sc A ws0 sh0 S (pc + 1)) (hdg : decode cc pc = .ok (.iastore, 1)) : ck_g Fc s0 p l e R s m args below meth c Q D cl tys M sc A ws0 sh0 S pc := by
  refine ck_ast_ok X h hk ?_
  intro H locs ls vs ws sh q a e td x T u hP hD hS hq hk1 hco hin hT h4 hfo kk
  have hfo := hfo (by decide)
  unfold ck_co at hco
  rw [hk1] at hco
  obtain ⟨cA, f, t1, rfl, t3⟩ := hco
  rw [ck_eT, if_neg (by decide), if_neg (by decide)] at hT
  obtain ⟨u1, u2⟩ := t3 T hT
  unfold ck_fo at hfo
  rw [u1] at hfo
  obtain ⟨z, rfl, z1, z2⟩ := hfo
  intro lg hl hg
  refine va_iast X.1 X.2.1 X.2.2.2.1 hP hD hS q _ hq t1 hin hdg (fun H1 locs1 hP1 hD1 hS1 => kk _ H1 locs1 ⟨_, _, rfl, rfl⟩ ?_ hP1 hD1 hS1 lg hl (hg.nx X.2.1 hdg ⟨z, x, a, _, rfl, q, _, cA, f, hq, ck_in_lt hin, rfl⟩))
  unfold ck_co
  rw [hk1]
  refine ⟨cA, _, t1, rfl, fun T' hT' => ?_⟩
  have eT : T' = T := Option.some.inj (hT'.symm.trans hT)
  subst eT
  refine ⟨u1, fun j hj => ?_⟩
  unfold upd
  split
  · exact ⟨z1, z2⟩
  · exact u2 j hj
theorem ck_last_ok (X : ck_cx p l e R s m args below meth c cc own D cl tys M sc A) (h : ck_ast M 2 S k = true) (hk : ∀ S, k S = true → ck_g Fc s0 p l e R s m args below meth c Q D cl tys M sc A ws0 sh0 S (pc + 1)) (hdg : decode cc pc = .ok (.lastore, 1)) : ck_g Fc s0 p l e R s m args below meth c Q D cl tys M sc A ws0 sh0 S pc := by
  refine ck_ast_ok X h hk ?_
  intro H locs ls vs ws sh q a e td x T u hP hD hS hq hk1 hco hin hT h4 hfo kk
  have hfo := hfo (by decide)
  unfold ck_co at hco
  rw [hk1] at hco
  obtain ⟨cA, f, t1, rfl⟩ := hco
  rw [ck_eT, if_pos rfl] at hT
  subst hT
  obtain ⟨z, rfl⟩ := hfo
  intro lg hl hg
  refine va_last X.1 X.2.1 X.2.2.2.1 hP hD hS q _ hq t1 hin hdg (fun H1 locs1 hP1 hD1 hS1 => kk _ H1 locs1 ⟨_, _, rfl, rfl⟩ ?_ hP1 hD1 hS1 lg hl (hg.nx X.2.1 hdg ⟨z, x, a, _, rfl, q, _, cA, f, hq, ck_in_lt hin, rfl⟩))
  unfold ck_co
  rw [hk1]
  exact ⟨cA, _, t1, rfl⟩
theorem ck_zast_ok (X : ck_cx p l e R s m args below meth c cc own D cl tys M sc A) (h : ck_ast M 4 S k = true) (hk : ∀ S, k S = true → ck_g Fc s0 p l e R s m args below meth c Q D cl tys M sc A ws0 sh0 S (pc + 1)) (hdg : decode cc pc = .ok (.bastore, 1)) : ck_g Fc s0 p l e R s m args below meth c Q D cl tys M sc A ws0 sh0 S pc := by
  refine ck_ast_ok X h hk ?_
  intro H locs ls vs ws sh q a e td x T u hP hD hS hq hk1 hco hin hT h4 hfo kk
  obtain ⟨z, rfl⟩ := h4 rfl
  unfold ck_co at hco
  rw [hk1] at hco
  obtain ⟨cA, f, t1, rfl, t3⟩ := hco
  intro lg hl hg
  refine va_zast X.1 X.2.1 X.2.2.2.1 hP hD hS q _ hq t1 hin hdg (fun H1 locs1 hP1 hD1 hS1 => kk _ H1 locs1 ⟨_, _, rfl, rfl⟩ ?_ hP1 hD1 hS1 lg hl (hg.nx X.2.1 hdg ⟨z, x, a, _, rfl, q, _, cA, f, hq, ck_in_lt hin, rfl⟩))
  unfold ck_co
  rw [hk1]
  refine ⟨cA, _, t1, rfl, fun j hj => ?_⟩
  unfold upd
  split
  · have e1 : vp_nar .boolean z = z &&& 1 := rfl
    rw [e1]
    have := ck_and_r (a := z.toBitVec) (b := (1 : Int32).toBitVec) (by decide)
    exact ⟨this.1, Int.le_trans this.2 (by decide)⟩
  · exact t3 j hj
end
end
