noncomputable section
/-! the makers: cells that are made, read and written; calls -/
def mk_bs (V : ck_Wd) : Prop := (Cond.arrayClass .int ∈ V.2.2.2.2.1 ∧ Cond.arrayClass .long ∈ V.2.2.2.2.1 ∧ Cond.arrayClass .boolean ∈ V.2.2.2.2.1) ∧ V.2.2.2.1[0]? = some .int ∧ V.2.2.2.1[1]? = some .long ∧ V.2.2.2.1[2]? = some .boolean
theorem mk_tyk {V : ck_Wd} {tys : List (ClassId × FieldType)} {k : Nat} {ty : FieldType} (htl : tys.map Prod.snd = V.2.2.2.1) (hk : V.2.2.2.1[k]? = some ty) : ∃ cA, tys[k]? = some (cA, ty) := by
  rw [← htl, List.getElem?_map] at hk
  cases he : tys[k]? with
  | none => rw [he] at hk; cases hk
  | some x =>
    rw [he] at hk
    exact ⟨x.1, by rw [← Option.some.inj hk]⟩
theorem mk_same {D : va_G} {cl : List vw_C} {tys : List (ClassId × FieldType)} {U : State} {cA c0 : ClassId} {ty : FieldType} {k : Nat} (h1 : va_K D cl (tys ++ [(cA, ty)]) U) (h2 : va_K D cl tys U) (h0 : tys[k]? = some (c0, ty)) : cA = c0 :=
  mk_RA (h1.2 tys.length (cA, ty) (by simp)).2 (h2.2 k _ h0).2
def mk_hn (s : State) (args : Array Value) (own : String) (cl : List vw_C) (x : Nat × Nat × Nat × List mk_V) : Prop := ∃ (C : String) (T : u_T) (Ts : List Cond) (ty : Nat → FieldType), (∀ w ∈ Ts, w.before args s = true) ∧ (∀ w ∈ u_ws C T x.2.2.1, w ∈ Ts) ∧ (∀ k, k < x.2.2.1 → parseFieldDescriptor (T k).2.2.1 = some (ty k)) ∧ (Cond.classLink own x.1 C).before args s = true ∧ (Cond.instantiable C x.2.2.1).before args s = true ∧ (Cond.initialized C).before args s = true ∧ cl[x.2.1]? = some (C, T, x.2.2.1) ∧
  ∀ j, j < x.2.2.1 → ∃ v, x.2.2.2[j]? = some v ∧ mk_vo [] v (defaultValue (ty j))
def mk_ha (s : State) (args : Array Value) (own : String) (tys : List (ClassId × FieldType)) (x : Nat × Nat) : Prop := ∃ (C : String) (cA : ClassId), tys[x.2]? = some (cA, .object C) ∧ (Cond.classLink own x.1 C).before args s = true ∧ va_AO C s
def mk_hs (tys : List (ClassId × FieldType)) (cl : List vw_C) (x : Nat × Nat) : Prop := ∃ (cA : ClassId) (r : vw_C), tys[x.1]? = some (cA, .object r.1) ∧ cl[x.2]? = some r
section
variable {p : Program} {l : Launch} {e : Env} {R : Room} {s : State} {m : MethodId} {args : Array Value} {below : List Frame} {meth : Method} {c : Code} {Q : State → Prop} {cc : ByteArray} {own : String} {D : va_G} {V : ck_Wd} {tys : List (ClassId × FieldType)} {T : mk_T} {A : Nat → Prop} {ws0 : va_W} {S : mk_S} {x : mk_S × Nat} {pc pc' : Nat}
theorem mk_new1 {nL : Nat} {ws : va_W} {ls : Array Slot} {vs : List Value} {st : List mk_V} {W : mk_W} {loc : List (Nat × mk_V)} {cells slots : Nat} {c0 : mk_C} {q : Nat} {e0 : va_E} (o1 : ∃ lv, lv_has ls nL lv ∧ ck_two (fun (x : Nat × mk_V) (y : Nat × Value) => x.1 = y.1 ∧ mk_vo ws x.2 y.2) loc lv) (o2 : ck_two (mk_vo ws) st vs) (o3 : mk_wo tys ws W) (hc : mk_co tys (ws ++ [(q, e0)]) c0 e0) :
    mk_so tys nL (loc, (2, 0, W.length) :: st, W ++ [c0], cells, slots) (ws ++ [(q, e0)]) ls (.ref q :: vs) := by
  obtain ⟨lv, l1, l2⟩ := o1
  refine ⟨⟨lv, l1, l2.imp fun _ _ z => ⟨z.1, z.2.mv mk_le.app⟩⟩, ⟨⟨q, e0, ?_, rfl⟩, o2.imp fun _ _ z => z.mv mk_le.app⟩, o3.app hc⟩
  show (ws ++ [(q, e0)])[W.length]? = _
  rw [← o3.1]
  simp
theorem mk_nar_ok (X : mk_cx p e R s m args meth c cc own D V tys T A) (B : mk_bs V) {a : ArrayType} (h : mk_nar T S (pc + 2) a = some x) (hk : mk_g p l e R s m args below meth c Q D V.1 tys (mnL0 T) A ws0 x.1 x.2) (hdg : decode cc pc = .ok (.newarray a, 2)) : mk_g p l e R s m args below meth c Q D V.1 tys (mnL0 T) A ws0 S pc := by
  obtain ⟨x1, x2, x3, x4, x5, x6, x7, x8, x9, x10, x11, x12⟩ := X
  obtain ⟨⟨b1, b2, b3⟩, b4, b5, b6⟩ := B
  unfold mk_nar at h
  split at h
  · rename_i v st y hst hy
    split at h
    · rename_i hc
      obtain ⟨c1, c2, c3⟩ := hc
      unfold mk_al at h
      split at h
      · rename_i hc4
        cases h
        intro ws H locs ls vs o hle hP hD hS
        obtain ⟨o1, o2, o3⟩ := o
        rw [hst] at o2
        cases vs with
        | nil => exact o2.elim
        | cons v1 vs =>
          obtain ⟨w, rfl, ew⟩ := o2.1.i c1
          have hneg : ¬ w < 0 := fun z => by
            have := Int32.lt_iff_toInt_lt.mp z
            rw [Int32.toInt_zero] at this
            omega
          have hN : w.toNatClampNeg = v.2.1.toNat := by show w.toInt.toNat = _; rw [ew]
          have hce : S.2.2.2.1 + 1 ≤ R.cells := Nat.le_trans hc4.1 x7.1
          have hsl : S.2.2.2.2 + v.2.1.toNat ≤ R.slots := Nat.le_trans hc4.2 x7.2
          have fin : ∀ (q : Nat) (cA : ClassId) (a0 : vp_A) (H1 : Heap), mk_co tys (ws ++ [(q, .inl (cA, a0))]) (y.1, y.2, v.2.1.toNat, []) (.inl (cA, a0)) → va_P D V.1 (ws ++ [(q, .inl (cA, a0))]) H1 → va_D A (ws ++ [(q, .inl (cA, a0))]) → va_S A s.heap H1 locs → W p l e R s m args below meth c H1 locs (S.2.2.2.1 + 1) (S.2.2.2.2 + v.2.1.toNat) Q (F0 m (pc + 2) ls (.ref q :: vs)) :=
            fun q cA a0 H1 hco hP1 hD1 hS1 => hk _ H1 locs ls _ (mk_new1 o1 o2.2 o3 hco) (hle.tr mk_le.app) hP1 hD1 hS1
          have at0 : ∀ (k t n i : Nat), mk_at (k, t, n, []) i = mk_df k := fun k t n i => rfl
          unfold mk_at0 at hy
          split at hy
          · cases hy
            obtain ⟨cB, hB⟩ := mk_tyk x10 b4
            exact va_newa x1 x2 (atype := .int) (x9 _ b1) (ty := .int) rfl x4 hP hD hS x5 (a0 := (v.2.1.toNat, .inl (fun _ => 0))) (fun _ => rfl) hneg hN (by show _ * 4 ≤ _; omega) hce hsl hdg (fun q cA H1 hK1 hP1 hD1 hS1 => fin q cA _ H1 ⟨cA, _, by rw [mk_same hK1 x4 hB]; exact hB, rfl, fun i => by rw [at0]; exact mk_vo.int rfl⟩ hP1 hD1 hS1)
          · cases hy
            obtain ⟨cB, hB⟩ := mk_tyk x10 b5
            exact va_newa x1 x2 (atype := .long) (x9 _ b2) (ty := .long) rfl x4 hP hD hS x5 (a0 := (v.2.1.toNat, .inr (.inl (fun _ => 0)))) (fun _ => rfl) hneg hN (by show _ * 8 ≤ _; omega) hce hsl hdg (fun q cA H1 hK1 hP1 hD1 hS1 => fin q cA _ H1 ⟨cA, _, by rw [mk_same hK1 x4 hB]; exact hB, rfl⟩ hP1 hD1 hS1)
          · cases hy
            obtain ⟨cB, hB⟩ := mk_tyk x10 b6
            exact va_newa x1 x2 (atype := .boolean) (x9 _ b3) (ty := .boolean) rfl x4 hP hD hS x5 (a0 := (v.2.1.toNat, .inl (fun _ => 0))) (fun _ => rfl) hneg hN (by show _ * 1 ≤ _; omega) hce hsl hdg (fun q cA H1 hK1 hP1 hD1 hS1 => fin q cA _ H1 ⟨cA, _, by rw [mk_same hK1 x4 hB]; exact hB, rfl, fun i => rfl⟩ hP1 hD1 hS1)
          · cases hy
      · cases h
    · cases h
  · cases h
theorem mk_anr_ok (X : mk_cx p e R s m args meth c cc own D V tys T A) (han : ∀ y ∈ man0 T, mk_ha s args own tys y) {idx : Nat} (h : mk_anr T S (pc + 3) idx = some x) (hk : mk_g p l e R s m args below meth c Q D V.1 tys (mnL0 T) A ws0 x.1 x.2) (hdg : decode cc pc = .ok (.anewarray idx, 3)) : mk_g p l e R s m args below meth c Q D V.1 tys (mnL0 T) A ws0 S pc := by
  obtain ⟨x1, x2, x3, x4, x5, x6, x7, x8, x9, x10, x11, x12⟩ := X
  unfold mk_anr at h
  split at h
  · rename_i v st y hst hy
    split at h
    · rename_i hc
      obtain ⟨c1, c2, c3⟩ := hc
      unfold mk_al at h
      split at h
      · rename_i hc4
        cases h
        obtain ⟨C, cB, g1, g2, g3⟩ := han y (List.mem_of_find?_eq_some hy)
        rw [mk_fe hy] at g2
        intro ws H locs ls vs o hle hP hD hS
        obtain ⟨o1, o2, o3⟩ := o
        rw [hst] at o2
        cases vs with
        | nil => exact o2.elim
        | cons v1 vs =>
          obtain ⟨w, rfl, ew⟩ := o2.1.i c1
          have hneg : ¬ w < 0 := fun z => by
            have := Int32.lt_iff_toInt_lt.mp z
            rw [Int32.toInt_zero] at this
            omega
          have hN : w.toNatClampNeg = v.2.1.toNat := by show w.toInt.toNat = _; rw [ew]
          have hce : S.2.2.2.1 + 1 ≤ R.cells := Nat.le_trans hc4.1 x7.1
          have hsl : S.2.2.2.2 + v.2.1.toNat ≤ R.slots := Nat.le_trans hc4.2 x7.2
          exact va_newq x1 x2 x3 g2 g3 x4 hP hD hS x5 hneg hN (by omega) hce hsl hdg (fun q cA H1 hK1 hP1 hD1 hS1 => hk _ H1 locs ls _ (mk_new1 o1 o2.2 o3 ⟨cA, C, fun _ => none, by rw [mk_same hK1 x4 g1]; exact g1, rfl, fun i => rfl⟩) (hle.tr mk_le.app) hP1 hD1 hS1)
      · cases h
    · cases h
  · cases h
theorem mk_new_ok (X : mk_cx p e R s m args meth c cc own D V tys T A) (hnw : ∀ y ∈ mnw0 T, mk_hn s args own V.1 y) {idx : Nat} (h : mk_new T S (pc + 3) idx = some x) (hk : mk_g p l e R s m args below meth c Q D V.1 tys (mnL0 T) A ws0 x.1 x.2) (hdg : decode cc pc = .ok (.new idx, 3)) : mk_g p l e R s m args below meth c Q D V.1 tys (mnL0 T) A ws0 S pc := by
  obtain ⟨x1, x2, x3, x4, x5, x6, x7, x8, x9, x10, x11, x12⟩ := X
  unfold mk_new at h
  split at h
  · rename_i y hy
    split at h
    · rename_i hlen
      unfold mk_al at h
      split at h
      · rename_i hc4
        cases h
        obtain ⟨C, T0, Ts, ty, l1, l2, l3, l4, l5, l6, l7, l8⟩ := hnw y (List.mem_of_find?_eq_some hy)
        have ei : y.1 = idx := mk_fe hy
        rw [ei] at l4
        intro ws H locs ls vs o hle hP hD hS
        obtain ⟨o1, o2, o3⟩ := o
        have hfs : ∀ j, j < y.2.2.1 → defaultValue (ty j) = vp_V ((List.range y.2.2.1).map fun j => defaultValue (ty j)) j := fun j hj => by simp [vp_V, hj]
        refine va_new x1 x2 l1 l2 ty l3 x3 l4 l5 l6 x4 hP hD hS x5 l7 hfs (Nat.le_trans hc4.1 x7.1) (Nat.le_trans hc4.2 x7.2) hdg (fun q H1 hP1 hD1 hS1 => ?_)
        refine hk _ H1 locs ls _ (mk_new1 o1 o2 o3 ⟨_, rfl, by simp, hlen, ck_two_get (by simp [hlen]) (fun j a b ha hb => ?_)⟩) (hle.tr mk_le.app) hP1 hD1 hS1
        have hj : j < y.2.2.1 := by rw [← hlen]; exact (List.getElem?_eq_some_iff.mp ha).1
        obtain ⟨v, v1, v2⟩ := l8 j hj
        have ev : v = a := Option.some.inj (v1.symm.trans ha)
        have hb' : ((List.range y.2.2.1).map fun j => defaultValue (ty j))[j]? = some (defaultValue (ty j)) := by simp [hj]
        have eb : defaultValue (ty j) = b := Option.some.inj (hb'.symm.trans hb)
        subst ev
        subst eb
        exact v2.mv (fun i a e hi => by simp at hi)
      · cases h
    · cases h
  · cases h
theorem mk_get_ok (X : mk_cx p e R s m args meth c cc own D V tys T A) (hfl : ∀ y ∈ mfl0 T, ck_hg s args own V.1 y) {idx : Nat} (h : mk_get T S (pc + 3) idx = some x) (hk : mk_g p l e R s m args below meth c Q D V.1 tys (mnL0 T) A ws0 x.1 x.2) (hdg : decode cc pc = .ok (.getfield idx, 3)) : mk_g p l e R s m args below meth c Q D V.1 tys (mnL0 T) A ws0 S pc := by
  obtain ⟨x1, x2, x3, x4, x5, x6, x7, x8, x9, x10, x11, x12⟩ := X
  unfold mk_get at h
  split at h
  · rename_i r st hst
    split at h
    · rename_i hr
      split at h
      · rename_i c0 hc0
        split at h
        · rename_i h0
          split at h
          · rename_i y hy
            split at h
            · rename_i v hv
              cases h
              have hp := List.find?_some hy
              rw [Bool.and_eq_true, beq_iff_eq, beq_iff_eq] at hp
              obtain ⟨C, T0, N0, ref, Ts, l1, l2, l3, l4, l5, l6⟩ := hfl y (List.mem_of_find?_eq_some hy)
              intro ws H locs ls vs o hle hP hD hS
              obtain ⟨o1, o2, o3⟩ := o
              rw [hst] at o2
              cases vs with
              | nil => exact o2.elim
              | cons v1 vs =>
                obtain ⟨a, e1, h1, rfl⟩ := o2.1.r hr
                have hco := o3.2 _ _ _ _ h1 hc0
                unfold mk_co at hco
                rw [h0] at hco
                obtain ⟨fs, rfl, f1, f2, f3⟩ := hco
                obtain ⟨u, u1, u2⟩ := ck_two_at f3 _ _ hv
                rw [← hp.2] at h1
                rw [hp.1] at l5
                have kk := hk ws H locs ls (u :: vs) ⟨o1, ⟨u2, o2.2⟩, o3⟩ hle hP hD hS
                rcases l5 with l5 | ⟨host, l5⟩
                · exact va_get x1 x2 l1 l2 x3 x4 hP r.2.2 h1 l3 y.2.2 l4 l5 l6 u1 hdg kk
                · exact va_getN x1 x2 l1 l2 x3 x4 hP r.2.2 h1 l3 y.2.2 l4 l5 l6 u1 hdg kk
            · cases h
          · cases h
        · cases h
      · cases h
    · cases h
  · cases h
theorem mk_put_ok (X : mk_cx p e R s m args meth c cc own D V tys T A) (hpl : ∀ y ∈ mpl0 T, ck_hp s args own V.1 (meth.name = "<init>") y) {idx : Nat} (h : mk_put T S (pc + 3) idx = some x) (hk : mk_g p l e R s m args below meth c Q D V.1 tys (mnL0 T) A ws0 x.1 x.2) (hdg : decode cc pc = .ok (.putfield idx, 3)) : mk_g p l e R s m args below meth c Q D V.1 tys (mnL0 T) A ws0 S pc := by
  obtain ⟨x1, x2, x3, x4, x5, x6, x7, x8, x9, x10, x11, x12⟩ := X
  unfold mk_put at h
  split at h
  · rename_i v r st hst
    split at h
    · rename_i hr
      split at h
      · rename_i c0 hc0
        split at h
        · rename_i h0
          split at h
          · rename_i y hy
            split at h
            · rename_i hv
              obtain ⟨hv, hlt⟩ := hv
              cases h
              have hp := List.find?_some hy
              rw [Bool.and_eq_true, beq_iff_eq, beq_iff_eq] at hp
              obtain ⟨C, T0, N0, ref, Ts, ty0, l1, l2, l3, l4, l5, l6, l7, l8, l9⟩ := hpl y (List.mem_of_find?_eq_some hy)
              rw [hp.1] at l7
              intro ws H locs ls vs o hle hP hD hS
              obtain ⟨o1, o2, o3⟩ := o
              rw [hst] at o2
              cases vs with
              | nil => exact o2.elim
              | cons u vs =>
                cases vs with
                | nil => exact o2.2.elim
                | cons v1 vs =>
                  obtain ⟨a, e1, h1, rfl⟩ := o2.2.1.r hr
                  have hco := o3.2 _ _ _ _ h1 hc0
                  unfold mk_co at hco
                  rw [h0] at hco
                  obtain ⟨fs, rfl, f1, f2, f3⟩ := hco
                  have hu := o2.1
                  unfold mk_pok at hv
                  have hnf : narrow (ty0 y.2.2.1) u = u ∧ fits (ty0 y.2.2.1) u = true := by
                    split at l9
                    · rename_i eb
                      rw [eb] at hv
                      obtain ⟨w, rfl, -⟩ := hu.i (eq_of_beq hv)
                      rw [l9]
                      exact ⟨rfl, rfl⟩
                    · rename_i eb
                      rw [eb] at hv
                      simp only [Bool.and_eq_true, beq_iff_eq, decide_eq_true_eq] at hv
                      obtain ⟨w, rfl, ew⟩ := hu.i hv.1
                      rw [l9]
                      exact ck_nar_b (by omega) (by omega)
                    · have hne : v.1 ≠ 1 := by
                        revert hv
                        split
                        · rename_i z1 z2; exact absurd z2 (by assumption)
                        · rename_i z1 z2; exact absurd z2 (by assumption)
                        · intro hv
                          rw [Bool.not_eq_true', beq_eq_false_iff_ne] at hv
                          exact hv
                      rcases l9 with ⟨C', l9⟩ | ⟨t', l9⟩ <;> rw [l9] <;> rcases hu.ni hne with rfl | ⟨b, rfl⟩ <;> exact ⟨rfl, rfl⟩
                  have hco' : mk_co tys ws (0, c0.2.1, c0.2.2.1, c0.2.2.2.set y.2.2.1 v) (.inr (c0.2.1, fs.set y.2.2.1 u)) := ⟨_, rfl, by rw [List.length_set]; exact f1, by rw [List.length_set]; exact f2, ck_two_set hu _ f3⟩
                  have hle2 : mk_le ws (ws.set r.2.2 (a, .inr (c0.2.1, fs.set y.2.2.1 u))) := mk_le.set h1
                  have go : ∀ (H1 : Heap) (locs1 : List Loc), va_P D V.1 (ws.set r.2.2 (a, .inr (c0.2.1, fs.set y.2.2.1 u))) H1 → va_D A (ws.set r.2.2 (a, .inr (c0.2.1, fs.set y.2.2.1 u))) → va_S A s.heap H1 locs1 → W p l e R s m args below meth c H1 locs1 S.2.2.2.1 S.2.2.2.2 Q (F0 m (pc + 3) ls vs) := by
                    intro H1 locs1 hP1 hD1 hS1
                    obtain ⟨lv, l1, l2⟩ := o1
                    exact hk _ H1 locs1 ls vs ⟨⟨lv, l1, l2.imp fun _ _ z => ⟨z.1, z.2.mv hle2⟩⟩, o2.2.2.imp fun _ _ z => z.mv hle2, o3.set h1 hco'⟩ (hle.tr hle2) hP1 hD1 hS1
                  have hl5 : V.1[c0.2.1]? = some (C, T0, N0) := by rw [← hp.2]; exact l5
                  have hlen : y.2.2.1 < fs.length := by rw [f1]; exact hlt
                  rcases l7 with ⟨lk, lf | ⟨lf, li, lo⟩⟩ | ⟨lf, host, lk⟩
                  · exact va_put x1 x2 l1 l2 ty0 l3 l4 x3 x4 hP hD hS r.2.2 h1 hl5 y.2.2.1 l6 lk l8 lf (l3 _ l6) hnf.1 hnf.2 hlen hdg go
                  · exact va_putF x1 x2 l1 l2 ty0 l3 l4 x3 x4 hP hD hS r.2.2 h1 hl5 y.2.2.1 l6 lk l8 lf li lo (l3 _ l6) hnf.1 hnf.2 hlen hdg go
                  · exact va_putN x1 x2 l1 l2 ty0 l3 l4 x3 x4 hP hD hS r.2.2 h1 hl5 y.2.2.1 l6 lk l8 lf (l3 _ l6) hnf.1 hnf.2 hlen hdg go
            · cases h
          · cases h
        · cases h
      · cases h
    · cases h
  · cases h
theorem mk_vin {w : Int32} {z : Int} {n : Nat} (ew : w.toInt = z) (h0 : 0 ≤ z) (hn : z.toNat < n) : vp_in w n ∧ w.toNatClampNeg = z.toNat := by
  have hc : w.toNatClampNeg = z.toNat := by show w.toInt.toNat = _; rw [ew]
  refine ⟨fun q => ?_, hc⟩
  rcases q with q | q
  · have := Int32.lt_iff_toInt_lt.mp q
    rw [Int32.toInt_zero] at this
    omega
  · omega
theorem mk_iast_ok (X : mk_cx p e R s m args meth c cc own D V tys T A) (h : mk_iast S (pc + 1) = some x) (hk : mk_g p l e R s m args below meth c Q D V.1 tys (mnL0 T) A ws0 x.1 x.2) (hdg : decode cc pc = .ok (.iastore, 1)) : mk_g p l e R s m args below meth c Q D V.1 tys (mnL0 T) A ws0 S pc := by
  obtain ⟨x1, x2, x3, x4, x5, x6, x7, x8, x9, x10, x11, x12⟩ := X
  unfold mk_iast at h
  split at h
  · rename_i v i r st hst
    split at h
    · rename_i hc
      obtain ⟨c1, c2, c3, c4⟩ := hc
      split at h
      · rename_i c0 hc0
        split at h
        · rename_i h0
          cases h
          intro ws H locs ls vs o hle hP hD hS
          obtain ⟨o1, o2, o3⟩ := o
          rw [hst] at o2
          cases vs with
          | nil => exact o2.elim
          | cons u1 vs =>
            cases vs with
            | nil => exact o2.2.elim
            | cons u2 vs =>
              cases vs with
              | nil => exact o2.2.2.elim
              | cons u3 vs =>
                obtain ⟨w1, rfl, e1⟩ := o2.1.i c1
                obtain ⟨w2, rfl, e2⟩ := o2.2.1.i c2
                obtain ⟨a, e3, h1, rfl⟩ := o2.2.2.1.r c3
                have hco := o3.2 _ _ _ _ h1 hc0
                unfold mk_co at hco
                rw [h0.1] at hco
                obtain ⟨cA, f, f1, rfl, f3⟩ := hco
                obtain ⟨hin, hcl⟩ := mk_vin e2 c4 h0.2
                refine va_iast x1 x2 x4 hP hD hS r.2.2 c0.2.1 h1 f1 hin hdg (fun H1 locs1 hP1 hD1 hS1 => ?_)
                have hle2 : mk_le ws (ws.set r.2.2 (a, .inl (cA, c0.2.2.1, .inl (upd f w2.toNatClampNeg w1)))) := mk_le.set h1
                have hco' : mk_co tys ws (mk_up c0 i.2.1.toNat v) (.inl (cA, c0.2.2.1, .inl (upd f w2.toNatClampNeg w1))) := by
                  unfold mk_co
                  rw [show (mk_up c0 i.2.1.toNat v).1 = 1 from h0.1]
                  refine ⟨cA, _, f1, rfl, fun j => ?_⟩
                  rw [mk_up_at]
                  unfold upd
                  rw [hcl]
                  by_cases ej : j = i.2.1.toNat
                  · rw [if_pos ej, if_pos ej]
                    exact o2.1
                  · rw [if_neg ej, if_neg ej]
                    exact f3 j
                obtain ⟨lv, l1, l2⟩ := o1
                exact hk _ H1 locs1 ls vs ⟨⟨lv, l1, l2.imp fun _ _ z => ⟨z.1, z.2.mv hle2⟩⟩, o2.2.2.2.imp fun _ _ z => z.mv hle2, o3.set h1 hco'⟩ (hle.tr hle2) hP1 hD1 hS1
        · cases h
      · cases h
    · cases h
  · cases h
theorem mk_aast_ok (X : mk_cx p e R s m args meth c cc own D V tys T A) (hal : ∀ y ∈ mal0 T, mk_hs tys V.1 y) (h : mk_aast T S (pc + 1) = some x) (hk : mk_g p l e R s m args below meth c Q D V.1 tys (mnL0 T) A ws0 x.1 x.2) (hdg : decode cc pc = .ok (.aastore, 1)) : mk_g p l e R s m args below meth c Q D V.1 tys (mnL0 T) A ws0 S pc := by
  obtain ⟨x1, x2, x3, x4, x5, x6, x7, x8, x9, x10, x11, x12⟩ := X
  unfold mk_aast at h
  split at h
  · rename_i v i r st hst
    split at h
    · rename_i hc
      obtain ⟨c1, c2, c3, c4⟩ := hc
      split at h
      · rename_i c0 b0 hc0 hb0
        split at h
        · rename_i h0
          obtain ⟨h01, h02, h03, h04⟩ := h0
          cases h
          obtain ⟨cB, rr, g1, g2⟩ := hal _ (List.contains_iff_mem.mp h04)
          intro ws H locs ls vs o hle hP hD hS
          obtain ⟨o1, o2, o3⟩ := o
          rw [hst] at o2
          cases vs with
          | nil => exact o2.elim
          | cons u1 vs =>
            cases vs with
            | nil => exact o2.2.elim
            | cons u2 vs =>
              cases vs with
              | nil => exact o2.2.2.elim
              | cons u3 vs =>
                obtain ⟨b, e1, k1, rfl⟩ := o2.1.r c1
                obtain ⟨w2, rfl, e2⟩ := o2.2.1.i c2
                obtain ⟨a, e3, h1, rfl⟩ := o2.2.2.1.r c3
                have hco := o3.2 _ _ _ _ h1 hc0
                unfold mk_co at hco
                rw [h01] at hco
                obtain ⟨cA, C, f, f1, rfl, f3⟩ := hco
                have hob := o3.2 _ _ _ _ k1 hb0
                unfold mk_co at hob
                rw [h02] at hob
                obtain ⟨fs, rfl, -⟩ := hob
                obtain ⟨hin, hcl⟩ := mk_vin e2 c4 h03
                have g1 : tys[c0.2.1]? = some (cB, .object rr.1) := g1
                cases Option.some.inj (f1.symm.trans g1)
                refine va_astq x1 x2 x4 hP hD hS r.2.2 c0.2.1 v.2.2 b0.2.1 h1 g1 k1 g2 hin hdg (fun H1 locs1 hP1 hD1 hS1 => ?_)
                have hle2 : mk_le ws (ws.set r.2.2 (a, .inl (cB, c0.2.2.1, .inr (.inr (.inr (.inr (va_up f w2.toNatClampNeg (some b)))))))) := mk_le.set h1
                have hco' : mk_co tys ws (mk_up c0 i.2.1.toNat v) (.inl (cB, c0.2.2.1, .inr (.inr (.inr (.inr (va_up f w2.toNatClampNeg (some b))))))) := by
                  unfold mk_co
                  rw [show (mk_up c0 i.2.1.toNat v).1 = 3 from h01]
                  refine ⟨cB, rr.1, _, f1, rfl, fun j => ?_⟩
                  rw [mk_up_at]
                  unfold va_up
                  rw [hcl]
                  by_cases ej : j = i.2.1.toNat
                  · rw [if_pos ej, if_pos ej]
                    exact o2.1
                  · rw [if_neg ej, if_neg ej]
                    exact f3 j
                obtain ⟨lv, l1, l2⟩ := o1
                exact hk _ H1 locs1 ls vs ⟨⟨lv, l1, l2.imp fun _ _ z => ⟨z.1, z.2.mv hle2⟩⟩, o2.2.2.2.imp fun _ _ z => z.mv hle2, o3.set h1 hco'⟩ (hle.tr hle2) hP1 hD1 hS1
        · cases h
      · cases h
    · cases h
  · cases h
def mk_cs (p : Program) (l : Launch) (e : Env) (R : Room) (s : State) (m : MethodId) (args : Array Value) (below : List Frame) (meth : Method) (c : Code) (Q : State → Prop) (cc : ByteArray) (D : va_G) (cl : List vw_C) (tys : List (ClassId × FieldType)) (T : mk_T) (A : Nat → Prop) (y : Nat × Nat × mk_F × Nat × Nat) : Prop :=
  ∀ (pc : Nat) (ls : Array Slot) (ws : va_W) (W0 : mk_W) (H : Heap) (locs : List Loc) (cells slots : Nat) (As rest : List Value) (xs : List mk_V) (r : List mk_V × mk_W), decode cc pc = .ok (ck_ik y.1, 3) → ls.size = mnL0 T → As.length = y.2.1 → ck_two (mk_vo ws) xs As → mk_wo tys ws W0 → va_P D cl ws H → va_D A ws → va_S A s.heap H locs → cells + y.2.2.2.1 ≤ R.cells → slots + y.2.2.2.2 ≤ R.slots → (rest.map fun v => v.category).sum ≤ 8 → mk_hd y.1 xs = true → y.2.2.1 W0 xs = some r →
    (∀ (rv : List Value) (ws' : va_W) (H' : Heap) (locs' : List Loc), mk_wo tys ws' r.2 → mk_le ws ws' → va_P D cl ws' H' → va_D A ws' → va_S A s.heap H' locs' → ck_two (mk_vo ws') r.1 rv → W p l e R s m args below meth c H' locs' (cells + y.2.2.2.1) (slots + y.2.2.2.2) Q (F0 m (pc + 3) ls (rv ++ rest))) →
    W p l e R s m args below meth c H locs cells slots Q (F0 m pc ls (As.reverse ++ rest))
theorem mk_two_cat {ws : va_W} : ∀ {l : List mk_V} {r : List Value}, ck_two (mk_vo ws) l r → (r.map fun v => v.category).sum = l.length
  | [], [], _ => rfl
  | _ :: _, v :: r, h => by
    rw [List.map_cons, List.sum_cons, mk_two_cat h.2, h.1.cat, List.length_cons]
    omega
  | [], _ :: _, h => h.elim
  | _ :: _, [], h => h.elim
theorem mk_call_ok (hcl : ∀ y ∈ mcl0 T, mk_cs p l e R s m args below meth c Q cc D V.1 tys T A y) (X : mk_cx p e R s m args meth c cc own D V tys T A) {key : Nat} (h : mk_call T S (pc + 3) key = some x) (hk : mk_g p l e R s m args below meth c Q D V.1 tys (mnL0 T) A ws0 x.1 x.2) (hdg : decode cc pc = .ok (ck_ik key, 3)) : mk_g p l e R s m args below meth c Q D V.1 tys (mnL0 T) A ws0 S pc := by
  unfold mk_call at h
  split at h
  · rename_i y hy
    split at h
    · rename_i hc
      obtain ⟨c1, c2, c3, c4, c5⟩ := hc
      split at h
      · rename_i r hr
        cases h
        have ek : y.1 = key := mk_fe hy
        have hcs := hcl y (List.mem_of_find?_eq_some hy)
        intro ws H locs ls vs o hle hP hD hS
        obtain ⟨⟨lv, l1, l2⟩, o2, o3⟩ := o
        obtain ⟨t1, t2⟩ := ck_two_take y.2.1 o2
        have hvl : vs.length = S.2.1.length := o2.len.symm
        have hsum := mk_two_cat t2
        have e1 : vs = (vs.take y.2.1).reverse.reverse ++ vs.drop y.2.1 := by rw [List.reverse_reverse, List.take_append_drop]
        rw [e1]
        refine hcs pc ls ws S.2.2.1 H locs _ _ (vs.take y.2.1).reverse (vs.drop y.2.1) _ r (by rw [ek]; exact hdg) l1.1 ?_ (ck_two_rev t1) o3 hP hD hS (Nat.le_trans c3 X.2.2.2.2.2.2.1.1) (Nat.le_trans c4 X.2.2.2.2.2.2.1.2) ?_ (by rw [ek]; exact c5) hr (fun rv ws' H' locs' hw' hle' hP' hD' hS' hrv => ?_)
        · rw [List.length_reverse, List.length_take]
          omega
        · rw [hsum, List.length_drop]
          omega
        · exact hk ws' H' locs' ls _ ⟨⟨lv, l1, l2.imp fun _ _ z => ⟨z.1, z.2.mv hle'⟩⟩, hrv.app (t2.imp fun _ _ z => z.mv hle'), hw'⟩ (hle.tr hle') hP' hD' hS'
      · cases h
    · cases h
  · cases h
end
end
