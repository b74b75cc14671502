noncomputable section
def ck_ha (s : State) (tys : List (ClassId × FieldType)) (cl : List vw_C) (x : Nat × Nat) : Prop := ∃ (cA : ClassId) (E : String) (r : vw_C), tys[x.1]? = some (cA, .object E) ∧ cl[x.2]? = some r ∧ (r.1 = E ∨ va_Nw (.castable r.1 E) s)
def ck_hs (s : State) (args : Array Value) (own : String) (sc : ck_sc) (i : Nat) : Prop := sc.2.1.isSome = true ∧ ∃ ref, (Cond.fieldLink own i ref "WITH" "[J").before args s = true ∧ ∀ x, s.fieldFound? "ReasonDesk$Bits" "WITH" "[J" = some x → s.fieldFound? ref "WITH" "[J" = some x
def ck_hn (s : State) (args : Array Value) (own : String) (cl : List vw_C) (TT : List ck_D) (x : Nat × Nat × Nat × Nat) : Prop := ∃ (C : String) (T : u_T) (Ts : List Cond) (ty : Nat → FieldType), (∀ w ∈ Ts, w.before args s = true) ∧ (∀ w ∈ u_ws C T x.2.2.2, w ∈ Ts) ∧ (∀ k, k < x.2.2.2 → parseFieldDescriptor (T k).2.2.1 = some (ty k)) ∧ (Cond.classLink own x.1 C).before args s = true ∧ (Cond.instantiable C x.2.2.2).before args s = true ∧ (Cond.initialized C).before args s = true ∧ cl[x.2.1]? = some (C, T, x.2.2.2) ∧
  ∀ td, TT[x.2.2.1]? = some td → ∀ (j : Nat) (t : ck_T), td.2.2.2[j]? = some t → (t.1 = 0 → defaultValue (ty j) = .int 0) ∧ (t.1 = 3 → defaultValue (ty j) = .null)
def ck_hi (s : State) (args : Array Value) (own : String) (cl : List vw_C) (x : Nat × Nat × Nat) : Prop := ∃ (r : vw_C) (nm : String), cl[x.2.1]? = some r ∧ (Cond.classLink own x.1 nm).before args s = true ∧ ((x.2.2 = 1 ∧ (r.1 = nm ∨ va_Nw (.castable r.1 nm) s)) ∨ (x.2.2 = 0 ∧ va_Nc r.1 nm s))
def ck_hx (s : State) (args : Array Value) (own : String) (cl : List vw_C) (x : Nat × Nat) : Prop := ∃ (r : vw_C) (nm : String), cl[x.2]? = some r ∧ (Cond.classLink own x.1 nm).before args s = true ∧ (r.1 = nm ∨ va_Nw (.castable r.1 nm) s)
section
variable {p : Program} {l : Launch} {e : Env} {R : Room} {s : State} {m : MethodId} {args : Array Value} {below : List Frame} {meth : Method} {c : Code} {Q : State → Prop} {cc : ByteArray} {own : String} {D : va_G} {cl : List vw_C} {tys : List (ClassId × FieldType)} {M : ck_Me} {sc : ck_sc} {A : Nat → Prop} {ws0 : va_W} {sh0 : List Nat} {Fc : Nat → Nat × fR} {s0 : fS} {k : ck_S → Bool} {S : ck_S} {pc pc' : Nat}
theorem ck_aast_ok (X : ck_cx p l e R s m args below meth c cc own D cl tys M sc A) (hal : ∀ x ∈ mal M, ck_ha s tys cl x) (h : ck_aast M S k = true) (hk : ∀ S, k S = true → ck_g Fc s0 p l e R s m args below meth c Q D cl tys M sc A ws0 sh0 S (pc + 1)) (hdg : decode cc pc = .ok (.aastore, 1)) : ck_g Fc s0 p l e R s m args below meth c Q D cl tys M sc A ws0 sh0 S pc := by
  intro n ws sh H locs ls vs o hw hx hP hD hS
  unfold ck_aast at h
  split at h
  · rename_i v i r st hst
    have o3 := o.2.2.1
    rw [hst] at o3
    obtain ⟨u, vs0, rfl, h1, h1'⟩ := ck_hd o3
    obtain ⟨iv, vs1, rfl, h2, h3⟩ := ck_hd h1'
    obtain ⟨ra, vs2, rfl, h4, h5⟩ := ck_hd h3
    rw [Bool.and_eq_true, Bool.and_eq_true, Bool.and_eq_true] at h
    obtain ⟨hi, hr2, hall, hcont⟩ := h
    obtain ⟨-, x, rfl, ex⟩ := h2.i (eq_of_beq hi)
    obtain ⟨-, -, q, a, e', t, rfl, hq, ht, htm⟩ := h4.r (eq_of_beq hr2)
    have h6 := List.all_eq_true.mp hall t htm
    unfold ck_aso at h6
    split at h6
    · rename_i td f1
      rw [Bool.and_eq_true, Bool.and_eq_true, Bool.and_eq_true] at h6
      obtain ⟨f2, f3, hwr, h7⟩ := h6
      have f2 := eq_of_beq f2
      obtain ⟨td', g1, g2⟩ := hw.2.1 q a e' t hq ht
      have e1 : td' = td := Option.some.inj (g1.symm.trans f1)
      subst e1
      obtain ⟨b1, b2⟩ := ck_bd_ok o f3 ex
      split at h7
      · rename_i T hT
        rw [Bool.and_eq_true, Bool.and_eq_true] at h7
        obtain ⟨⟨h8, h9⟩, h10⟩ := h7
        unfold ck_co at g2
        rw [f2] at g2
        obtain ⟨cA, C, f, t1, rfl, t3⟩ := g2
        have t3 := t3 T (by rw [hT]; rfl)
        -- the value: null, or a cell of one of the element's types, whose class may be stored
        have hT23 : T.1 = 2 ∨ T.1 = 3 := by
          rw [Bool.or_eq_true] at h10
          exact h10.imp eq_of_beq eq_of_beq
        have hval : (u = .null ∧ T.1 = 3) ∨ (ck_rf ws sh v.2.2 u ∧ v.1 ≠ 4) := by
          have hu := h1
          unfold ck_vo at hu
          rw [Bool.or_eq_true, Bool.and_eq_true, Bool.or_eq_true] at h9
          rcases h9 with z | ⟨z | z, z2⟩
          · rw [eq_of_beq z] at hu
            exact Or.inr ⟨hu.2.2, by rw [eq_of_beq z]; decide⟩
          · rw [eq_of_beq z] at hu
            rcases hu.2.2 with w | w
            · exact Or.inl ⟨w, eq_of_beq z2⟩
            · exact Or.inr ⟨w, by rw [eq_of_beq z]; decide⟩
          · rw [eq_of_beq z] at hu
            exact Or.inl ⟨hu.2.2, eq_of_beq z2⟩
        have fin : ∀ (w : Option Nat) (H1 : Heap) (locs1 : List Loc), ck_fo ws sh T (va_rf w) → va_P D cl (ws.set q (a, .inl (cA, td'.2.1, .inr (.inr (.inr (.inr (va_up f x.toNatClampNeg w))))))) H1 → va_D A (ws.set q (a, .inl (cA, td'.2.1, .inr (.inr (.inr (.inr (va_up f x.toNatClampNeg w))))))) → va_S A s.heap H1 locs1 → WG (tM M Fc sc.1) s0 p l e R s m args below meth c (ws.set q (a, .inl (cA, td'.2.1, .inr (.inr (.inr (.inr (va_up f x.toNatClampNeg w))))))) sh H1 locs1 (ck_oc R M + S.2.2.2.2.2.1) (ck_os R M + S.2.2.2.2.2.2) Q ((pc + 1), ls, vs2) := by
          intro w H1 locs1 hfo hP1 hD1 hS1
          have hsm : ck_sm (mWr M) t (.inl (cA, td'.2.1, .inr (.inr (.inr (.inr f))))) (.inl (cA, td'.2.1, .inr (.inr (.inr (.inr (va_up f x.toNatClampNeg w)))))) := fun z => absurd (List.contains_iff_mem.mp hwr) z
          have hco : ck_co tys ws sh td' (.inl (cA, td'.2.1, .inr (.inr (.inr (.inr (va_up f x.toNatClampNeg w)))))) := by
            unfold ck_co
            rw [f2]
            refine ⟨cA, C, _, t1, rfl, fun T' hT' j hj => ?_⟩
            rw [hT] at hT'
            have eT := Option.some.inj hT'
            subst eT
            unfold va_up
            split
            · exact hfo
            · exact t3 j hj
          obtain ⟨hw', hx'⟩ := ck_wo_set (Wr := mWr M) hw hq ht hsm f1 hco
          refine ck_g.at (hk _ hcont) ⟨o.1, o.2.1.mv hx', h5.imp fun _ _ z => z.mv hx', fun z hz => ?_, o.2.2.2.2⟩ hw' (hx.tr (fun _ z => z) hx') hP1 hD1 hS1 rfl
          rcases o.2.2.2.1 z hz with q1 | ⟨z0, z1, q1, a1, o1, v1, z2, z3, z4, z5⟩ | ⟨y0, y1, y2, y3, y4, y5, q1, a1, cA1, len1, f1, y6, y7, y8⟩
          · exact Or.inl q1
          rotate_left
          · refine Or.inr (Or.inr ⟨y0, y1, y2, y3, y4, y5, q1, a1, cA1, len1, f1, y6, ?_, y8⟩)
            rw [List.getElem?_set_ne (fun eq => by rw [eq] at hq; rw [hq] at y7; cases y7)]
            exact y7
          · have eq : q ≠ q1 := by
              intro eq
              subst eq
              rw [hq] at z3
              cases z3
            exact Or.inr (Or.inl ⟨z0, z1, q1, a1, o1, v1, z2, by rw [List.getElem?_set_ne eq]; exact z3, z4, z5.mv hx'⟩)
        rcases hval with ⟨rfl, z3⟩ | ⟨hrf, hne⟩
        · intro lg hl hg
          refine va_astqN X.1 X.2.1 X.2.2.2.1 hP hD hS q _ hq t1 b1 hdg (fun H1 locs1 hP1 hD1 hS1 => fin none H1 locs1 ?_ hP1 hD1 hS1 lg hl (hg.nx X.2.1 hdg ⟨none, x, a, _, rfl, q, _, cA, f, hq, b2, rfl⟩))
          unfold ck_fo
          rw [z3]
          exact Or.inl rfl
        · obtain ⟨qk, ak, ek, tk, rfl, k1, k2, k3⟩ := id hrf
          rw [Bool.or_eq_true] at h8
          rcases h8 with z | z
          · exact absurd (eq_of_beq z) hne
          have z := List.all_eq_true.mp z tk k3
          rw [Bool.and_eq_true] at z
          obtain ⟨z6, z7⟩ := z
          split at z7
          · rename_i ud hud
            rw [Bool.and_eq_true] at z7
            obtain ⟨ud', i1, i2⟩ := hw.2.1 qk ak ek tk k1 k2
            have e2 : ud' = ud := Option.some.inj (i1.symm.trans hud)
            subst e2
            unfold ck_co at i2
            rw [eq_of_beq z7.1] at i2
            obtain ⟨fs, rfl, -⟩ := i2
            obtain ⟨cA', E, rc, m1, m2, m3⟩ := hal _ (List.contains_iff_mem.mp z7.2)
            have hfo : ck_fo ws sh T (va_rf (some ak)) := by
              have hrf2 : ck_rf ws sh T.2.2.2 (.ref ak) := ⟨qk, ak, _, tk, rfl, k1, k2, List.contains_iff_mem.mp z6⟩
              unfold ck_fo
              rcases hT23 with w | w <;> rw [w]
              · exact hrf2
              · exact Or.inr hrf2
            have et : (cA', FieldType.object E) = (cA, FieldType.object C) := Option.some.inj (m1.symm.trans t1)
            cases et
            intro lg hl hg
            have hgo : ∀ (H1 : Heap) (locs1 : List Loc), va_P D cl (ws.set q (a, .inl (cA, td'.2.1, .inr (.inr (.inr (.inr (va_up f x.toNatClampNeg (some ak)))))))) H1 → va_D A (ws.set q (a, .inl (cA, td'.2.1, .inr (.inr (.inr (.inr (va_up f x.toNatClampNeg (some ak)))))))) → va_S A s.heap H1 locs1 → W p l e R s m args below meth c H1 locs1 (ck_oc R M + S.2.2.2.2.2.1) (ck_os R M + S.2.2.2.2.2.2) Q (F0 m (pc + 1) ls vs2) :=
              fun H1 locs1 hP1 hD1 hS1 => fin (some ak) H1 locs1 hfo hP1 hD1 hS1 lg hl (hg.nx X.2.1 hdg ⟨some ak, x, a, _, rfl, q, _, cA, f, hq, b2, rfl⟩)
            rcases m3 with m3 | m3
            · subst m3
              exact va_astq X.1 X.2.1 X.2.2.2.1 hP hD hS q _ qk ud'.2.1 hq t1 k1 m2 b1 hdg hgo
            · exact va_astqO X.1 X.2.1 X.2.2.2.1 hP hD hS q _ qk ud'.2.1 hq t1 m3 k1 m2 b1 hdg hgo
          · cases z7
      · cases h7
    · cases h6
  · cases h
theorem ck_wno (X : ck_cx p l e R s m args below meth c cc own D cl tys M sc A) {ws : va_W} {w : Nat} (hD : va_D A ws) (hw : sc.2.1 = some w) : f_out ws w := by
  obtain ⟨-, cell, -, -, -, -, -, -, hA⟩ := X.2.2.2.2.2.2.2.2.2 w hw
  exact fun q e' hq => hA (hD.2 q _ hq)
theorem ck_wns (X : ck_cx p l e R s m args below meth c cc own D cl tys M sc A) {w : Nat} (hw : sc.2.1 = some w) : f_nsc (tM M Fc sc.1) w := by
  intro L xs h
  obtain ⟨⟨scr, h1, -, -, h2, h3⟩, -⟩ := X.2.2.2.2.2.2.2.2.1 w L xs h
  obtain ⟨-, cell, g1, -, -, g2, -, g3, -⟩ := X.2.2.2.2.2.2.2.2.2 w hw
  have e0 : scr = cell := Option.some.inj (h1.symm.trans g1)
  subst e0
  have a1 := h3 0 (by omega)
  have a2 := g3 0 (by omega)
  rw [a1] at a2
  cases a2
theorem ck_len_ok (X : ck_cx p l e R s m args below meth c cc own D cl tys M sc A) (h : ck_len M S k = true) (hk : ∀ S, k S = true → ck_g Fc s0 p l e R s m args below meth c Q D cl tys M sc A ws0 sh0 S (pc + 1)) (hdg : decode cc pc = .ok (.arraylength, 1)) : ck_g Fc s0 p l e R s m args below meth c Q D cl tys M sc A ws0 sh0 S pc := by
  intro n ws sh H locs ls vs o hw hx hP hD hS
  unfold ck_len at h
  split at h
  · rename_i r st hst
    have o3 := o.2.2.1
    rw [hst] at o3
    obtain ⟨ra, vs2, rfl, h4, h5⟩ := ck_hd o3
    split at h
    · rename_i e5
      have hv := h4
      unfold ck_vo at hv
      rw [e5] at hv
      obtain ⟨hl, b, L, xs, z1, rfl, z2⟩ := hv
      obtain ⟨y1, y2, y3, y4⟩ := X.2.2.2.2.2.2.2.2.1 b L xs z1
      refine WG.up (fun h => va_slen X.1 X.2.1 y1 y2 y3 hS hdg h) X.2.1 hdg (fun lg => ⟨b, _, rfl, Or.inr (Or.inl ⟨L, xs, z1, rfl⟩)⟩) ((hk _ h).at (o.ss ⟨.mi hl ?_, h5⟩) hw hx hP hD hS rfl)
      rw [z2, Int32.toInt_ofNat_of_lt y4]
    · split at h
      · rename_i e6
        have hv := h4
        unfold ck_vo at hv
        rw [e6] at hv
        obtain ⟨hl, w, z1, rfl⟩ := hv
        obtain ⟨-, y1⟩ := X.2.2.2.2.2.2.2.2.2 w z1
        refine WG.up (fun h => va_tlen X.1 X.2.1 y1 hS rfl hdg h) X.2.1 hdg (fun lg => ⟨w, _, rfl, Or.inr (Or.inr ⟨ck_wns X z1, ck_wno X hD z1, rfl⟩)⟩) (ck_push (hk _ h) o hw hx hP hD hS h5 (z := 6) ⟨Int.le_refl _, Int.le_refl _⟩ (fun _ _ _ g1 g2 => .mi g1 ?_))
        rw [g2]
        decide
      · rw [Bool.and_eq_true] at h
        obtain ⟨-, -, q, a, e', t, rfl, hq, ht, htm⟩ := h4.r (eq_of_beq h.1)
        have h6 := h.2
        split at h6
        · rename_i t0 ts hts
          split at h6
          · rename_i td0 htd0
            rw [Bool.and_eq_true, Bool.and_eq_true] at h6
            have hb := of_decide_eq_true h6.1
            have h7 := List.all_eq_true.mp h6.2.1 t htm
            unfold ck_isn at h7
            split at h7
            · rename_i td f1
              rw [Bool.and_eq_true] at h7
              obtain ⟨td', g1, g2⟩ := hw.2.1 q a e' t hq ht
              have e1 : td' = td := Option.some.inj (g1.symm.trans f1)
              subst e1
              have en := eq_of_beq h7.2
              have key : ∃ (cA : ClassId) (y : vp_A) (ty : FieldType), e' = .inl (cA, y) ∧ y.1 = td'.2.1 ∧ tys[td'.2.2.1]? = some (cA, ty) := by
                simp only [Bool.or_eq_true, beq_iff_eq] at h7
                unfold ck_co at g2
                rcases h7.1 with z | z | z | z | z <;> rw [z] at g2
                · obtain ⟨cA, f, t1, rfl, -⟩ := g2
                  exact ⟨cA, _, _, rfl, rfl, t1⟩
                · obtain ⟨cA, f, t1, rfl⟩ := g2
                  exact ⟨cA, _, _, rfl, rfl, t1⟩
                · obtain ⟨cA, C, f, t1, rfl, -⟩ := g2
                  exact ⟨cA, _, _, rfl, rfl, t1⟩
                · obtain ⟨cA, f, t1, rfl, -⟩ := g2
                  exact ⟨cA, _, _, rfl, rfl, t1⟩
                · obtain ⟨cA, f, t1, rfl, -⟩ := g2
                  exact ⟨cA, _, _, rfl, rfl, t1⟩
              obtain ⟨cA, y, ty, rfl, ey, t1⟩ := key
              refine WG.up (fun h => va_alen X.1 X.2.1 X.2.2.2.1 hP q _ hq t1 rfl hdg h) X.2.1 hdg (fun lg => ⟨a, _, rfl, Or.inl ⟨ck_nsc X hD hq, q, cA, y, hq, rfl⟩⟩) (ck_push (hk _ h6.2.2) o hw hx hP hD hS h5 (z := td0.2.1) ⟨Int.le_refl _, Int.le_refl _⟩ (fun _ _ _ g1 g2 => .mi g1 ?_))
              rw [g2, ey, en, Int32.toInt_ofNat_of_lt hb]
            · cases h7
          · cases h6
        · cases h6
  · cases h
theorem ck_sld_ok (X : ck_cx p l e R s m args below meth c cc own D cl tys M sc A) (h : ck_sld M S k = true) (hk : ∀ S, k S = true → ck_g Fc s0 p l e R s m args below meth c Q D cl tys M sc A ws0 sh0 S (pc + 1)) (hdg : decode cc pc = .ok (.iaload, 1)) : ck_g Fc s0 p l e R s m args below meth c Q D cl tys M sc A ws0 sh0 S pc := by
  intro n ws sh H locs ls vs o hw hx hP hD hS
  unfold ck_sld at h
  split at h
  · rename_i i r st hst
    have o3 := o.2.2.1
    rw [hst] at o3
    obtain ⟨iv, vs1, rfl, h2, h3⟩ := ck_hd o3
    obtain ⟨ra, vs2, rfl, h4, h5⟩ := ck_hd h3
    simp only [Bool.and_eq_true] at h
    obtain ⟨hi, hr, b1, b2, h6⟩ := h
    obtain ⟨hl, x, rfl, ex⟩ := h2.i (eq_of_beq hi)
    have hv := h4
    unfold ck_vo at hv
    rw [eq_of_beq hr] at hv
    obtain ⟨-, b, L, xs, z1, rfl, z2⟩ := hv
    obtain ⟨y1, y2, y3, y4⟩ := X.2.2.2.2.2.2.2.2.1 b L xs z1
    have p1 := ck_ent_ok o.2.2.2.2.1 o.2.2.2.2.2 _ _ _ _ b1
    have p2 := ck_ent_ok o.2.2.2.2.1 o.2.2.2.2.2 _ _ _ _ b2
    rw [o.1.2] at p1
    rw [z2] at p2
    have hn : x.toNatClampNeg = x.toInt.toNat := rfl
    have hin : vp_in x L := by
      rintro (z | z)
      · have := Int32.lt_iff_toInt_lt.mp z
        rw [Int32.toInt_zero] at this
        omega
      · omega
    refine WG.up (fun h => va_sld X.1 X.2.1 y1 y2 y3 hS hin hdg h) X.2.1 hdg (fun lg => ⟨x, b, _, rfl, Or.inr ⟨L, xs, z1, rfl⟩⟩) ?_
    split at h6
    · rename_i mm hmm
      have hm := List.mem_of_find?_eq_some hmm
      have hp := List.find?_some hmm
      simp only [Bool.and_eq_true, beq_iff_eq] at hp
      rcases o.2.2.2.1 mm hm with ⟨w0, w3, ⟨w2, w1, b', L', xs', w4, w5⟩ | ⟨w2, -⟩⟩ | ⟨w0, -⟩ | ⟨-, w0, -⟩
      · rw [z1] at w4
        cases w4
        refine (hk _ h6).at (o.ss ⟨.mi w3 ?_, h5⟩) hw hx hP hD hS rfl
        rw [w5, hp.2.1, ← ex]
        rfl
      · rw [hp.2.2] at w2
        cases w2
      · exact absurd hp.1 w0
      · exact absurd hp.1 w0
    · have o' := o.new h5 (tag := 0) (ts := []) (iv := ck_top 32) (rs := []) (x := ((xs x.toNatClampNeg).toInt, .null)) (v := .int (xs x.toNatClampNeg)) (.mi (Nat.lt_succ_self _) (by rw [ck_nx_eq])) (fun _ => ck_r32 _) (fun r hr => by cases hr)
      refine ck_g.at (hk _ h6) ⟨o'.1, o'.2.1, o'.2.2.1, fun z hz => ?_, o'.2.2.2.2⟩ hw hx hP hD hS rfl
      rcases List.mem_cons.mp hz with rfl | hz
      · have hlen : (S.2.2.2.1 ++ [ck_top 32]).length = S.2.2.2.1.length + 1 := by simp
        refine Or.inl ⟨rfl, ?_, Or.inl ⟨rfl, ?_, b, L, xs, z1, ?_⟩⟩
        · show S.2.2.2.1.length < (S.2.2.2.1 ++ [ck_top 32]).length
          omega
        · show i.2.1 < (S.2.2.2.1 ++ [ck_top 32]).length
          omega
        · rw [ck_nx_eq, ck_nx_lt _ hl, ← ex]
          rfl
      · exact o'.2.2.2.1 z hz
  · cases h
theorem ck_wld_ok (X : ck_cx p l e R s m args below meth c cc own D cl tys M sc A) (h : ck_wld M S k = true) (hk : ∀ S, k S = true → ck_g Fc s0 p l e R s m args below meth c Q D cl tys M sc A ws0 sh0 S (pc + 1)) (hdg : decode cc pc = .ok (.laload, 1)) : ck_g Fc s0 p l e R s m args below meth c Q D cl tys M sc A ws0 sh0 S pc := by
  intro n ws sh H locs ls vs o hw hx hP hD hS
  unfold ck_wld at h
  split at h
  · rename_i i r st hst
    have o3 := o.2.2.1
    rw [hst] at o3
    obtain ⟨iv, vs1, rfl, h2, h3⟩ := ck_hd o3
    obtain ⟨ra, vs2, rfl, h4, h5⟩ := ck_hd h3
    simp only [Bool.and_eq_true] at h
    obtain ⟨hi, hr, b1, h6⟩ := h
    obtain ⟨hl, x, rfl, ex⟩ := h2.i (eq_of_beq hi)
    have hv := h4
    unfold ck_vo at hv
    rw [eq_of_beq hr] at hv
    obtain ⟨-, w, z1, rfl⟩ := hv
    obtain ⟨-, y1⟩ := X.2.2.2.2.2.2.2.2.2 w z1
    obtain ⟨c1, c2⟩ := ck_bd_ok o b1 ex
    exact WG.up (fun h => va_tl X.1 X.2.1 y1 hS c1 rfl hdg h) X.2.1 hdg (fun lg => ⟨x, w, _, rfl, Or.inr ⟨ck_wno X hD z1, rfl⟩⟩) (ck_push (hk _ h6) o hw hx hP hD hS h5 (z := (fw_v x.toNatClampNeg).toInt) (ck_r64 _) (fun _ _ _ g1 g2 => .ml g1 (by rw [g2])))
  · cases h
theorem ck_gst_ok (X : ck_cx p l e R s m args below meth c cc own D cl tys M sc A) {i : Nat} (hgl : ck_hs s args own sc i) (hk : ck_g Fc s0 p l e R s m args below meth c Q D cl tys M sc A ws0 sh0 (ck_new S S.2.1 6 [] (1, 0) []) (pc + 3)) (hdg : decode cc pc = .ok (.getstatic i, 3)) : ck_g Fc s0 p l e R s m args below meth c Q D cl tys M sc A ws0 sh0 S pc := by
  intro n ws sh H locs ls vs o hw hx hP hD hS
  obtain ⟨h1, ref, h2, h3⟩ := hgl
  obtain ⟨w, hw1⟩ := Option.isSome_iff_exists.mp h1
  obtain ⟨y1, -⟩ := X.2.2.2.2.2.2.2.2.2 w hw1
  refine WG.up (fun h => va_gets X.1 X.2.1 y1 hS X.2.2.1 h2 h3 hdg h) X.2.1 hdg (fun lg => ⟨w, ck_wno X hD hw1, ck_wns X hw1, rfl⟩) (hk.at (o.new o.2.2.1 (x := (0, .null)) ⟨Nat.lt_succ_self _, w, hw1, rfl⟩ (fun z => absurd z (by decide)) (fun r hr => by cases hr)) hw hx hP hD hS rfl)
theorem ck_mk_ok (X : ck_cx p l e R s m args below meth c cc own D cl tys M sc A) (hnl : ∀ x ∈ mnw M, ck_hn s args own cl (mTT M) x) {i : Nat} (h : ck_mk M i S k = true) (hk : ∀ S, k S = true → ck_g Fc s0 p l e R s m args below meth c Q D cl tys M sc A ws0 sh0 S (pc + 3)) (hdg : decode cc pc = .ok (.new i, 3)) : ck_g Fc s0 p l e R s m args below meth c Q D cl tys M sc A ws0 sh0 S pc := by
  intro n ws sh H locs ls vs o hw hx hP hD hS
  unfold ck_mk at h
  split at h
  · rename_i x hfx
    have hm := List.mem_of_find?_eq_some hfx
    have hp := List.find?_some hfx
    have ei : x.1 = i := eq_of_beq hp
    split at h
    · rename_i td htd
      simp only [Bool.and_eq_true, Bool.not_eq_true', decide_eq_true_eq, beq_iff_eq] at h
      obtain ⟨f1, f2, f3, f4, f5, f6, f7, hcont⟩ := h
      obtain ⟨C, T, Ts, ty, l1, l2, l3, l4, l5, l6, l7, l8⟩ := hnl x hm
      rw [ei] at l4
      have hfs : ∀ j, j < x.2.2.2 → defaultValue (ty j) = vp_V ((List.range x.2.2.2).map fun j => defaultValue (ty j)) j := fun j hj => by simp [vp_V, hj]
      intro lg hlg hgr
      refine va_new X.1 X.2.1 l1 l2 ty l3 X.2.2.1 l4 l5 l6 X.2.2.2.1 hP hD hS X.2.2.2.2.1 l7 hfs (ck_ocl X.2.2.2.2.2.2.1.1 f6) (ck_osl X.2.2.2.2.2.2.1.2 f7) hdg (fun q H1 hP1 hD1 hS1 => ?_)
      rw [Nat.add_assoc (ck_oc R M), Nat.add_assoc (ck_os R M)]
      have hxn : ck_ex (mWr M) ws sh (ws ++ [(q, .inr (x.2.1, (List.range x.2.2.2).map fun j => defaultValue (ty j)))]) (sh ++ [x.2.2.1]) := by
        refine ⟨fun q t ht => ?_, fun q a e t hq ht => ?_⟩
        · rw [List.getElem?_append_left (List.getElem?_eq_some_iff.mp ht).1]; exact ht
        · exact ⟨e, by rw [List.getElem?_append_left (List.getElem?_eq_some_iff.mp hq).1]; exact hq, ck_sm.rf⟩
      have hnewq : (ws ++ [(q, .inr (x.2.1, (List.range x.2.2.2).map fun j => defaultValue (ty j)))] : va_W)[ws.length]? = some (q, .inr (x.2.1, (List.range x.2.2.2).map fun j => defaultValue (ty j))) := by simp
      have hnews : (sh ++ [x.2.2.1])[ws.length]? = some x.2.2.1 := by rw [← hw.1]; simp
      have hsg : x.2.2.1 ∉ mSG M := fun z => by
        rw [List.contains_iff_mem.mpr z] at f5
        cases f5
      have hw' : ck_wo tys (mTT M) (mSG M) (ws ++ [(q, .inr (x.2.1, (List.range x.2.2.2).map fun j => defaultValue (ty j)))]) (sh ++ [x.2.2.1]) := by
        refine ⟨by simp [hw.1], fun r b u t hr ht => ?_, fun t ht r1 r2 h1 h2 => ?_⟩
        · by_cases hlt : r < ws.length
          · rw [List.getElem?_append_left hlt] at hr
            rw [List.getElem?_append_left (by rw [hw.1]; exact hlt)] at ht
            obtain ⟨td', g1, g2⟩ := hw.2.1 r b u t hr ht
            exact ⟨td', g1, g2.mv hxn⟩
          · have er : r = ws.length := by
              have := (List.getElem?_eq_some_iff.mp hr).1
              simp at this
              omega
            subst er
            rw [hnewq] at hr
            rw [hnews] at ht
            cases hr
            cases ht
            refine ⟨td, htd, ?_⟩
            unfold ck_co
            rw [f1]
            refine ⟨_, by rw [f2], by simp [f3], fun j tj hj => ?_⟩
            have hjl : j < x.2.2.2 := by rw [← f3]; exact (List.getElem?_eq_some_iff.mp hj).1
            refine ⟨defaultValue (ty j), by simp [hjl], ?_⟩
            obtain ⟨d1, d2⟩ := l8 td htd j tj hj
            have hd := List.all_eq_true.mp f4 tj (List.mem_of_getElem? hj)
            unfold ck_dft at hd
            unfold ck_fo
            split at hd
            · rename_i e0
              rw [Bool.and_eq_true, decide_eq_true_eq, decide_eq_true_eq] at hd
              rw [e0, d1 e0]
              exact ⟨0, rfl, by rw [Int32.toInt_zero]; exact hd.1, by rw [Int32.toInt_zero]; exact hd.2⟩
            · rename_i e3
              rw [e3, d2 e3]
              exact Or.inl rfl
            · cases hd
        · have key : ∀ r : Nat, (sh ++ [x.2.2.1])[r]? = some t → sh[r]? = some t := by
            intro r hr
            by_cases hlt : r < sh.length
            · rw [List.getElem?_append_left hlt] at hr
              exact hr
            · have er : r = ws.length := by
                have := (List.getElem?_eq_some_iff.mp hr).1
                simp at this
                rw [hw.1] at this hlt
                omega
              subst er
              rw [hnews] at hr
              cases hr
              exact absurd ht hsg
          exact hw.2.2 t ht r1 r2 (key r1 h1) (key r2 h2)
      have hl : (S.2.2.2.1 ++ [((1 : Int), (0 : Int))]).length = S.2.2.2.1.length + 1 := by simp
      refine (hk _ hcont) (ck_nx n S.2.2.2.1.length (0, .ref q)) _ _ H1 locs ls (.ref q :: vs) ⟨⟨?_, ?_⟩, ?_, ⟨?_, ?_⟩, ?_, ?_, ?_⟩ hw' (hx.tr (fun _ z => z) hxn) hP1 hD1 hS1 lg hlg (hgr.nx X.2.1 hdg ⟨q, _, _, _, ty, by rw [← ei]; exact hm, hD1.1, rfl⟩)
      · show 0 < (S.2.2.2.1 ++ [((1 : Int), (0 : Int))]).length
        omega
      · rw [ck_nx_lt 0 o.1.1]; exact o.1.2
      · show ck_lo _ _ sc _ (S.2.2.2.1 ++ [((1 : Int), (0 : Int))]).length _ S.1 ls
        rw [hl]
        exact (o.2.1.mv hxn).up ck_nx_lt (Nat.le_succ _)
      · show ck_vo _ _ sc _ (S.2.2.2.1 ++ [((1 : Int), (0 : Int))]).length _ _
        rw [hl]
        exact ⟨Nat.lt_succ_self _, by rw [ck_nx_eq], ws.length, q, _, x.2.2.1, rfl, hnewq, hnews, List.mem_singleton.mpr rfl⟩
      · show ck_two (ck_vo _ _ sc _ (S.2.2.2.1 ++ [((1 : Int), (0 : Int))]).length) _ _
        rw [hl]
        exact o.2.2.1.imp fun _ _ z => (z.mv hxn).up ck_nx_lt (Nat.le_succ _)
      · show ck_mo _ _ _ sc _ (S.2.2.2.1 ++ [((1 : Int), (0 : Int))]).length _
        rw [hl]
        intro z hz
        obtain ⟨hz1, -⟩ := List.mem_filter.mp hz
        rcases o.2.2.2.1 z hz1 with ⟨w0, w3, ⟨w2, w1, b', L', xs', w4, w5⟩ | ⟨w2, w4⟩⟩ | ⟨z0, z1, q1, a1, o1, v1, z2, z3, z4, z5⟩ | hy
        · exact Or.inl ⟨w0, Nat.lt_succ_of_lt w3, Or.inl ⟨w2, Nat.lt_succ_of_lt w1, b', L', xs', w4, by rw [ck_nx_lt _ w1, ck_nx_lt _ w3]; exact w5⟩⟩
        · exact Or.inl ⟨w0, Nat.lt_succ_of_lt w3, Or.inr ⟨w2, by rw [ck_nx_lt _ w3]; exact w4⟩⟩
        · exact Or.inr (Or.inl ⟨z0, z1, q1, a1, o1, v1, by rw [List.getElem?_append_left (List.getElem?_eq_some_iff.mp z2).1]; exact z2, by rw [List.getElem?_append_left (List.getElem?_eq_some_iff.mp z3).1]; exact z3, z4, (z5.mv hxn).up ck_nx_lt (Nat.le_succ _)⟩)
        · obtain ⟨y0, y1, y2, y3, y4, y5, q1, a1, cA1, len1, f1, y6, y7, y8⟩ := hy
          refine Or.inr (Or.inr ⟨y0, y1, y2, y3, Nat.lt_succ_of_lt y4, fun j hj => Nat.lt_succ_of_lt (y5 j hj), q1, a1, cA1, len1, f1, by rw [List.getElem?_append_left (List.getElem?_eq_some_iff.mp y6).1]; exact y6, by rw [List.getElem?_append_left (List.getElem?_eq_some_iff.mp y7).1]; exact y7, ?_⟩)
          rw [ck_nx_lt _ y4, List.map_congr_left (g := fun j => (n j).1) (fun j hj => by rw [ck_nx_lt _ (y5 j hj)])]
          exact y8
      · exact o.2.2.2.2.1.add (fun z => absurd z (by decide))
      · show ck_ro S.2.2.2.2.1 _ (S.2.2.2.1 ++ [((1 : Int), (0 : Int))]).length
        rw [hl]
        exact o.2.2.2.2.2.up ck_nx_lt (Nat.le_succ _)
    · cases h
  · cases h
end
end
