noncomputable section
/-! the rows of the tables, and what they say -/
def ck_hg (s : State) (args : Array Value) (own : String) (cl : List vw_C) (x : Nat × Nat × Nat) : Prop := ∃ (C : String) (T : u_T) (N : Nat) (ref : String) (Ts : List Cond), (∀ w ∈ Ts, w.before args s = true) ∧ (∀ w ∈ u_ws C T N, w ∈ Ts) ∧ cl[x.2.1]? = some (C, T, N) ∧ x.2.2 < N ∧
  ((Cond.fieldLink own x.1 ref (T x.2.2).2.1 (T x.2.2).2.2.1).before args s = true ∨ ∃ host, (Cond.fieldLinkNest own x.1 ref (T x.2.2).2.1 (T x.2.2).2.2.1 host).before args s = true) ∧ ∀ y, s.fieldFound? (T x.2.2).1 (T x.2.2).2.1 (T x.2.2).2.2.1 = some y → s.fieldFound? ref (T x.2.2).2.1 (T x.2.2).2.2.1 = some y
def ck_hp (s : State) (args : Array Value) (own : String) (cl : List vw_C) (init : Prop) (x : Nat × Nat × Nat × Nat) : Prop := ∃ (C : String) (T : u_T) (N : Nat) (ref : String) (Ts : List Cond) (ty0 : Nat → FieldType), (∀ w ∈ Ts, w.before args s = true) ∧ (∀ w ∈ u_ws C T N, w ∈ Ts) ∧ (∀ k, k < N → parseFieldDescriptor (T k).2.2.1 = some (ty0 k)) ∧ (∀ a, a < N → ∀ b, b < N → a ≠ b → (T a).2.1 ≠ (T b).2.1) ∧ cl[x.2.1]? = some (C, T, N) ∧ x.2.2.1 < N ∧
  (((Cond.fieldLink own x.1 ref (T x.2.2.1).2.1 (T x.2.2.1).2.2.1).before args s = true ∧ ((T x.2.2.1).2.2.2 = false ∨ ((T x.2.2.1).2.2.2 = true ∧ init ∧ (T x.2.2.1).1 = own))) ∨ ((T x.2.2.1).2.2.2 = false ∧ ∃ host, (Cond.fieldLinkNest own x.1 ref (T x.2.2.1).2.1 (T x.2.2.1).2.2.1 host).before args s = true)) ∧
  (∀ y, s.fieldFound? (T x.2.2.1).1 (T x.2.2.1).2.1 (T x.2.2.1).2.2.1 = some y → s.fieldFound? ref (T x.2.2.1).2.1 (T x.2.2.1).2.2.1 = some y) ∧
  (match x.2.2.2 with
    | 0 => ty0 x.2.2.1 = .int
    | 1 => ty0 x.2.2.1 = .boolean
    | _ => (∃ C, ty0 x.2.2.1 = .object C) ∨ ∃ t, ty0 x.2.2.1 = .array t)
theorem ck_wo_set {tys : List (ClassId × FieldType)} {TT : List ck_D} {SG : List Nat} {Wr : List (Nat × Nat)} {ws : va_W} {sh : List Nat} (h : ck_wo tys TT SG ws sh) {q a t : Nat} {e e' : va_E} (hq : ws[q]? = some (a, e)) (ht : sh[q]? = some t) (hs : ck_sm Wr t e e') {td : ck_D} (hd : TT[t]? = some td) (hc : ck_co tys ws sh td e') :
    ck_wo tys TT SG (ws.set q (a, e')) sh ∧ ck_ex Wr ws sh (ws.set q (a, e')) sh := by
  have hlt : q < ws.length := (List.getElem?_eq_some_iff.mp hq).1
  have hx : ck_ex Wr ws sh (ws.set q (a, e')) sh := by
    refine ⟨fun _ _ h => h, fun r b u v hr hv => ?_⟩
    rw [List.getElem?_set]
    by_cases eq : q = r
    · subst eq
      rw [hq] at hr
      rw [ht] at hv
      cases hr
      cases hv
      exact ⟨e', by simp [hlt], hs⟩
    · exact ⟨u, by rw [if_neg eq]; exact hr, ck_sm.rf⟩
  refine ⟨⟨by rw [List.length_set]; exact h.1, fun r b u v hr hv => ?_, h.2.2⟩, hx⟩
  rw [List.getElem?_set] at hr
  by_cases eq : q = r
  · subst eq
    rw [if_pos rfl, if_pos hlt, Option.some.injEq] at hr
    rw [ht] at hv
    cases hr
    cases hv
    exact ⟨td, hd, hc.mv hx⟩
  · rw [if_neg eq] at hr
    obtain ⟨td', h1, h2⟩ := h.2.1 r b u v hr hv
    exact ⟨td', h1, h2.mv hx⟩
theorem ck_jts_ok {ws : va_W} {sh : List Nat} {f : Nat → Option ck_T} : ∀ {ts : List Nat} {T : ck_T}, ck_jts f ts = some T → ∀ t ∈ ts, ∃ y, f t = some y ∧ ∀ v, ck_fo ws sh y v → ck_fo ws sh T v
  | [], _, h, _, _ => by cases h
  | [t], T, h, u, hu => by
    rw [List.mem_singleton.mp hu]
    exact ⟨T, h, fun _ q => q⟩
  | t :: t2 :: ts, T, h, u, hu => by
    rw [ck_jts] at h
    · split at h
      · rename_i a b ha hb
        have key : (∀ v, ck_fo ws sh a v → ck_fo ws sh T v) ∧ (∀ v, ck_fo ws sh b v → ck_fo ws sh T v) := by
          unfold ck_jt at h
          split at h
          · rename_i h0
            have e := Option.some.inj h
            subst e
            refine ⟨fun v hv => ?_, fun v hv => ?_⟩
            · unfold ck_fo at hv
              rw [h0.1] at hv
              obtain ⟨x, rfl, h1, h2⟩ := hv
              refine ⟨x, rfl, ?_, ?_⟩
              · have p := (ck_le_min.mp (Int.le_refl (ck_min a.2.1 b.2.1))).1
                show ck_min a.2.1 b.2.1 ≤ _
                omega
              · have p := (ck_max_le.mp (Int.le_refl (ck_max a.2.2.1 b.2.2.1))).1
                show _ ≤ ck_max a.2.2.1 b.2.2.1
                omega
            · unfold ck_fo at hv
              rw [h0.2] at hv
              obtain ⟨x, rfl, h1, h2⟩ := hv
              refine ⟨x, rfl, ?_, ?_⟩
              · have p := (ck_le_min.mp (Int.le_refl (ck_min a.2.1 b.2.1))).2
                show ck_min a.2.1 b.2.1 ≤ _
                omega
              · have p := (ck_max_le.mp (Int.le_refl (ck_max a.2.2.1 b.2.2.1))).2
                show _ ≤ ck_max a.2.2.1 b.2.2.1
                omega
          · split at h
            · rename_i h1
              have e := Option.some.inj h
              subst e
              subst h1
              exact ⟨fun _ q => q, fun _ q => q⟩
            · cases h
        rcases List.mem_cons.mp hu with rfl | hu
        · exact ⟨a, ha, key.1⟩
        · obtain ⟨y, h1, h2⟩ := ck_jts_ok hb u hu
          exact ⟨y, h1, fun v hv => key.2 v (h2 v hv)⟩
      · cases h
    · intro z
      cases z
section
variable {p : Program} {l : Launch} {e : Env} {R : Room} {s : State} {m : MethodId} {args : Array Value} {below : List Frame} {meth : Method} {c : Code} {Q : State → Prop} {cc : ByteArray} {own : String} {D : va_G} {cl : List vw_C} {tys : List (ClassId × FieldType)} {M : ck_Me} {sc : ck_sc} {A : Nat → Prop} {ws0 : va_W} {sh0 : List Nat} {Fc : Nat → Nat × fR} {s0 : fS} {k : ck_S → Bool} {S : ck_S} {pc pc' : Nat}
theorem ck_pt_ok {nL : Nat} {SG : List Nat} {n : ck_N} {ws : va_W} {sh : List Nat} {ls : Array Slot} {vs vs' : List Value} {st : List ck_V} {T : ck_T} {S' : ck_S} (h : ck_pt S st T = some S') (o : ck_so nL SG S n ws sh sc ls vs) (hs : ck_two (ck_vo ws sh sc n S.2.2.2.1.length) st vs') {v : Value} (hv : ck_fo ws sh T v) :
    ∃ n', ck_so nL SG S' n' ws sh sc ls (v :: vs') ∧ S'.2.2.2.2.2 = S.2.2.2.2.2 := by
  unfold ck_pt at h
  unfold ck_fo at hv
  split at h
  · rename_i e
    rw [e] at hv
    obtain ⟨x, rfl, h1, h2⟩ := hv
    have e := Option.some.inj h
    subst e
    exact ⟨_, o.new hs (x := (x.toInt, .null)) (.mi (Nat.lt_succ_self _) (by rw [ck_nx_eq])) (fun _ => ⟨h1, h2⟩) (fun r hr => by cases hr), rfl⟩
  · rename_i e
    rw [e] at hv
    obtain ⟨x, rfl⟩ := hv
    have e := Option.some.inj h
    subst e
    exact ⟨_, o.new hs (x := (x.toInt, .null)) (.ml (Nat.lt_succ_self _) (by rw [ck_nx_eq])) (fun _ => ck_r64 x) (fun r hr => by cases hr), rfl⟩
  · rename_i e
    rw [e] at hv
    have e := Option.some.inj h
    subst e
    exact ⟨_, o.new hs (x := (0, v)) ⟨Nat.lt_succ_self _, by rw [ck_nx_eq], hv⟩ (fun z => absurd z (by decide)) (fun r hr => by cases hr), rfl⟩
  · rename_i e
    rw [e] at hv
    have e := Option.some.inj h
    subst e
    exact ⟨_, o.new hs (x := (0, v)) ⟨Nat.lt_succ_self _, by rw [ck_nx_eq], hv⟩ (fun z => absurd z (by decide)) (fun r hr => by cases hr), rfl⟩
  · cases h
theorem ck_ft_ok {i t k : Nat} {y : ck_T} (h : ck_ft M i t = some (k, y)) : ∃ td ci, (mTT M)[t]? = some td ∧ td.1 = 0 ∧ td.2.1 = ci ∧ (i, ci, k) ∈ mfl M ∧ td.2.2.2[k]? = some y := by
  unfold ck_ft at h
  split at h
  · rename_i td htd
    split at h
    · rename_i h0
      split at h
      · rename_i x hx
        have hm := List.mem_of_find?_eq_some hx
        have hp := List.find?_some hx
        simp only [Bool.and_eq_true, beq_iff_eq] at hp
        cases hy : td.2.2.2[x.2.2]? with
        | none => rw [hy] at h; cases h
        | some z =>
          rw [hy] at h
          have e := Option.some.inj h
          have e1 : x.2.2 = k := congrArg Prod.fst e
          have e2 : z = y := congrArg Prod.snd e
          subst e1
          subst e2
          refine ⟨td, x.2.1, htd, h0, hp.2.symm, ?_, hy⟩
          rw [← hp.1]
          exact hm
      · cases h
    · cases h
  · cases h
theorem ck_get_ok (X : ck_cx p l e R s m args below meth c cc own D cl tys M sc A) (hfl : ∀ x ∈ mfl M, ck_hg s args own cl x) {i : Nat} (h : ck_get M i S k = true) (hk : ∀ S, k S = true → ck_g Fc s0 p l e R s m args below meth c Q D cl tys M sc A ws0 sh0 S (pc + 3)) (hdg : decode cc pc = .ok (.getfield i, 3)) : ck_g Fc s0 p l e R s m args below meth c Q D cl tys M sc A ws0 sh0 S pc := by
  intro n ws sh H locs ls vs o hw hx hP hD hS
  obtain ⟨x1, x2, x3, x4, x5, -⟩ := X
  unfold ck_get at h
  split at h
  · rename_i r st hst
    have o3 := o.2.2.1
    rw [hst] at o3
    obtain ⟨v, vs', rfl, h2, h3⟩ := ck_hd o3
    rw [Bool.and_eq_true] at h
    obtain ⟨-, -, q, a, e, t, rfl, hq, ht, htm⟩ := h2.r (eq_of_beq h.1)
    have h4 := h.2
    split at h4
    · rename_i T hT
      obtain ⟨y, hy, hyT⟩ := ck_jts_ok (ws := ws) (sh := sh) hT t htm
      obtain ⟨⟨k0, y'⟩, hf, rfl⟩ : ∃ z, ck_ft M i t = some z ∧ z.2 = y := by
        cases hf : ck_ft M i t with
        | none => rw [hf] at hy; cases hy
        | some z => rw [hf] at hy; exact ⟨z, rfl, Option.some.inj hy⟩
      obtain ⟨td, ci, f1, f2, f3, f4, f5⟩ := ck_ft_ok hf
      obtain ⟨td', g1, g2⟩ := hw.2.1 q a e t hq ht
      have e1 : td' = td := Option.some.inj (g1.symm.trans f1)
      subst e1
      unfold ck_co at g2
      rw [f2] at g2
      obtain ⟨fs, rfl, g3, g4⟩ := g2
      rw [f3] at hq
      obtain ⟨v, g5, g6⟩ := g4 k0 y' f5
      obtain ⟨C, T0, N0, ref, Ts, l1, l2, l3, l4, l5, l6⟩ := hfl _ f4
      have row : ∀ vs, WG (tM M Fc sc.1) s0 p l e R s m args below meth c ws sh H locs (ck_oc R M + S.2.2.2.2.2.1) (ck_os R M + S.2.2.2.2.2.2) Q ((pc + 3), ls, (v :: vs)) → WG (tM M Fc sc.1) s0 p l e R s m args below meth c ws sh H locs (ck_oc R M + S.2.2.2.2.2.1) (ck_os R M + S.2.2.2.2.2.2) Q (pc, ls, (.ref a :: vs)) := by
        intro vs hW
        rcases l5 with l5 | ⟨host, l5⟩
        · exact WG.up (fun h => va_get x1 x2 l1 l2 x3 x4 hP q hq l3 k0 l4 l5 l6 g5 hdg h) x2 hdg (fun lg => ⟨a, _, q, _, k0, _, v, rfl, hq, f4, g5, rfl⟩) hW
        · exact WG.up (fun h => va_getN x1 x2 l1 l2 x3 x4 hP q hq l3 k0 l4 l5 l6 g5 hdg h) x2 hdg (fun lg => ⟨a, _, q, _, k0, _, v, rfl, hq, f4, g5, rfl⟩) hW
      refine row vs' ?_
      have hvT := hyT v g6
      split at h4
      · rename_i t1 ht1
        rw [ht1] at htm
        have e2 := List.mem_singleton.mp htm
        subst e2
        rw [hf] at h4
        dsimp only at h4
        split at h4
        · rename_i w hw1
          unfold ck_mfind at hw1
          cases hfi : S.2.2.1.find? (fun m => m.1 == t && (m.2.1 == k0 && !(m.1 == 0))) with
          | none => rw [hfi] at hw1; cases hw1
          | some mm =>
            rw [hfi] at hw1
            have e3 : mm.2.2 = w := Option.some.inj hw1
            subst e3
            have hm := List.mem_of_find?_eq_some hfi
            have hp := List.find?_some hfi
            simp only [Bool.and_eq_true, beq_iff_eq, Bool.not_eq_true', beq_eq_false_iff_ne, ne_eq] at hp
            rcases o.2.2.2.1 mm hm with ⟨z, -⟩ | ⟨-, z1, q1, a1, o1, v1, z2, z3, z4, z5⟩ | ⟨-, -, z1, -, -, -, q1, a1, cA1, len1, f1, z2, z3, -⟩
            · exact absurd z hp.2.2
            rotate_left
            · have e4 := hw.2.2 mm.1 z1 q1 q z2 (by rw [hp.1]; exact ht)
              subst e4
              rw [hq] at z3
              cases z3
            · have e4 := hw.2.2 mm.1 z1 q1 q z2 (by rw [hp.1]; exact ht)
              subst e4
              rw [hq] at z3
              cases z3
              have e5 : v = v1 := by
                rw [hp.2.1] at z4
                exact Option.some.inj (g5.symm.trans z4)
              subst e5
              exact (hk _ h4).at (o.ss ⟨z5, h3⟩) hw hx hP hD hS rfl
        · split at h4
          · rename_i S' hS'
            obtain ⟨n', o', ec⟩ := ck_pt_ok hS' o h3 hvT
            split at h4
            · rename_i hsg
              split at h4
              · rename_i w st2 hst2
                have o5 := o'.2.2.1
                rw [hst2] at o5
                refine ck_g.at (S' := (S'.1, S'.2.1, (t, k0, w) :: S'.2.2.1, S'.2.2.2)) (hk _ h4) ⟨o'.1, o'.2.1, o'.2.2.1, fun z hz => ?_, o'.2.2.2.2⟩ hw hx hP hD hS ec
                rcases List.mem_cons.mp hz with rfl | hz
                · rw [Bool.and_eq_true, Bool.not_eq_true', beq_eq_false_iff_ne] at hsg
                  exact Or.inr (Or.inl ⟨hsg.2, List.contains_iff_mem.mp hsg.1, q, a, _, v, ht, hq, g5, o5.1⟩)
                · exact o'.2.2.2.1 z hz
              · cases h4
            · exact (hk _ h4).at o' hw hx hP hD hS ec
          · cases h4
      · split at h4
        · rename_i S' hS'
          obtain ⟨n', o', ec⟩ := ck_pt_ok hS' o h3 hvT
          exact (hk _ h4).at o' hw hx hP hD hS ec
        · cases h4
    · cases h4
  · cases h
end
end
