noncomputable section
/-! an array's content, by its note: loads and stores at a known place; a contract by parts with cases of their own -/
def ck_k1 (E : ck_E) (i : Nat) : Option Nat := match E[i]? with
  | some iv => if iv.1 = iv.2 ∧ 0 ≤ iv.1 then some iv.1.toNat else none
  | none => none
theorem ck_k1_ok {E : ck_E} {n : ck_N} {i z : Nat} (h : ck_k1 E i = some z) (he : ck_eo E n) : (n i).1 = (z : Int) := by
  unfold ck_k1 at h
  split at h
  · rename_i iv hiv
    split at h
    · rename_i hc
      have e := Option.some.inj h
      have p := he i iv hiv (by omega)
      omega
    · cases h
  · cases h
def ck_sCl (F t len : Nat) (S : ck_S) : Option (List ck_S) := match S.2.1 with
  | i :: r :: st => if i.1 = 0 ∧ r.1 = 2 ∧ r.2.2 = [t] ∧ ck_ent S.2.2.2.1 S.2.2.2.2.1 F 0 i.2.1 0 = true ∧ ck_ent S.2.2.2.1 S.2.2.2.2.1 F i.2.1 0 ((len : Int) - 1) = true then (match ck_k1 S.2.2.2.1 i.2.1, ck_fn t 50 S with
    | some z, some y => (match y.2[z]? with
      | some k => some [(S.1, (0, k, []) :: st, S.2.2)]
      | none => none)
    | _, _ => none) else none
  | _ => none
def ck_sCs (F t len : Nat) (lo hi : Int) (S : ck_S) : Option (List ck_S) := match S.2.1 with
  | v :: i :: r :: st => if v.1 = 0 ∧ i.1 = 0 ∧ r.1 = 2 ∧ r.2.2 = [t] ∧ ck_ent S.2.2.2.1 S.2.2.2.2.1 F 0 i.2.1 0 = true ∧ ck_ent S.2.2.2.1 S.2.2.2.2.1 F i.2.1 0 ((len : Int) - 1) = true ∧ ck_ent S.2.2.2.1 S.2.2.2.2.1 F v.2.1 0 hi = true ∧ ck_ent S.2.2.2.1 S.2.2.2.2.1 F 0 v.2.1 (-lo) = true then (match ck_k1 S.2.2.2.1 i.2.1, ck_fn t 50 S with
    | some z, some y => some [(S.1, st, (t, 0, (50, y.1, y.2.set z v.2.1)) :: S.2.2.1.filter (fun m => !(m.1 == t)), S.2.2.2)]
    | _, _ => none) else none
  | _ => none
section
variable {Fc : Nat → Nat × fR} {s0 : fS} {p : Program} {l : Launch} {e : Env} {R : Room} {s : State} {m : MethodId} {args : Array Value} {below : List Frame} {meth : Method} {c : Code} {Q : State → Prop} {cc : ByteArray} {own : String} {D : va_G} {cl : List vw_C} {tys : List (ClassId × FieldType)} {M : ck_Me} {sc : ck_sc} {A : Nat → Prop} {ws0 : va_W} {sh0 : List Nat} {S : ck_S} {pc : Nat}
theorem ck_sCl_ok (X : ck_cx p l e R s m args below meth c cc own D cl tys M sc A) {F t len k0 : Nat} {T : ck_T} (hTT : (mTT M)[t]? = some (1, len, k0, [T])) {L : List ck_S} (h : ck_sCl F t len S = some L) (hk : ∀ S' ∈ L, ck_g Fc s0 p l e R s m args below meth c Q D cl tys M sc A ws0 sh0 S' (pc + 1)) (hdg : decode cc pc = .ok (.iaload, 1)) : ck_g Fc s0 p l e R s m args below meth c Q D cl tys M sc A ws0 sh0 S pc := by
  intro n ws sh H locs ls vs o hw hx hP hD hS
  unfold ck_sCl at h
  split at h
  · rename_i i r st hst
    split at h
    · rename_i hc
      split at h
      · rename_i z y hz hy
        split at h
        · rename_i k hky
          have eL := Option.some.inj h
          refine ck_ird X hTT hst hc hdg o hw hP hD (fun q a cA f vs2 hq ht hil hn0 hn1 hb h5 => ?_)
          obtain ⟨x, hx1, x1, x2, x3, x4⟩ := ck_fn_ok hy
          obtain ⟨g1, g2, g3, g4, cA', len', f', e1, g5⟩ := ck_note o hx1 x1 x2 (by decide) hw.2.2 hq ht
          cases e1
          have g5 : ∀ (i : Nat) (z : Int), (x.2.2.2.2.map (fun j => (n j).1))[i]? = some z → (f i).toInt = z := g5
          have hzi := ck_k1_ok hz o.2.2.2.2.1
          have hmem : k ∈ x.2.2.2.2 := by rw [x4]; exact List.mem_of_getElem? hky
          have hv := g5 z (n k).1 (by rw [List.getElem?_map, x4, hky]; rfl)
          have ez : (n i.2.1).1.toNat = z := by omega
          rw [ez]
          exact (hk (S.1, (0, k, []) :: st, S.2.2) (by rw [← eL]; exact List.mem_cons_self)).at (S := S) (o.ss (st := (0, k, []) :: st) ⟨.mi (g4 k hmem) hv, h5⟩) hw hx hP hD hS rfl
        · cases h
      · cases h
    · cases h
  · cases h
theorem ck_sCs_ok (X : ck_cx p l e R s m args below meth c cc own D cl tys M sc A) {F t len k0 : Nat} {lo hi : Int} {ts : List Nat} (hTT : (mTT M)[t]? = some (1, len, k0, [(0, lo, hi, ts)])) (hW : (t, 0) ∈ mWr M) {L : List ck_S} (h : ck_sCs F t len lo hi S = some L) (hk : ∀ S' ∈ L, ck_g Fc s0 p l e R s m args below meth c Q D cl tys M sc A ws0 sh0 S' (pc + 1)) (hdg : decode cc pc = .ok (.iastore, 1)) : ck_g Fc s0 p l e R s m args below meth c Q D cl tys M sc A ws0 sh0 S pc := by
  intro n ws sh H locs ls vs o hw hx hP hD hS
  unfold ck_sCs at h
  split at h
  · rename_i v i r st hst
    split at h
    · rename_i hc
      obtain ⟨hv0, hi0, hr2, hrt, hb1, hb2, hb3, hb4⟩ := hc
      split at h
      · rename_i z y hz hy
        have eL := Option.some.inj h
        have o3 := o.2.2.1
        rw [hst] at o3
        obtain ⟨vv, vs0, rfl, h1, h1'⟩ := ck_hd o3
        obtain ⟨iv', vs1, rfl, h2, h3⟩ := ck_hd h1'
        obtain ⟨ra, vs2, rfl, h4, h5⟩ := ck_hd h3
        obtain ⟨hvl, v0, rfl, ev⟩ := h1.i hv0
        obtain ⟨hil, x, rfl, ex⟩ := h2.i hi0
        obtain ⟨-, -, q, a, e0, t', rfl, hq, ht, htm⟩ := h4.r hr2
        rw [hrt] at htm
        rw [List.mem_singleton.mp htm] at ht
        have p1 := ck_ent_ok o.2.2.2.2.1 o.2.2.2.2.2 F _ _ _ hb1
        have p2 := ck_ent_ok o.2.2.2.2.1 o.2.2.2.2.2 F _ _ _ hb2
        have p3 := ck_ent_ok o.2.2.2.2.1 o.2.2.2.2.2 F _ _ _ hb3
        have p4 := ck_ent_ok o.2.2.2.2.1 o.2.2.2.2.2 F _ _ _ hb4
        rw [o.1.2] at p1 p2 p3 p4
        obtain ⟨y0, hy1, x1, x2, x3, x4⟩ := ck_fn_ok hy
        obtain ⟨g1, g2, g3, g4, cA0, len0, f0, e1, g5⟩ := ck_note o hy1 x1 x2 (by decide) hw.2.2 hq ht
        have hzi := ck_k1_ok hz o.2.2.2.2.1
        subst e1
        refine ck_ist X hTT hW hw hx hP hD hS hq ht (by omega) (by omega) ⟨by dsimp only; omega, by dsimp only; omega⟩ hdg (fun cA' f' H1 locs1 ee w1 w2 w3 hP1 hD1 hS1 hq' => ?_)
        have eff : f0 = f' := by cases ee; rfl
        subst eff
        have g5 : ∀ (i : Nat) (z : Int), (y0.2.2.2.2.map (fun j => (n j).1))[i]? = some z → (f0 i).toInt = z := g5
        have o1 := o.wr h5 w1
        have o2 := o1.nt (x := (t, 0, (50, y.1, y.2.set z v.2.1))) (by
          refine ⟨by dsimp only; omega, g2, g1, rfl, by rw [← x3]; exact g3, fun j hj => ?_, q, a, cA', len, upd f0 x.toInt.toNat v0, ht, hq', ?_⟩
          · rcases List.mem_or_eq_of_mem_set hj with hj | rfl
            · exact g4 j (by rw [x4]; exact hj)
            · exact hvl
          · show ∀ (i : Nat) (z' : Int), ((y.2.set z v.2.1).map (fun j => (n j).1))[i]? = some z' → (upd f0 x.toInt.toNat v0 i).toInt = z'
            intro j z' hj
            have ez : x.toInt.toNat = z := by omega
            rw [ez]
            unfold upd
            rw [List.getElem?_map, List.getElem?_set] at hj
            by_cases ej : z = j
            · rw [if_pos ej] at hj
              rw [if_pos ej.symm]
              split at hj
              · have h7 : (n v.2.1).1 = z' := Option.some.inj hj
                omega
              · cases hj
            · rw [if_neg ej] at hj
              rw [if_neg (fun q => ej q.symm)]
              exact g5 j z' (by rw [List.getElem?_map, x4]; exact hj))
        exact (hk _ (by rw [← eL]; exact List.mem_cons_self)).at o2 w2 w3 hP1 hD1 hS1 rfl
      · cases h
    · cases h
  · cases h
end
/-- a contract by parts of an argument, each with cases of its own -/
theorem ck_met_splitC {rr : fR} {V : ck_Wd} {l : Launch} {y : MethodName} {cc : ByteArray} {nL : Nat} {ret : Option FieldType} {rm : Room} {C : ck_C} {k : Nat} {iv : Int × Int} (hk : C.1.2.2.1[k]? = some iv) (hle : iv.1 ≤ iv.2) (ps : List ((Int × Int) × List ck_P)) (hcov : ∀ z, iv.1 ≤ z → z ≤ iv.2 → ∃ x ∈ ps, x.1.1 ≤ z ∧ z ≤ x.1.2)
    (h0 : 0 < C.1.2.2.1.length) (hsub : ∀ x ∈ ps, ∀ P ∈ x.2, C.1.2.2.1.length ≤ P.2.2.1.length ∧ (P.1, P.2.1, P.2.2.1, (k, 0, x.1.2) :: (0, k, -x.1.1) :: P.2.2.2) ∈ C.2.1)
    (h : ∀ x ∈ ps, ck_met V l y cc nL ret rm ((C.1.1, C.1.2.1, C.1.2.2.1.set k x.1, C.1.2.2.2), x.2, C.2.2) rr) : ck_met V l y cc nL ret rm C rr := by
  intro D tys ws sh sz n1 As sw htl hsw hn0 hpo hwo hph
  obtain ⟨z1, z2⟩ := hpo.2.2.1 k iv hk hle
  obtain ⟨x, hx, x1, x2⟩ := hcov _ z1 z2
  have hkl : k < C.1.2.2.1.length := (List.getElem?_eq_some_iff.mp hk).1
  have hl : (C.1.2.2.1.set k x.1).length = C.1.2.2.1.length := List.length_set
  have hm := h x hx D tys ws sh sz n1 As sw htl hsw hn0 (by
    show ck_po _ _ _ _ _ (C.1.2.2.1.set k x.1).length (C.1.1, C.1.2.1, C.1.2.2.1.set k x.1, C.1.2.2.2) As
    rw [hl]
    refine ⟨hpo.1, hpo.2.1, fun j w hj hjl => ?_, hpo.2.2.2⟩
    dsimp only at hj
    by_cases ej : k = j
    · subst ej
      rw [List.getElem?_set_self hkl] at hj
      have ew := Option.some.inj hj
      rw [← ew]
      exact ⟨x1, x2⟩
    · rw [List.getElem?_set_ne ej] at hj
      exact hpo.2.2.1 j w hj hjl) hwo hph
  refine MetFree.mono hm (fun _ _ h => h) (fun _ _ _ _ _ h => h) ?_
  rintro a st oc t - ⟨⟨⟨P, hP, rv, n2, ws', sh', q1, q2, q3, q4, q5, q6, q7, q8⟩, q9⟩, hfr⟩
  dsimp only at q2
  rw [hl] at q2
  obtain ⟨hPl, hPm⟩ := hsub x hx P hP
  refine ⟨⟨⟨_, hPm, rv, n2, ws', sh', q1, q2, q3, q4, q5, q6, ⟨q7.1, q7.2.1, q7.2.2.1, fun r hr => ?_⟩, q8⟩, q9⟩, hfr⟩
  have hn20 : (n2 0).1 = 0 := by rw [q2 0 h0]; exact hn0
  have hn2k : (n2 k).1 = (n1 k).1 := by rw [q2 k hkl]
  have hlt : k < P.2.2.1.length := Nat.lt_of_lt_of_le hkl hPl
  have hlt0 : 0 < P.2.2.1.length := Nat.lt_of_lt_of_le h0 hPl
  rcases List.mem_cons.mp hr with rfl | hr
  · refine ⟨hlt, hlt0, ?_⟩
    dsimp only
    rw [hn20, hn2k]
    omega
  · rcases List.mem_cons.mp hr with rfl | hr
    · refine ⟨hlt0, hlt, ?_⟩
      dsimp only
      rw [hn20, hn2k]
      omega
    · exact q7.2.2.2 r hr
/-- parts one behind the other leave nothing out -/
def ck_cv (lo hi : Int) : List (Int × Int) → Bool
  | [] => decide (hi < lo)
  | p :: l => decide (p.1 ≤ lo) && ck_cv (p.2 + 1) hi l
theorem ck_cv_ok {hi : Int} : ∀ {l : List ((Int × Int) × List ck_P)} {lo : Int}, ck_cv lo hi (l.map Prod.fst) = true → ∀ z, lo ≤ z → z ≤ hi → ∃ x ∈ l, x.1.1 ≤ z ∧ z ≤ x.1.2
  | [], lo, h, z, h1, h2 => by
    have h3 := of_decide_eq_true h
    omega
  | p :: l, lo, h, z, h1, h2 => by
    rw [List.map_cons, ck_cv, Bool.and_eq_true, decide_eq_true_eq] at h
    rcases Int.lt_or_le p.1.2 z with h3 | h3
    · obtain ⟨x, hx, g⟩ := ck_cv_ok h.2 z (by omega) h2
      exact ⟨x, List.mem_cons_of_mem _ hx, g⟩
    · exact ⟨p, List.mem_cons_self, by omega, h3⟩
end
