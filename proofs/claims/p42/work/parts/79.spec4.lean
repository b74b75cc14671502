noncomputable section
/-! steps proved by hand: what the signs' notes say besides; a contract by parts of an argument; arraycopy of ints -/
def ck_lo1 (E : ck_E) (y : Nat) : ck_E := match E[y]? with
  | some iv => E.set y (max iv.1 1, iv.2)
  | none => E
theorem ck_lo1_len (E : ck_E) (y : Nat) : (ck_lo1 E y).length = E.length := by
  unfold ck_lo1
  split
  · exact List.length_set
  · rfl
theorem ck_lo1_ok {E : ck_E} {n : ck_N} {y : Nat} (h : ck_eo E n) (hy : 1 ≤ (n y).1) : ck_eo (ck_lo1 E y) n := by
  unfold ck_lo1
  split
  · rename_i iv hiv
    intro k x hx hle
    rw [List.getElem?_set] at hx
    split at hx
    · rename_i e
      subst e
      split at hx
      · have ex := Option.some.inj hx
        subst ex
        have h1 : iv.1 ≤ max iv.1 1 := Int.le_max_left _ _
        have h2 := h y iv hiv (Int.le_trans h1 hle)
        exact ⟨Int.max_le.mpr ⟨h2.1, hy⟩, h2.2⟩
      · cases hx
    · exact h k x hx hle
  · exact h
theorem ck_lo1s_ok {n : ck_N} : ∀ {ys : List Nat} {E : ck_E}, ck_eo E n → (∀ y ∈ ys, 1 ≤ (n y).1) → ck_eo (ys.foldl ck_lo1 E) n ∧ (ys.foldl ck_lo1 E).length = E.length
  | [], _, h, _ => ⟨h, rfl⟩
  | y :: ys, E, h, hy => by
    obtain ⟨a, b⟩ := ck_lo1s_ok (ys := ys) (ck_lo1_ok h (hy y List.mem_cons_self)) (fun z hz => hy z (List.mem_cons_of_mem _ hz))
    exact ⟨a, b.trans (ck_lo1_len E y)⟩
def ck_tiY (F tS x : Nat) (S : ck_S) : List Nat := if ck_ent S.2.2.2.1 S.2.2.2.2.1 F 0 x (-1) then (S.2.2.1.flatMap (fun m => if m.1 == tS && decide (20 ≤ m.2.2.1 ∧ m.2.2.1 < 30) then m.2.2.2.1 :: m.2.2.2.2 else [])).filter (fun y => ck_ent S.2.2.2.1 S.2.2.2.2.1 F x y 0) else []
/-- a load of local 0; numbers of the signs' notes that are no less than local j are at least 1 if it is -/
def ck_sTi (F tS j : Nat) (S : ck_S) : Option (List ck_S) := match ck_look S.1 0, ck_look S.1 j with
  | some r, some x => if r.1 = 2 ∧ x.1 = 0 then some [(S.1, r :: S.2.1, S.2.2.1, (ck_tiY F tS x.2.1 S).foldl ck_lo1 S.2.2.2.1, S.2.2.2.2)] else none
  | _, _ => none
/-- a load of local 0; of signs on top that are no turn, none of them open, at least one takes two values -/
def ck_sTc (F tS : Nat) (S : ck_S) : Option (List ck_S) := match ck_look S.1 0 with
  | some r => if r.1 = 2 then (match S.2.2.1.findSome? (fun x => if x.1 == tS && (x.2.1 == 0 && (decide (21 ≤ x.2.2.1 ∧ x.2.2.1 < 30) && ck_ent S.2.2.2.1 S.2.2.2.2.1 F 0 x.2.2.2.1 (-1))) then (match x.2.2.2.2 with
      | [c, o] => if ck_ent S.2.2.2.1 S.2.2.2.2.1 F o 0 0 then some c else none
      | _ => none) else none) with
    | some c => some [(S.1, r :: S.2.1, S.2.2.1, S.2.2.2.1, (0, c, -1) :: S.2.2.2.2.1, S.2.2.2.2.2)]
    | none => none) else none
  | none => none
theorem ck_cn_pos (p : Int32 → Bool) (f : Nat → Int32) {k : Nat} (h : p (f k) = true) : 1 ≤ ck_cn p f (k + 1) := by
  rw [ck_cn_s, if_pos h]
  omega
section
variable {Fc : Nat → Nat × fR} {s0 : fS} {p : Program} {l : Launch} {e : Env} {R : Room} {s : State} {m : MethodId} {args : Array Value} {below : List Frame} {meth : Method} {c : Code} {Q : State → Prop} {cc : ByteArray} {own : String} {D : va_G} {cl : List vw_C} {tys : List (ClassId × FieldType)} {M : ck_Me} {sc : ck_sc} {A : Nat → Prop} {ws0 : va_W} {sh0 : List Nat} {S : ck_S} {pc : Nat}
theorem ck_sTi_ok (X : ck_cx p l e R s m args below meth c cc own D cl tys M sc A) {F tS j : Nat} {L : List ck_S} (h : ck_sTi F tS j S = some L) (hk : ∀ S' ∈ L, ck_g Fc s0 p l e R s m args below meth c Q D cl tys M sc A ws0 sh0 S' (pc + 1)) (hdg : decode cc pc = .ok (.aload_n 0, 1)) : ck_g Fc s0 p l e R s m args below meth c Q D cl tys M sc A ws0 sh0 S pc := by
  intro n ws sh H locs ls vs o hw hx hP hD hS
  unfold ck_sTi at h
  split at h
  · rename_i r x hr hxj
    split at h
    · rename_i hc
      have eL := Option.some.inj h
      obtain ⟨v, hv1, hv2⟩ := ck_look_ok o.2.1 hr
      obtain ⟨-, -, q, a, e0, t, rfl, hq, ht, htm⟩ := hv2.r hc.1
      have key : ∀ y ∈ ck_tiY F tS x.2.1 S, 1 ≤ (n y).1 := fun y hy => by
        unfold ck_tiY at hy
        split at hy
        · rename_i g1
          have g2 := (List.mem_filter.mp hy).2
          have p1 := ck_ent_ok o.2.2.2.2.1 o.2.2.2.2.2 F _ _ _ g1
          have p2 := ck_ent_ok o.2.2.2.2.1 o.2.2.2.2.2 F _ _ _ g2
          rw [o.1.2] at p1
          omega
        · exact absurd hy List.not_mem_nil
      obtain ⟨E1, E2⟩ := ck_lo1s_ok o.2.2.2.2.1 key
      have o2 : ck_so (mnL M) (mSG M) (S.1, r :: S.2.1, S.2.2.1, (ck_tiY F tS x.2.1 S).foldl ck_lo1 S.2.2.2.1, S.2.2.2.2) n ws sh sc ls (.ref a :: vs) := by
        refine ⟨?_, ?_, ?_, ?_, E1, ?_⟩ <;> dsimp only <;> rw [E2]
        · exact o.1
        · exact o.2.1
        · exact ⟨hv2, o.2.2.1⟩
        · exact o.2.2.2.1
        · exact o.2.2.2.2.2
      refine WG.ld (fun h => lv_aload_n X.1 X.2.1 hdg rfl hv1 h) hv1 X.2.1 hdg (fun _ _ h => h) ?_
      exact (hk _ (by rw [← eL]; exact List.mem_cons_self)).at o2 hw hx hP hD hS rfl
    · cases h
  · cases h
theorem ck_sTc_ok (X : ck_cx p l e R s m args below meth c cc own D cl tys M sc A) {F tS : Nat} (hts : tS ≠ 0) {L : List ck_S} (h : ck_sTc F tS S = some L) (hk : ∀ S' ∈ L, ck_g Fc s0 p l e R s m args below meth c Q D cl tys M sc A ws0 sh0 S' (pc + 1)) (hdg : decode cc pc = .ok (.aload_n 0, 1)) : ck_g Fc s0 p l e R s m args below meth c Q D cl tys M sc A ws0 sh0 S pc := by
  intro n ws sh H locs ls vs o hw hx hP hD hS
  unfold ck_sTc at h
  split at h
  · rename_i r hr
    split at h
    · rename_i hc
      split at h
      · rename_i c0 hf
        have eL := Option.some.inj h
        obtain ⟨v, hv1, hv2⟩ := ck_look_ok o.2.1 hr
        obtain ⟨-, -, q, a, e0, t, rfl, hq, ht, htm⟩ := hv2.r hc
        obtain ⟨x, hxm, h1⟩ := List.exists_of_findSome?_eq_some hf
        split at h1
        · rename_i hc1
          simp only [Bool.and_eq_true, beq_iff_eq, decide_eq_true_eq] at hc1
          obtain ⟨c1, c2, c3, c4⟩ := hc1
          split at h1
          · rename_i c' o' hl
            split at h1
            · rename_i c5
              have ec := Option.some.inj h1
              subst ec
              have p1 := ck_ent_ok o.2.2.2.2.1 o.2.2.2.2.2 F _ _ _ c4
              have p2 := ck_ent_ok o.2.2.2.2.1 o.2.2.2.2.2 F _ _ _ c5
              rw [o.1.2] at p1 p2
              have hpos : c' < S.2.2.2.1.length ∧ 1 ≤ (n c').1 := by
                rcases o.2.2.2.1 x hxm with ⟨w, -⟩ | ⟨-, -, q1, a', oo, v, -, -, -, w⟩ | ⟨w0, w1, w2, w3, w4, w5, q1, a', cA, len, f, w6, w7, w8⟩
                · rw [c1] at w
                  exact absurd w hts
                · exfalso
                  have w := w.2
                  split at w <;> omega
                · rw [hl] at w5 w8
                  unfold ck_nt at w8
                  rw [if_pos c3.2] at w8
                  refine ⟨w5 c' (by simp), ?_⟩
                  have w8 : ck_ng x.2.2.1 f (n x.2.2.2.1).1 [(n c').1, (n o').1] := w8
                  unfold ck_ng at w8
                  obtain ⟨n1, n2, n3, n4, n5, n6, n7⟩ := w8
                  obtain ⟨k, hkm⟩ : ∃ k, (n x.2.2.2.1).1.toNat = k + 1 := ⟨(n x.2.2.2.1).1.toNat - 1, by omega⟩
                  rw [hkm] at n2 n3 n4 n6
                  have n6' := n6 c3.1 (Nat.succ_pos _)
                  rw [Nat.add_sub_cancel] at n6'
                  rcases n4 k (Nat.lt_succ_self _) with hb | hb | hb
                  · have := ck_cn_pos ck_b3 f hb
                    omega
                  · have := ck_cn_pos (fun x => x == 40) f (k := k) (by rw [hb]; rfl)
                    omega
                  · exact absurd hb n6'
              have o2 : ck_so (mnL M) (mSG M) (S.1, r :: S.2.1, S.2.2.1, S.2.2.2.1, (0, c', -1) :: S.2.2.2.2.1, S.2.2.2.2.2) n ws sh sc ls (.ref a :: vs) := by
                refine ⟨o.1, o.2.1, ⟨hv2, o.2.2.1⟩, o.2.2.2.1, o.2.2.2.2.1, fun z hz => ?_⟩
                rcases List.mem_cons.mp hz with rfl | hz
                · refine ⟨o.1.1, hpos.1, ?_⟩
                  dsimp only
                  rw [o.1.2]
                  omega
                · exact o.2.2.2.2.2 z hz
              refine WG.ld (fun h => lv_aload_n X.1 X.2.1 hdg rfl hv1 h) hv1 X.2.1 hdg (fun _ _ h => h) ?_
              exact (hk _ (by rw [← eL]; exact List.mem_cons_self)).at o2 hw hx hP hD hS rfl
            · cases h1
          · cases h1
        · cases h1
      · cases h
    · cases h
  · cases h
end
/-- a contract by parts of an argument -/
theorem ck_met_split {rr : fR} {V : ck_Wd} {l : Launch} {y : MethodName} {cc : ByteArray} {nL : Nat} {ret : Option FieldType} {rm : Room} {C : ck_C} {k : Nat} {iv : Int × Int} (hk : C.1.2.2.1[k]? = some iv) (hle : iv.1 ≤ iv.2) (ps : List (Int × Int)) (hcov : ∀ z, iv.1 ≤ z → z ≤ iv.2 → ∃ x ∈ ps, x.1 ≤ z ∧ z ≤ x.2)
    (h : ∀ x ∈ ps, ck_met V l y cc nL ret rm ((C.1.1, C.1.2.1, C.1.2.2.1.set k x, C.1.2.2.2), C.2) rr) : ck_met V l y cc nL ret rm C rr := by
  intro D tys ws sh sz n1 As sw htl hsw hn0 hpo hwo hph
  obtain ⟨z1, z2⟩ := hpo.2.2.1 k iv hk hle
  obtain ⟨x, hx, x1, x2⟩ := hcov _ z1 z2
  have hl : (C.1.2.2.1.set k x).length = C.1.2.2.1.length := List.length_set
  have hm := h x hx D tys ws sh sz n1 As sw htl hsw hn0 (by
    show ck_po _ _ _ _ _ (C.1.2.2.1.set k x).length (C.1.1, C.1.2.1, C.1.2.2.1.set k x, C.1.2.2.2) As
    rw [hl]
    refine ⟨hpo.1, hpo.2.1, fun j w hj hjl => ?_, hpo.2.2.2⟩
    dsimp only at hj
    rw [List.getElem?_set] at hj
    split at hj
    · rename_i ej
      subst ej
      split at hj
      · have ew := Option.some.inj hj
        subst ew
        exact ⟨x1, x2⟩
      · cases hj
    · exact hpo.2.2.1 j w hj hjl) hwo hph
  have hq : ck_qp V D tys ws sh sz sw n1 ((C.1.1, C.1.2.1, C.1.2.2.1.set k x, C.1.2.2.2), C.2) rr As = ck_qp V D tys ws sh sz sw n1 C rr As := by
    unfold ck_qp
    dsimp only
    rw [hl]
  rw [hq] at hm
  exact hm
section
variable {Fc : Nat → Nat × fR} {s0 : fS} {p : Program} {l : Launch} {e : Env} {R : Room} {s : State} {m : MethodId} {args : Array Value} {below : List Frame} {meth : Method} {c : Code} {Q : State → Prop} {cc : ByteArray} {own : String} {D : va_G} {tys : List (ClassId × FieldType)} {M : ck_Me} {sc : ck_sc} {A : Nat → Prop} {V : ck_Wd}
/-- System.arraycopy(a, i, b, j, v) of ints of any size -/
def ck_zC (t0 t1 : Nat) (v len : Int) : ck_C := (([(2, 1, [t0]), (0, 2, []), (2, 3, [t1]), (0, 4, []), (0, 5, [])], [], [(0, 0), (1, 0), (0, len - v), (1, 0), (0, len - v), (v, v)], []), [([], [], [(1, 0), (1, 0), (1, 0), (1, 0), (1, 0), (1, 0)], [])], [(t1, 0)], 0, 0)
theorem ck_i32_in (x : Int32) : -2147483648 ≤ x.toInt ∧ x.toInt ≤ 2147483647 := by
  have h := ck_r32 x
  exact ⟨h.1, h.2⟩
theorem ck_cs_Z {idx : Nat} (hF : Fc (3 * idx + 1) = (5, f_cpi)) (X : ck_cx p l e R s m args below meth c cc own D V.1 tys M sc A) (hts : ∀ w ∈ V.2.2.2.2.1, w.before args s = true) {t0 t1 : Nat} {v len : Int} {n0 n1 k0 k1 : Nat} {F0' : List ck_T} (htl : tys.map Prod.snd = V.2.2.2.1) (h0 : (mTT M)[t0]? = some (1, n0, k0, F0')) (h1 : (mTT M)[t1]? = some (1, n1, k1, [(0, -2147483648, 2147483647, [])])) (hmn : 0 ≤ v ∧ v ≤ len) (hm0 : len ≤ (n0 : Int)) (hm1 : len ≤ (n1 : Int)) (hw : ∀ w ∈ ([.methodLink own idx arraycopyName, .native arraycopyName, .static arraycopyName, .initialized "java/lang/System"] : List Cond), w ∈ V.2.2.2.2.1) (hR : 1 ≤ R.frames ∧ 60 ≤ R.locals) :
    ck_cs Fc s0 p l e R s m args below meth c Q cc D V.1 tys M sc A (3 * idx + 1, 0, 5, ck_zC t0 t1 v len) := by
  intro pc ls nn ws sh H locs cells slots As rest hdg hls hlen hn0 hpo hrec hwo hP hD hS hc hs hsum hk
  rw [ck_ik1] at hdg
  have hnf : nativeFrameWords "java/lang/System" "arraycopy" 5 + 11 ≤ 52 := by decide +kernel
  obtain ⟨v0, As, rfl, w0, g⟩ := ck_hd hpo.1
  obtain ⟨v1, As, rfl, w1, g⟩ := ck_hd g
  obtain ⟨v2, As, rfl, w2, g⟩ := ck_hd g
  obtain ⟨v3, As, rfl, w3, g⟩ := ck_hd g
  obtain ⟨v4, As, rfl, w4, g⟩ := ck_hd g
  cases As with
  | cons _ _ => exact g.elim
  | nil =>
    have E := hpo.2.2.1
    obtain ⟨-, -, q0, a0, e0, u0, rfl, hq0, hu0, hm0'⟩ := w0.r rfl
    obtain ⟨-, -, q1, a1, e1, u1, rfl, hq1, hu1, hm1'⟩ := w2.r rfl
    rw [List.mem_singleton.mp hm0'] at hu0
    rw [List.mem_singleton.mp hm1'] at hu1
    obtain ⟨-, sp, rfl, hsp⟩ := w1.i rfl
    obtain ⟨-, dp, rfl, hdp⟩ := w3.i rfl
    obtain ⟨-, n, rfl, hn⟩ := w4.i rfl
    have E2 := E 2 (0, len - v) rfl (by show (0 : Int) ≤ len - v; omega)
    have E4 := E 4 (0, len - v) rfl (by show (0 : Int) ≤ len - v; omega)
    have E5 := E 5 (v, v) rfl (Int.le_refl _)
    obtain ⟨td0, g0, c0⟩ := hwo.2.1 q0 a0 e0 t0 hq0 hu0
    obtain ⟨td1, g1, c1⟩ := hwo.2.1 q1 a1 e1 t1 hq1 hu1
    have e0' : td0 = (1, n0, k0, F0') := Option.some.inj (g0.symm.trans h0)
    have e1' : td1 = (1, n1, k1, [(0, -2147483648, 2147483647, [])]) := Option.some.inj (g1.symm.trans h1)
    subst e0' e1'
    obtain ⟨cA0, f0, y0, rfl, -⟩ := c0
    obtain ⟨cA1, f1, y1, rfl, -⟩ := c1
    rw [← hsp] at E2
    rw [← hdp] at E4
    rw [← hn] at E5
    dsimp only at E2 E4 E5
    have nneg : ∀ z : Int32, 0 ≤ z.toInt → ¬ z < 0 := fun z hz => by rw [Int32.lt_iff_toInt_lt]; simpa using hz
    have nz : ∀ z : Int32, 0 ≤ z.toInt → (z.toNatClampNeg : Int) = z.toInt := fun z hz => Int.toNat_of_nonneg hz
    have z1 := nz sp E2.1
    have z2 := nz dp E4.1
    have z3 := nz n (by omega)
    intro lg hlg hgr
    refine va_copyi (rest := rest) X.1 X.2.1 (X.2.2.2.2.2.1.trans hls.symm) X.2.2.1 (hts _ (hw _ (by simp))) (hts _ (hw _ (by simp))) (hts _ (hw _ (by simp))) (hts _ (hw _ (by simp))) X.2.2.2.1 hP hD hS q0 q1 k0 k1 hq0 hq1 y0 y1 rfl (nneg _ E2.1) (nneg _ E4.1) (nneg _ (by omega)) (show sp.toNatClampNeg + n.toNatClampNeg ≤ n0 by omega) (show dp.toNatClampNeg + n.toNatClampNeg ≤ n1 by omega) (fun _ _ => rfl) hR.1 (by omega) hdg (fun H1 locs1 P1 D1 S1 => ?_)
    obtain ⟨W1, W2⟩ := ck_wo_set (Wr := [(t1, 0)]) (e' := .inl (cA1, n1, .inl (va_cpy f0 f1 sp.toNatClampNeg dp.toNatClampNeg n.toNatClampNeg))) hwo hq1 hu1 (fun z => absurd (List.mem_singleton.mpr rfl) z) h1 ⟨cA1, _, y1, rfl, fun t ht => by
      have et := Option.some.inj ht
      subst et
      exact ⟨rfl, fun i _ => ck_i32_in _⟩⟩
    exact hk _ List.mem_cons_self none nn _ sh H1 locs1 (fun _ _ => rfl) W1 W2 P1 D1 S1 ⟨trivial, fun _ h => (List.not_mem_nil h).elim, fun k z hz hle => by
      have hz' : ([(1, 0), (1, 0), (1, 0), (1, 0), (1, 0), (1, 0)] : List (Int × Int))[k]? = some z := hz
      have hzm := List.mem_of_getElem? hz'
      simp at hzm
      rw [hzm] at hle
      exact absurd hle (by decide), fun _ h => (List.not_mem_nil h).elim⟩ lg hlg (hgr.nx X.2.1 hdg ⟨[.ref a0, .int sp, .ref a1, .int dp, .int n], rest, none, _, sh, rfl, by show _ = (Fc (3 * idx + 1)).1; rw [hF]; rfl, by show (Fc (3 * idx + 1)).2 _ _ _ _ _ _; rw [hF]; exact ⟨a0, a1, sp, dp, n, q0, q1, n0, n1, cA0, cA1, f0, f1, rfl, hq0, hq1, rfl, rfl, rfl⟩, rfl⟩)
end
end
