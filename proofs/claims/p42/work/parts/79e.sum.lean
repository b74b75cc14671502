noncomputable section
/-! steps proved by hand: two numbers that sum to at most 240, as a note (60); a sum of the first and one below the second -/
/-- a load of local j; with the number on top it sums to at most 240: a note of the array that the object below has -/
def ck_sSa (tM tS j : Nat) (S : ck_S) : Option (List ck_S) := match S.2.1, ck_look S.1 j with
  | f :: r :: st, some m => if f.1 = 0 ∧ r.1 = 2 ∧ r.2.2 = [tM] ∧ m.1 = 0 then (match S.2.2.2.1[f.2.1]?, S.2.2.2.1[m.2.1]? with
    | some x, some y => if x.1 ≤ x.2 ∧ y.1 ≤ y.2 ∧ x.2 + y.2 ≤ 240 then some [(S.1, m :: f :: r :: st, (tS, 0, (60, f.2.1, [m.2.1])) :: S.2.2.1, S.2.2.2)] else none
    | _, _ => none) else none
  | _, _ => none
/-- a sum: by the note it is below 240 -/
def ck_sAd (F tS : Nat) (S : ck_S) : Option (List ck_S) := match S.2.1, S.2.2.1.find? (fun x => x.1 == tS && (x.2.1 == 0 && x.2.2.1 == 60)) with
  | x :: y :: st, some z => (match z.2.2.2.2 with
    | [b] => if x.1 = 0 ∧ y.1 = 0 ∧ ck_ent S.2.2.2.1 S.2.2.2.2.1 F y.2.1 z.2.2.2.1 0 = true ∧ ck_ent S.2.2.2.1 S.2.2.2.2.1 F x.2.1 b (-1) = true ∧ ck_ent S.2.2.2.1 S.2.2.2.2.1 F 0 x.2.1 0 = true ∧ ck_ent S.2.2.2.1 S.2.2.2.2.1 F 0 y.2.1 0 = true then
        some [(S.1, (0, S.2.2.2.1.length, []) :: st, S.2.2.1, S.2.2.2.1 ++ [(0, 239)], S.2.2.2.2.1, S.2.2.2.2.2)] else none
    | _ => none)
  | _, _ => none
section
variable {Fc : Nat → Nat × fR} {s0 : fS} {p : Program} {l : Launch} {e : Env} {R : Room} {s : State} {m : MethodId} {args : Array Value} {below : List Frame} {meth : Method} {c : Code} {Q : State → Prop} {cc : ByteArray} {own : String} {D : va_G} {cl : List vw_C} {tys : List (ClassId × FieldType)} {M : ck_Me} {sc : ck_sc} {A : Nat → Prop} {ws0 : va_W} {sh0 : List Nat} {S : ck_S} {pc : Nat}
theorem ck_sSa_ok (X : ck_cx p l e R s m args below meth c cc own D cl tys M sc A) {tM tS len k0 kf j : Nat} {Ts : List ck_T} {td : ck_D} {lo hi : Int} (hTT : (mTT M)[tS]? = some (1, len, k0, Ts)) (hM : (mTT M)[tM]? = some td) (hM0 : td.1 = 0) (hMf : td.2.2.2[kf]? = some (2, lo, hi, [tS])) (hSG : tS ∈ mSG M) (ht0 : tS ≠ 0) {L : List ck_S} (h : ck_sSa tM tS j S = some L) (hk : ∀ S' ∈ L, ck_g Fc s0 p l e R s m args below meth c Q D cl tys M sc A ws0 sh0 S' (pc + 2)) (hdg : decode cc pc = .ok (.iload j, 2)) : ck_g Fc s0 p l e R s m args below meth c Q D cl tys M sc A ws0 sh0 S pc := by
  intro n ws sh H locs ls vs o hw hx hP hD hS
  unfold ck_sSa at h
  split at h
  · rename_i f r st v hst hv
    split at h
    · rename_i hc
      split at h
      · rename_i x y hx1 hy1
        split at h
        · rename_i hc2
          have eL := Option.some.inj h
          have o3 := o.2.2.1
          rw [hst] at o3
          obtain ⟨w1, vs1, rfl, h2, h3⟩ := ck_hd o3
          obtain ⟨w2, vs2, rfl, h4, h5⟩ := ck_hd h3
          obtain ⟨lf, -⟩ := h2.i hc.1
          obtain ⟨-, -, q, a, e0, t, e2, hq, ht, htm⟩ := h4.r hc.2.1
          obtain ⟨w3, hv1, hv2⟩ := ck_look_ok o.2.1 hv
          obtain ⟨lm, z, e3, -⟩ := id (hv2.i hc.2.2.2)
          rw [hc.2.2.1] at htm
          rw [List.mem_singleton.mp htm] at ht
          obtain ⟨td', d1, d2⟩ := hw.2.1 q a _ tM hq ht
          have etd : td' = td := Option.some.inj (d1.symm.trans hM)
          subst etd
          unfold ck_co at d2
          rw [hM0] at d2
          obtain ⟨fs, -, -, d3⟩ := d2
          obtain ⟨u, -, d4⟩ := d3 kf _ hMf
          obtain ⟨q2, a2, e4, t2, rfl, hq2, ht2, htm2⟩ := (show ck_rf ws sh [tS] u from d4)
          rw [List.mem_singleton.mp htm2] at ht2
          obtain ⟨td2, d5, d6⟩ := hw.2.1 q2 a2 _ tS hq2 ht2
          have etd2 : td2 = (1, len, k0, Ts) := Option.some.inj (d5.symm.trans hTT)
          subst etd2
          obtain ⟨cA, g, -, rfl, -⟩ := d6
          have b1 := (o.2.2.2.2.1 _ x hx1 hc2.1).2
          have b2 := (o.2.2.2.2.1 _ y hy1 hc2.2.1).2
          have o1 : ck_so (mnL M) (mSG M) (S.1, v :: f :: r :: st, S.2.2.1, S.2.2.2) n ws sh sc ls (w3 :: w1 :: w2 :: vs2) := ⟨o.1, o.2.1, ⟨hv2, h2, h4, h5⟩, o.2.2.2⟩
          have o2 := o1.nt (x := (tS, 0, (60, f.2.1, [v.2.1]))) ⟨by dsimp only; omega, ht0, hSG, rfl, lf, fun j hj => by
              rw [List.mem_singleton.mp hj]
              exact lm, q2, a2, cA, len, g, ht2, hq2, by
              dsimp only [List.map]
              unfold ck_nt
              rw [if_neg (by decide)]
              show (n f.2.1).1 + (n v.2.1).1 ≤ 240
              omega⟩
          subst e3
          refine WG.ld (fun h => lv_iload X.1 X.2.1 hdg hv1 h) hv1 X.2.1 hdg (fun _ _ h => h) ?_
          exact (hk _ (by rw [← eL]; exact List.mem_cons_self)).at o2 hw hx hP hD hS rfl
        · cases h
      · cases h
    · cases h
  · cases h
theorem ck_sAd_ok (X : ck_cx p l e R s m args below meth c cc own D cl tys M sc A) {F tS : Nat} (hts : tS ≠ 0) {L : List ck_S} (h : ck_sAd F tS S = some L) (hk : ∀ S' ∈ L, ck_g Fc s0 p l e R s m args below meth c Q D cl tys M sc A ws0 sh0 S' (pc + 1)) (hdg : decode cc pc = .ok (.iadd, 1)) : ck_g Fc s0 p l e R s m args below meth c Q D cl tys M sc A ws0 sh0 S pc := by
  intro n ws sh H locs ls vs o hw hx hP hD hS
  unfold ck_sAd at h
  split at h
  · rename_i x y st z hst hf
    split at h
    · rename_i b hb
      split at h
      · rename_i hc
        obtain ⟨c1, c2, c3, c4, c5, c6⟩ := hc
        have eL := Option.some.inj h
        have o3 := o.2.2.1
        rw [hst] at o3
        obtain ⟨w1, vs1, rfl, h2, h3⟩ := ck_hd o3
        obtain ⟨w2, vs2, rfl, h4, h5⟩ := ck_hd h3
        obtain ⟨-, a1, rfl, e1⟩ := h2.i c1
        obtain ⟨-, a2, rfl, e2⟩ := h4.i c2
        have p3 := ck_ent_ok o.2.2.2.2.1 o.2.2.2.2.2 F _ _ _ c3
        have p4 := ck_ent_ok o.2.2.2.2.1 o.2.2.2.2.2 F _ _ _ c4
        have p5 := ck_ent_ok o.2.2.2.2.1 o.2.2.2.2.2 F _ _ _ c5
        have p6 := ck_ent_ok o.2.2.2.2.1 o.2.2.2.2.2 F _ _ _ c6
        rw [o.1.2] at p5 p6
        have hz := List.find?_some hf
        simp only [Bool.and_eq_true, beq_iff_eq] at hz
        obtain ⟨z1, z2, z3⟩ := hz
        have hsum : (n z.2.2.2.1).1 + (n b).1 ≤ 240 := by
          rcases o.2.2.2.1 z (List.mem_of_find?_eq_some hf) with ⟨w, -⟩ | ⟨-, -, q1, a', oo, v, -, -, -, w⟩ | ⟨w0, w1, w2, w3, w4, w5, q1, a', cA, len, g, w6, w7, w8⟩
          · rw [z1] at w
            exact absurd w hts
          · exfalso
            have w := w.2
            split at w <;> first | omega | exact w
          · rw [hb] at w8
            rw [z3] at w8
            unfold ck_nt at w8
            rw [if_neg (by decide)] at w8
            exact w8
        have hv : (a2 + a1).toInt = a2.toInt + a1.toInt := by
          rw [Int32.toInt_add]
          exact Int.bmod_eq_of_le (by omega) (by omega)
        have o2 := o.new (st := st) (vs' := vs2) h5 (tag := 0) (ts := []) (iv := (0, 239)) (rs := []) (x := ((a2 + a1).toInt, .null)) (v := .int (a2 + a1)) (.mi (Nat.lt_succ_self _) (by rw [ck_nx_eq])) (fun _ => by dsimp only; omega) (fun r hr => by cases hr)
        refine WG.up (fun hh => lv_iadd X.1 X.2.1 hdg hh) X.2.1 hdg (fun lg => ⟨a2, a1, _, rfl, rfl⟩) ?_
        exact (hk _ (by rw [← eL]; exact List.mem_cons_self)).at o2 hw hx hP hD hS rfl
      · cases h
    · cases h
  · cases h
end
end
