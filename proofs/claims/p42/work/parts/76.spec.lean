noncomputable section
/-! steps proved by hand: reads and writes of an array of which notes speak -/
abbrev ck_tn (SG : List Nat) (ws : va_W) (sh : List Nat) (n : ck_N) (N : Nat) (x : ck_M) : Prop :=
  20 ≤ x.2.2.1 ∧ x.1 ≠ 0 ∧ x.1 ∈ SG ∧ x.2.1 = 0 ∧ x.2.2.2.1 < N ∧ (∀ j ∈ x.2.2.2.2, j < N) ∧ ∃ (q a : Nat) (cA : ClassId) (len : Nat) (f : Nat → Int32), sh[q]? = some x.1 ∧ ws[q]? = some (a, .inl (cA, len, .inl f)) ∧ ck_nt x.2.2.1 f (n x.2.2.2.1).1 (x.2.2.2.2.map (fun j => (n j).1))
section
variable {nL : Nat} {SG : List Nat} {S : ck_S} {n : ck_N} {ws : va_W} {sh : List Nat} {sc : ck_sc} {ls : Array Slot} {vs : List Value}
theorem ck_so.sym (h : ck_so nL SG S n ws sh sc ls vs) {iv : Int × Int} {rs : List ck_R} {z : Int} (hx : iv.1 ≤ iv.2 → iv.1 ≤ z ∧ z ≤ iv.2) (hr : ck_ro rs (ck_nx n S.2.2.2.1.length (z, .null)) (S.2.2.2.1.length + 1)) :
    ck_so nL SG (S.1, S.2.1, S.2.2.1, S.2.2.2.1 ++ [iv], rs ++ S.2.2.2.2.1, S.2.2.2.2.2) (ck_nx n S.2.2.2.1.length (z, .null)) ws sh sc ls vs := by
  have h1 := h.new h.2.2.1 (tag := 4) (ts := []) (iv := iv) (rs := rs) (x := (z, .null)) (v := .null) ⟨Nat.lt_succ_self _, by rw [ck_nx_eq], rfl⟩ hx hr
  exact h1.ss h1.2.2.1.2
theorem ck_so.nt {x : ck_M} (h : ck_so nL SG S n ws sh sc ls vs) (hx : ck_tn SG ws sh n S.2.2.2.1.length x) : ck_so nL SG (S.1, S.2.1, x :: S.2.2.1, S.2.2.2) n ws sh sc ls vs :=
  ⟨h.1, h.2.1, h.2.2.1, fun y hy => by
    rcases List.mem_cons.mp hy with rfl | hy
    · exact Or.inr (Or.inr hx)
    · exact h.2.2.2.1 y hy, h.2.2.2.2⟩
theorem ck_so.fl (h : ck_so nL SG S n ws sh sc ls vs) (p : ck_M → Bool) : ck_so nL SG (S.1, S.2.1, S.2.2.1.filter p, S.2.2.2) n ws sh sc ls vs :=
  ⟨h.1, h.2.1, h.2.2.1, fun y hy => h.2.2.2.1 y (List.mem_filter.mp hy).1, h.2.2.2.2⟩
theorem ck_mo.wr {t : Nat} {ws' : va_W} {N : Nat} {mem : List ck_M} (hx : ck_ex [(t, 0)] ws sh ws' sh) (h : ck_mo SG ws sh sc n N mem) : ck_mo SG ws' sh sc n N (mem.filter (fun m => !(m.1 == t))) := by
  intro z hz
  obtain ⟨hz, hf⟩ := List.mem_filter.mp hz
  rw [Bool.not_eq_true', beq_eq_false_iff_ne] at hf
  have hnw : (z.1, z.2.1) ∉ [(t, 0)] := fun w => by
    have := List.mem_singleton.mp w
    exact hf (congrArg Prod.fst this)
  rcases h z hz with q | ⟨z0, z1, q1, a1', o1', v1, z2, z3, z4, z5⟩ | hy
  · exact Or.inl q
  · obtain ⟨e', x1, x2⟩ := hx.2 q1 a1' _ z.1 z3 z2
    cases e' with
    | inl _ => exact x2.elim
    | inr oo => exact Or.inr (Or.inl ⟨z0, z1, q1, a1', oo, v1, z2, x1, by rw [x2.2 _ hnw]; exact z4, z5.mv hx⟩)
  · exact Or.inr (Or.inr (ck_mo.mv1 hx hnw hy))
theorem ck_so.wr {t : Nat} {ws' : va_W} {st : List ck_V} {vs' : List Value} (h : ck_so nL SG S n ws sh sc ls vs) (hs : ck_two (ck_vo ws sh sc n S.2.2.2.1.length) st vs') (hx : ck_ex [(t, 0)] ws sh ws' sh) : ck_so nL SG (S.1, st, S.2.2.1.filter (fun m => !(m.1 == t)), S.2.2.2) n ws' sh sc ls vs' :=
  ⟨h.1, h.2.1.mv hx, hs.imp fun _ _ z => z.mv hx, h.2.2.2.1.wr hx, h.2.2.2.2⟩
/-- a note of the signs, whose number is i - d -/
def ck_gf (F tS i : Nat) (d : Int) (S : ck_S) : Option (Nat × Nat × Nat × Nat) := S.2.2.1.findSome? (fun x => if x.1 == tS && (x.2.1 == 0 && (decide (20 ≤ x.2.2.1 ∧ x.2.2.1 < 30) && (ck_ent S.2.2.2.1 S.2.2.2.2.1 F i x.2.2.2.1 d && ck_ent S.2.2.2.1 S.2.2.2.2.1 F x.2.2.2.1 i (-d)))) then (match x.2.2.2.2 with
  | [c, o] => some (x.2.2.1, x.2.2.2.1, c, o)
  | _ => none) else none)
theorem ck_gf_ok {F tS i : Nat} {d : Int} (h : ck_so nL SG S n ws sh sc ls vs) {y : Nat × Nat × Nat × Nat} (hf : ck_gf F tS i d S = some y) (hu : ∀ t ∈ SG, ∀ q r : Nat, sh[q]? = some t → sh[r]? = some t → q = r) {q a : Nat} {e : va_E} (hq : ws[q]? = some (a, e)) (ht : sh[q]? = some tS) :
    tS ∈ SG ∧ tS ≠ 0 ∧ 20 ≤ y.1 ∧ y.1 < 30 ∧ y.2.1 < S.2.2.2.1.length ∧ y.2.2.1 < S.2.2.2.1.length ∧ y.2.2.2 < S.2.2.2.1.length ∧ (n i).1 = (n y.2.1).1 + d ∧ ∃ (cA : ClassId) (len : Nat) (f : Nat → Int32), e = .inl (cA, len, .inl f) ∧ ck_ng y.1 f (n y.2.1).1 [(n y.2.2.1).1, (n y.2.2.2).1] := by
  obtain ⟨x, hx, h1⟩ := List.exists_of_findSome?_eq_some hf
  split at h1
  · rename_i hc
    simp only [Bool.and_eq_true, beq_iff_eq, decide_eq_true_eq] at hc
    obtain ⟨c1, c2, c3, c4, c5⟩ := hc
    have p1 := ck_ent_ok h.2.2.2.2.1 h.2.2.2.2.2 F _ _ _ c4
    have p2 := ck_ent_ok h.2.2.2.2.1 h.2.2.2.2.2 F _ _ _ c5
    split at h1
    · rename_i c o hl
      have ey := Option.some.inj h1
      subst ey
      rcases h.2.2.2.1 x hx with ⟨-, -, ⟨z, -⟩ | ⟨z, -⟩⟩ | ⟨-, -, q1, a', oo, v, -, -, -, w⟩ | ⟨w0, w1, w2, w3, w4, w5, q1, a', cA, len, f, w6, w7, w8⟩
      · omega
      · omega
      · exfalso
        have w := w.2
        split at w <;> omega
      · rw [c1] at w1 w2 w6
        have eq := hu tS w2 q1 q w6 ht
        subst eq
        rw [hq] at w7
        have ee := congrArg Prod.snd (Option.some.inj w7)
        rw [hl] at w5 w8
        unfold ck_nt at w8
        rw [if_pos c3.2] at w8
        exact ⟨w2, w1, c3.1, c3.2, w4, w5 c (by simp), w5 o (by simp), by dsimp only; omega, cA, len, f, ee, w8⟩
    · cases h1
  · cases h1
/-- what a read of the sign on top says -/
def ck_G3 (tS i m c o : Nat) (s : Int) (len : Nat) (S : ck_S) (st : List ck_V) : ck_S :=
  (S.1, (0, S.2.2.2.1.length, []) :: st, (tS, 0, (21, i, [(S.2.2.2.1 ++ [(s, s)]).length, o])) :: (tS, 0, (22, m, [c, o])) :: S.2.2.1, (S.2.2.2.1 ++ [(s, s)]) ++ [(0, (len : Int))], [((S.2.2.2.1 ++ [(s, s)]).length, c, -1), (c, (S.2.2.2.1 ++ [(s, s)]).length, 1), ((S.2.2.2.1 ++ [(s, s)]).length, i, 0), (0, (S.2.2.2.1 ++ [(s, s)]).length, 0), (o, i, 0)] ++ S.2.2.2.2.1, S.2.2.2.2.2)
def ck_G40 (tS i m c o : Nat) (len : Nat) (S : ck_S) (st : List ck_V) : ck_S :=
  (S.1, (0, S.2.2.2.1.length, []) :: st, (tS, 0, (20, i, [c, (S.2.2.2.1 ++ [((40 : Int), (40 : Int))]).length])) :: (tS, 0, (21, m, [c, o])) :: S.2.2.1, (S.2.2.2.1 ++ [((40 : Int), (40 : Int))]) ++ [(0, (len : Int))], [((S.2.2.2.1 ++ [((40 : Int), (40 : Int))]).length, o, -1), (o, (S.2.2.2.1 ++ [((40 : Int), (40 : Int))]).length, 1), ((S.2.2.2.1 ++ [((40 : Int), (40 : Int))]).length, i, 0), (0, (S.2.2.2.1 ++ [((40 : Int), (40 : Int))]).length, 0), (c, i, 0)] ++ S.2.2.2.2.1, S.2.2.2.2.2)
def ck_G45 (tS i c o : Nat) (S : ck_S) (st : List ck_V) : ck_S :=
  (S.1, (0, S.2.2.2.1.length, []) :: st, (tS, 0, (20, i, [c, o])) :: S.2.2.1, S.2.2.2.1 ++ [(45, 45)], [(c, i, 0), (o, i, 0)] ++ S.2.2.2.2.1, S.2.2.2.2.2)
def ck_sGl (F tS len : Nat) (S : ck_S) : Option (List ck_S) := match S.2.1 with
  | i :: r :: st => if i.1 = 0 ∧ r.1 = 2 ∧ r.2.2 = [tS] ∧ ck_ent S.2.2.2.1 S.2.2.2.2.1 F 0 i.2.1 0 = true ∧ ck_ent S.2.2.2.1 S.2.2.2.2.1 F i.2.1 0 ((len : Int) - 1) = true then (match ck_gf F tS i.2.1 (-1) S with
    | some (tag, m, c, o) => some ([ck_G3 tS i.2.1 m c o 38 len S st, ck_G3 tS i.2.1 m c o 62 len S st, ck_G3 tS i.2.1 m c o 124 len S st] ++ ((if tag < 22 then [ck_G40 tS i.2.1 m c o len S st] else []) ++ (if tag < 21 then [ck_G45 tS i.2.1 c o S st] else [])))
    | none => none) else none
  | _ => none
theorem ck_cn_s (p : Int32 → Bool) (f : Nat → Int32) (k : Nat) : ck_cn p f (k + 1) = ck_cn p f k + if p (f k) = true then 1 else 0 := rfl
theorem ck_cn_le (p : Int32 → Bool) (f : Nat → Int32) : ∀ k, ck_cn p f k ≤ k
  | 0 => Nat.le_refl _
  | k + 1 => by
    have := ck_cn_le p f k
    unfold ck_cn
    split <;> omega
end
section
variable {Fc : Nat → Nat × fR} {s0 : fS} {p : Program} {l : Launch} {e : Env} {R : Room} {s : State} {m : MethodId} {args : Array Value} {below : List Frame} {meth : Method} {c : Code} {Q : State → Prop} {cc : ByteArray} {own : String} {D : va_G} {cl : List vw_C} {tys : List (ClassId × FieldType)} {M : ck_Me} {sc : ck_sc} {A : Nat → Prop} {ws0 : va_W} {sh0 : List Nat} {S : ck_S} {pc : Nat}
theorem ck_sGl_ok (X : ck_cx p l e R s m args below meth c cc own D cl tys M sc A) {F tS len k0 : Nat} {Ts : List ck_T} (hTT : (mTT M)[tS]? = some (1, len, k0, Ts)) {L : List ck_S} (h : ck_sGl F tS len S = some L) (hk : ∀ S' ∈ L, ck_g Fc s0 p l e R s m args below meth c Q D cl tys M sc A ws0 sh0 S' (pc + 1)) (hdg : decode cc pc = .ok (.iaload, 1)) : ck_g Fc s0 p l e R s m args below meth c Q D cl tys M sc A ws0 sh0 S pc := by
  intro n ws sh H locs ls vs o hw hx hP hD hS
  unfold ck_sGl at h
  split at h
  · rename_i i r st hst
    split at h
    · rename_i hc
      obtain ⟨hi0, hr2, hrt, hb1, hb2⟩ := hc
      split at h
      · rename_i tag m' c' o' hf
        have eL := Option.some.inj h
        have o3 := o.2.2.1
        rw [hst] at o3
        obtain ⟨iv, vs1, rfl, h2, h3⟩ := ck_hd o3
        obtain ⟨ra, vs2, rfl, h4, h5⟩ := ck_hd h3
        obtain ⟨hil, x, rfl, ex⟩ := h2.i hi0
        obtain ⟨-, -, q, a, e0, t, rfl, hq, ht, htm⟩ := h4.r hr2
        rw [hrt] at htm
        rw [List.mem_singleton.mp htm] at ht
        obtain ⟨g1, g2, g3, g4, g5, g6, g7, g8, cA, len1, f, rfl, hng⟩ := ck_gf_ok o hf hw.2.2 hq ht
        dsimp only at g3 g4 g5 g6 g7 g8 hng
        obtain ⟨td, d1, d2⟩ := hw.2.1 q a _ tS hq ht
        have etd : td = (1, len, k0, Ts) := Option.some.inj (d1.symm.trans hTT)
        subst etd
        obtain ⟨cA', f', t1, e1, -⟩ := d2
        cases e1
        have p1 := ck_ent_ok o.2.2.2.2.1 o.2.2.2.2.2 F _ _ _ hb1
        have p2 := ck_ent_ok o.2.2.2.2.1 o.2.2.2.2.2 F _ _ _ hb2
        rw [o.1.2] at p1 p2
        have p3 : 0 ≤ (n i.2.1).1 := by omega
        have hxn : x.toNatClampNeg = (n i.2.1).1.toNat := by show x.toInt.toNat = _; rw [ex]
        have hin : vp_in x len := by
          rintro (z | z)
          · have := Int32.lt_iff_toInt_lt.mp z
            rw [Int32.toInt_zero] at this
            omega
          · rw [hxn] at z
            omega
        obtain ⟨k, hkm⟩ : ∃ k, (n m').1.toNat = k + 1 := ⟨(n i.2.1).1.toNat, by omega⟩
        have hki : (n i.2.1).1.toNat = k := by omega
        unfold ck_ng at hng
        rw [hkm] at hng
        obtain ⟨n1, n2, n3, n4, n5, n6, n7⟩ := hng
        rw [Nat.add_sub_cancel] at n6 n7
        have n4' : ∀ j, j < k → ck_b3 (f j) = true ∨ f j = 40 ∨ f j = 45 := fun j hj => n4 j (by omega)
        have n5' : ∀ j, j + 1 < k → f j = 45 → f (j + 1) = 45 ∨ f (j + 1) = 40 := fun j hj => n5 j (by omega)
        refine WG.up (fun h => va_iald X.1 X.2.1 X.2.2.2.1 hP q _ hq t1 hin hdg h) X.2.1 hdg (fun lg => ⟨x, a, _, rfl, Or.inl ⟨ck_nsc X hD hq, q, _, cA, f, hq, ck_in_lt hin, rfl⟩⟩) ?_
        rw [hxn, hki]
        have hN1 : ∀ z : Int × Int, (S.2.2.2.1 ++ [z]).length = S.2.2.2.1.length + 1 := fun z => by simp
        -- the two numbers that are new
        have fin : ∀ (sv : Int) (w : Nat) (hwl : w < S.2.2.2.1.length) (u : Nat) (hul : u < S.2.2.2.1.length) (hu : (n u).1 ≤ (k : Int)) (S' : ck_S) (notes : List ck_M), S' ∈ L → (f k).toInt = sv → 1 ≤ (n w).1 → (n w).1 ≤ (k : Int) + 1 →
            S' = (S.1, (0, S.2.2.2.1.length, []) :: st, notes ++ S.2.2.1, (S.2.2.2.1 ++ [(sv, sv)]) ++ [(0, (len : Int))], [((S.2.2.2.1 ++ [(sv, sv)]).length, w, -1), (w, (S.2.2.2.1 ++ [(sv, sv)]).length, 1), ((S.2.2.2.1 ++ [(sv, sv)]).length, i.2.1, 0), (0, (S.2.2.2.1 ++ [(sv, sv)]).length, 0), (u, i.2.1, 0)] ++ S.2.2.2.2.1, S.2.2.2.2.2) →
            (∀ n2 : ck_N, (∀ j, j < S.2.2.2.1.length → n2 j = n j) → (n2 (S.2.2.2.1 ++ [(sv, sv)]).length).1 = (n w).1 - 1 → ∀ y ∈ notes, ck_tn (mSG M) ws sh n2 ((S.2.2.2.1 ++ [(sv, sv)]) ++ [(0, (len : Int))]).length y) →
            WG (tM M Fc sc.1) s0 p l e R s m args below meth c ws sh H locs (ck_oc R M + S.2.2.2.2.2.1) (ck_os R M + S.2.2.2.2.2.2) Q ((pc + 1), ls, (.int (f k) :: vs2)) := by
          intro sv w hwl u hul hu S' notes hS' hfv hw1 hw2 eS hnotes
          have o1 := o.new h5 (tag := 0) (ts := []) (iv := (sv, sv)) (rs := []) (x := ((f k).toInt, .null)) (v := .int (f k)) (.mi (Nat.lt_succ_self _) (by rw [ck_nx_eq])) (fun _ => by rw [hfv]; exact ⟨Int.le_refl _, Int.le_refl _⟩) (fun r hr => by cases hr)
          have hlt : ∀ j, j < S.2.2.2.1.length → ck_nx (ck_nx n S.2.2.2.1.length ((f k).toInt, .null)) (S.2.2.2.1 ++ [(sv, sv)]).length ((n w).1 - 1, .null) j = n j := fun j hj => by
            rw [ck_nx_lt j (by rw [hN1]; omega), ck_nx_lt j hj]
          have o2 := ck_so.sym (iv := (0, (len : Int))) (rs := [((S.2.2.2.1 ++ [(sv, sv)]).length, w, -1), (w, (S.2.2.2.1 ++ [(sv, sv)]).length, 1), ((S.2.2.2.1 ++ [(sv, sv)]).length, i.2.1, 0), (0, (S.2.2.2.1 ++ [(sv, sv)]).length, 0), (u, i.2.1, 0)]) (z := (n w).1 - 1) o1 (fun _ => ⟨by omega, by omega⟩) (by
            intro r hr
            show r.1 < (S.2.2.2.1 ++ [(sv, sv)]).length + 1 ∧ r.2.1 < (S.2.2.2.1 ++ [(sv, sv)]).length + 1 ∧ (ck_nx (ck_nx n S.2.2.2.1.length ((f k).toInt, .null)) (S.2.2.2.1 ++ [(sv, sv)]).length ((n w).1 - 1, .null) r.1).1 ≤ (ck_nx (ck_nx n S.2.2.2.1.length ((f k).toInt, .null)) (S.2.2.2.1 ++ [(sv, sv)]).length ((n w).1 - 1, .null) r.2.1).1 + r.2.2
            simp only [List.mem_cons, List.not_mem_nil, or_false] at hr
            rcases hr with rfl | rfl | rfl | rfl | rfl
            · refine ⟨Nat.lt_succ_self _, by rw [hN1]; dsimp only; omega, ?_⟩
              dsimp only
              rw [ck_nx_eq, hlt w hwl]
              dsimp only
              omega
            · refine ⟨by rw [hN1]; dsimp only; omega, Nat.lt_succ_self _, ?_⟩
              dsimp only
              rw [ck_nx_eq, hlt w hwl]
              dsimp only
              omega
            · refine ⟨Nat.lt_succ_self _, by rw [hN1]; dsimp only; omega, ?_⟩
              dsimp only
              rw [ck_nx_eq, hlt _ hil]
              dsimp only
              omega
            · refine ⟨by rw [hN1]; dsimp only; omega, Nat.lt_succ_self _, ?_⟩
              dsimp only
              rw [ck_nx_eq, hlt 0 o.1.1, o.1.2]
              dsimp only
              omega
            · refine ⟨by rw [hN1]; dsimp only; omega, by rw [hN1]; dsimp only; omega, ?_⟩
              dsimp only
              rw [hlt _ hul, hlt _ hil]
              omega)
          have o3' : ck_so (mnL M) (mSG M) S' (ck_nx (ck_nx n S.2.2.2.1.length ((f k).toInt, .null)) (S.2.2.2.1 ++ [(sv, sv)]).length ((n w).1 - 1, .null)) ws sh sc ls (.int (f k) :: vs2) := by
            rw [eS]
            refine ⟨o2.1, o2.2.1, o2.2.2.1, fun y hy => ?_, o2.2.2.2.2⟩
            rcases List.mem_append.mp hy with hy | hy
            · exact Or.inr (Or.inr (hnotes _ hlt (by rw [ck_nx_eq]) y hy))
            · exact o2.2.2.2.1 y hy
          exact (hk S' hS').at o3' hw hx hP hD hS (by rw [eS])
        have hlen2 : ∀ z : Int × Int, ((S.2.2.2.1 ++ [z]) ++ [(0, (len : Int))]).length = S.2.2.2.1.length + 2 := fun z => by simp
        rcases n4 k (Nat.lt_succ_self _) with hb | hb | hb
        · -- takes two values
          have hc1 : (n c').1 = (ck_cn ck_b3 f k : Int) + 1 := by
            rw [n2, ck_cn_s, if_pos hb]
            rfl
          have h40 : (f k == 40) = false := by
            cases h40 : (f k == 40) with
            | false => rfl
            | true =>
              rw [eq_of_beq h40] at hb
              exact absurd hb (by decide)
          have ho1 : (n o').1 = (ck_cn (fun x => x == 40) f k : Int) := by
            rw [n3, ck_cn_s, h40]
            simp
          have hle := ck_cn_le ck_b3 f k
          have hle2 := ck_cn_le (fun x => x == 40) f k
          have go : ∀ sv : Int, (f k).toInt = sv → ck_G3 tS i.2.1 m' c' o' sv len S st ∈ L → WG (tM M Fc sc.1) s0 p l e R s m args below meth c ws sh H locs (ck_oc R M + S.2.2.2.2.2.1) (ck_os R M + S.2.2.2.2.2.2) Q ((pc + 1), ls, (.int (f k) :: vs2)) := by
            intro sv hsv hmem
            refine fin sv c' g6 o' g7 (by omega) _ [(tS, 0, (21, i.2.1, [(S.2.2.2.1 ++ [(sv, sv)]).length, o'])), (tS, 0, (22, m', [c', o']))] hmem hsv (by omega) (by omega) rfl ?_
            intro n2' e1 e2 y hy
            simp only [List.mem_cons, List.not_mem_nil, or_false] at hy
            rcases hy with rfl | rfl
            · refine ⟨by dsimp only; omega, g2, g1, rfl, by rw [hlen2]; dsimp only; omega, fun j hj => ?_, q, a, cA, len, f, ht, hq, ?_⟩
              · simp only [List.mem_cons, List.not_mem_nil, or_false] at hj
                rcases hj with rfl | rfl
                · rw [hlen2, hN1]; omega
                · rw [hlen2]; omega
              · dsimp only [List.map]
                unfold ck_nt
                rw [if_pos (by decide), e1 _ hil, e2, e1 _ g7]
                refine ⟨p3, by rw [hki]; omega, by rw [hki]; exact ho1, by rw [hki]; exact n4', by rw [hki]; exact n5', fun _ hpos he => ?_, fun z => absurd z (by decide)⟩
                rw [hki] at hpos he
                have := n5 (k - 1) (by omega) he
                rw [show k - 1 + 1 = k by omega] at this
                rcases this with z | z
                · rw [z] at hb; exact absurd hb (by decide)
                · rw [z] at hb; exact absurd hb (by decide)
            · refine ⟨by dsimp only; omega, g2, g1, rfl, by rw [hlen2]; dsimp only; omega, fun j hj => ?_, q, a, cA, len, f, ht, hq, ?_⟩
              · simp only [List.mem_cons, List.not_mem_nil, or_false] at hj
                rcases hj with rfl | rfl
                · rw [hlen2]; omega
                · rw [hlen2]; omega
              · dsimp only [List.map]
                unfold ck_nt
                rw [if_pos (by decide), e1 _ g5, e1 _ g6, e1 _ g7]
                refine ⟨n1, by rw [hkm]; exact n2, by rw [hkm]; exact n3, by rw [hkm]; exact n4, by rw [hkm]; exact n5, fun _ _ he => ?_, fun _ => ⟨by omega, by rw [hkm]; exact hb⟩⟩
                rw [hkm, Nat.add_sub_cancel] at he
                rw [he] at hb
                exact absurd hb (by decide)
          have hb3 := hb
          unfold ck_b3 at hb3
          rw [Bool.or_eq_true, Bool.or_eq_true] at hb3
          rcases hb3 with z | z | z
          · exact go 38 (by rw [eq_of_beq z]; rfl) (by rw [← eL]; simp)
          · exact go 62 (by rw [eq_of_beq z]; rfl) (by rw [← eL]; simp)
          · exact go 124 (by rw [eq_of_beq z]; rfl) (by rw [← eL]; simp)
        · -- an open bracket
          have hnb : ck_b3 (f k) = false := by rw [hb]; decide
          have hc1 : (n c').1 = (ck_cn ck_b3 f k : Int) := by
            rw [n2, ck_cn_s, hnb]
            simp
          have ho1 : (n o').1 = (ck_cn (fun x => x == 40) f k : Int) + 1 := by
            rw [n3, ck_cn_s, hb]
            rfl
          have hle := ck_cn_le (fun x => x == 40) f k
          have htag : tag < 22 := by
            rcases Nat.lt_or_ge tag 22 with z | z
            · exact z
            · have := (n7 z).2
              rw [hnb] at this
              cases this
          refine fin 40 o' g7 c' g6 (by have := ck_cn_le ck_b3 f k; omega) (ck_G40 tS i.2.1 m' c' o' len S st) [(tS, 0, (20, i.2.1, [c', (S.2.2.2.1 ++ [((40 : Int), (40 : Int))]).length])), (tS, 0, (21, m', [c', o']))] (by rw [← eL, if_pos htag]; simp) (by rw [hb]; rfl) (by omega) (by omega) rfl ?_
          intro n2' e1 e2 y hy
          simp only [List.mem_cons, List.not_mem_nil, or_false] at hy
          rcases hy with rfl | rfl
          · refine ⟨by dsimp only; omega, g2, g1, rfl, by rw [hlen2]; dsimp only; omega, fun j hj => ?_, q, a, cA, len, f, ht, hq, ?_⟩
            · simp only [List.mem_cons, List.not_mem_nil, or_false] at hj
              rcases hj with rfl | rfl
              · rw [hlen2]; omega
              · rw [hlen2, hN1]; omega
            · dsimp only [List.map]
              unfold ck_nt
              rw [if_pos (by decide), e1 _ hil, e2, e1 _ g6]
              exact ⟨p3, by rw [hki]; exact hc1, by rw [hki]; omega, by rw [hki]; exact n4', by rw [hki]; exact n5', fun z => absurd z (by decide), fun z => absurd z (by decide)⟩
          · refine ⟨by dsimp only; omega, g2, g1, rfl, by rw [hlen2]; dsimp only; omega, fun j hj => ?_, q, a, cA, len, f, ht, hq, ?_⟩
            · simp only [List.mem_cons, List.not_mem_nil, or_false] at hj
              rcases hj with rfl | rfl
              · rw [hlen2]; omega
              · rw [hlen2]; omega
            · dsimp only [List.map]
              unfold ck_nt
              rw [if_pos (by decide), e1 _ g5, e1 _ g6, e1 _ g7]
              refine ⟨n1, by rw [hkm]; exact n2, by rw [hkm]; exact n3, by rw [hkm]; exact n4, by rw [hkm]; exact n5, fun _ _ he => ?_, fun z => absurd z (by decide)⟩
              rw [hkm, Nat.add_sub_cancel, hb] at he
              exact absurd he (by decide)
        · -- a turn
          have hnb : ck_b3 (f k) = false := by rw [hb]; decide
          have hc1 : (n c').1 = (ck_cn ck_b3 f k : Int) := by
            rw [n2, ck_cn_s, hnb]
            simp
          have ho1 : (n o').1 = (ck_cn (fun x => x == 40) f k : Int) := by
            rw [n3, ck_cn_s, hb]
            rfl
          have htag : tag < 21 := by
            rcases Nat.lt_or_ge tag 21 with z | z
            · exact z
            · exact absurd hb (n6 z (Nat.succ_pos _))
          have o1 := o.new h5 (tag := 0) (ts := []) (iv := (45, 45)) (rs := [(c', i.2.1, 0), (o', i.2.1, 0)]) (x := ((f k).toInt, .null)) (v := .int (f k)) (.mi (Nat.lt_succ_self _) (by rw [ck_nx_eq])) (fun _ => by rw [hb]; exact ⟨Int.le_refl _, Int.le_refl _⟩) (fun r hr => by
            have hle := ck_cn_le ck_b3 f k
            have hle2 := ck_cn_le (fun x => x == 40) f k
            simp only [List.mem_cons, List.not_mem_nil, or_false] at hr
            rcases hr with rfl | rfl
            · refine ⟨by dsimp only; omega, by dsimp only; omega, ?_⟩
              dsimp only
              rw [ck_nx_lt _ g6, ck_nx_lt _ hil]
              omega
            · refine ⟨by dsimp only; omega, by dsimp only; omega, ?_⟩
              dsimp only
              rw [ck_nx_lt _ g7, ck_nx_lt _ hil]
              omega)
          have o2 : ck_so (mnL M) (mSG M) (ck_G45 tS i.2.1 c' o' S st) _ ws sh sc ls (.int (f k) :: vs2) := ck_so.nt (x := (tS, 0, (20, i.2.1, [c', o']))) o1 (by
            show ck_tn (mSG M) ws sh _ (S.2.2.2.1 ++ [((45 : Int), (45 : Int))]).length _
            refine ⟨by dsimp only; omega, g2, g1, rfl, by rw [hN1]; dsimp only; omega, fun j hj => ?_, q, a, cA, len, f, ht, hq, ?_⟩
            · simp only [List.mem_cons, List.not_mem_nil, or_false] at hj
              rcases hj with rfl | rfl
              · rw [hN1]; omega
              · rw [hN1]; omega
            · dsimp only [List.map]
              unfold ck_nt
              rw [if_pos (by decide), ck_nx_lt _ hil, ck_nx_lt _ g6, ck_nx_lt _ g7]
              exact ⟨p3, by rw [hki]; exact hc1, by rw [hki]; exact ho1, by rw [hki]; exact n4', by rw [hki]; exact n5', fun z => absurd z (by decide), fun z => absurd z (by decide)⟩)
          exact (hk _ (by rw [← eL, if_pos htag]; simp)).at o2 hw hx hP hD hS rfl
      · cases h
    · cases h
  · cases h
end
end
