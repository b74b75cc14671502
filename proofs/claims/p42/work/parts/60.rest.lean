section
variable {p : Program} {l : Launch} {e : Env} {R : Room} {s : State} {m : MethodId} {args : Array Value} {below : List Frame} {meth : Method} {c : Code} {Q : State → Prop} {cc : ByteArray} {own : String} {D : va_G} {cl : List vw_C} {tys : List (ClassId × FieldType)} {M : ck_Me} {sc : ck_sc} {A : Nat → Prop} {ws0 : va_W} {sh0 : List Nat} {Fc : Nat → Nat × fR} {s0 : fS} {k : ck_S → Bool} {S : ck_S} {pc pc' : Nat}
theorem ck_isr_ok {ws : va_W} {sh : List Nat} {n : ck_N} {N : Nat} {b : ck_V} {v : Value} (h : ck_isr b = true) (hv : ck_vo ws sh sc n N b v) : v = .null ∨ ∃ x : Nat, v = .ref x := by
  unfold ck_isr at h
  simp only [Bool.or_eq_true, beq_iff_eq] at h
  unfold ck_vo at hv
  rcases h with z | z | z | z <;> rw [z] at hv
  · obtain ⟨-, -, q, a, e', t, rfl, -⟩ := hv
    exact Or.inr ⟨a, rfl⟩
  · rcases hv.2.2 with w | ⟨q, a, e', t, rfl, -⟩
    · exact Or.inl w
    · exact Or.inr ⟨a, rfl⟩
  · exact Or.inl hv.2.2
  · obtain ⟨-, b, L, xs, -, rfl, -⟩ := hv
    exact Or.inr ⟨b, rfl⟩
theorem ck_rem {x y : Int32} : x - x / y * y = x % y := by
  apply Int32.toInt_inj.mp
  rw [Int32.toInt_sub, Int32.toInt_mul, Int32.toInt_div, Int.bmod_mul_bmod, Int.sub_bmod_bmod, Int32.toInt_mod]
  have e : x.toInt - x.toInt.tdiv y.toInt * y.toInt = x.toInt.tmod y.toInt := by rw [Int.tmod_def, Int.mul_comm]
  rw [e, ← Int32.toInt_mod]
  exact Int32.toInt_bmod (x % y)
theorem ck_isr_ne {b : ck_V} (h : ck_isr b = true) : b.1 ≠ 1 := by
  unfold ck_isr at h
  simp only [Bool.or_eq_true, beq_iff_eq] at h
  omega
theorem ck_iinc_ok (X : ck_cx p l e R s m args below meth c cc own D cl tys M sc A) {i : Nat} {c0 : Int} {k : ck_S → Bool} (h : (decide (-32768 ≤ c0 ∧ c0 < 32768) && (decide (i < mnL M) && match ck_look S.1 i with
    | some v => v.1 == 0 && (let S1 := ck_cst S 0 c0
        match ck_binS 32 0 S1 S.2.1 0 v.2.1 S.2.2.2.1.length with
        | some S' => (match S'.2.1 with
          | w :: _ => k (ck_st1 S.1 i w, S.2.1, S'.2.2)
          | [] => false)
        | none => false)
    | none => false)) = true) (hk : ∀ S, k S = true → ck_g Fc s0 p l e R s m args below meth c Q D cl tys M sc A ws0 sh0 S (pc + 3)) (hdg : decode cc pc = .ok (.iinc i c0, 3)) : ck_g Fc s0 p l e R s m args below meth c Q D cl tys M sc A ws0 sh0 S pc := by
  intro n ws sh H locs ls vs o hw hx hP hD hS
  rw [Bool.and_eq_true, Bool.and_eq_true, decide_eq_true_eq, decide_eq_true_eq] at h
  obtain ⟨hc, hi, h⟩ := h
  split at h
  · rename_i v hv
    rw [Bool.and_eq_true] at h
    obtain ⟨h0, h⟩ := h
    obtain ⟨lv, l1, l2⟩ := id o.2.1
    have hv2 := hv
    unfold ck_look at hv
    cases hf : S.1.find? (fun q => q.1 == i) with
    | none => rw [hf] at hv; cases hv
    | some q0 =>
      rw [hf] at hv
      have e1 : q0.2 = v := Option.some.inj hv
      have hm := List.mem_of_find?_eq_some hf
      have hp := List.find?_some hf
      have hi0 : q0.1 = i := eq_of_beq hp
      obtain ⟨y, hy, z1, z2⟩ := ck_two.mem l2 hm
      rw [e1] at z2
      obtain ⟨hlt, x, ex, ex2⟩ := z2.i (eq_of_beq h0)
      obtain ⟨kk, hkk⟩ := List.getElem?_of_mem hy
      have ey : y = (i, .int x) := by rw [← hi0, z1, ← ex]
      rw [ey] at hkk
      dsimp only at h
      split at h
      · rename_i S' hS'
        split at h
        · rename_i w st hst
          have ec : (Int32.ofInt c0).toInt = c0 := Int32.toInt_ofInt_of_le (by omega) (by omega)
          have oc : ck_so (mnL M) (mSG M) (ck_cst S 0 c0) (ck_nx n S.2.2.2.1.length (c0, .null)) ws sh sc ls (.int (Int32.ofInt c0) :: vs) := o.new o.2.2.1 (tag := 0) (ts := []) (iv := (c0, c0)) (rs := []) (x := (c0, .null)) (v := .int (Int32.ofInt c0)) (.mi (Nat.lt_succ_self _) (by rw [ck_nx_eq]; exact ec)) (fun _ => ⟨Int.le_refl _, Int.le_refl _⟩) (fun r hr => by cases hr)
          have hN : (ck_cst S 0 c0).2.2.2.1.length = S.2.2.2.1.length + 1 := by simp [ck_cst, ck_new]
          have hst1 : ck_two (ck_vo ws sh sc (ck_nx n S.2.2.2.1.length (c0, .null)) (ck_cst S 0 c0).2.2.2.1.length) S.2.1 vs := by
            rw [hN]
            exact o.2.2.1.imp fun _ _ z => z.up ck_nx_lt (Nat.le_succ _)
          have na : (ck_nx n S.2.2.2.1.length (c0, .null) v.2.1).1 = x.toInt := by rw [ck_nx_lt _ hlt]; exact ex2.symm
          have nb : (ck_nx n S.2.2.2.1.length (c0, .null) S.2.2.2.1.length).1 = (Int32.ofInt c0).toInt := by rw [ck_nx_eq]; exact ec.symm
          obtain ⟨n', o', ec', q1, q2⟩ := ck_binS_ok oc hst1 hS' (by rw [hN]; omega) (by rw [hN]; omega) (v := .int (x + Int32.ofInt c0)) (Z := (x + Int32.ofInt c0).toInt) (fun ix iy h1 h2 => by
              rw [na] at h1
              rw [nb] at h2
              refine ⟨ck_bin32 0 h1 h2, fun _ he => ?_, (fun z => by cases z), (fun z => by cases z)⟩
              rw [na, nb]
              exact ck_cl_eq (w := 32) (by decide) (r := (x + Int32.ofInt c0).toBitVec) (z := x.toInt + (Int32.ofInt c0).toInt) (x := (ix.1 + iy.1, ix.2 + iy.2)) (Int32.toInt_add _ _) ⟨Int.add_le_add h1.1 h2.1, Int.add_le_add h1.2 h2.2⟩ (ck_cl_in he))
            (fun z => by cases z) (fun z => by cases z) (fun m N k hk hz => .mi hk hz.symm)
          have o2 := o'.2.2.1
          rw [hst] at o2
          obtain ⟨lv', m1, m2⟩ := id o'.2.1
          have hS1 : S'.1 = S.1 := by
            unfold ck_binS at hS'
            split at hS'
            · split at hS'
              · dsimp only at hS'
                split at hS' <;> (have e := Option.some.inj hS'; subst e; rfl)
              · cases hS'
            · cases hS'
          rw [hS1] at m2
          -- the locals' own list, with the values that stand there
          refine WG.st l1 (fun lv0 h0 hs0 kk0 => by
              obtain ⟨k0, hk0⟩ := List.getElem?_of_mem (hs0 _ (List.mem_of_getElem? hkk))
              exact lv_iinc X.1 X.2.1 (v := x + Int32.ofInt c0) hdg h0 hk0 rfl hi rfl kk0) X.2.1 hdg (fun lg hlg => ⟨x, fun w hw => by
              have h1 := hlg.2.2 (i, w) hw
              have h2 := l1.2.2 (i, .int x) (List.mem_of_getElem? hkk)
              rw [h1] at h2
              cases h2
              rfl, rfl⟩) (fun ls' hls' => ?_)
          refine ck_g.at (hk _ h) ⟨o'.1, ?_, ?_, o'.2.2.2⟩ hw hx hP hD hS ec'
          · refine ⟨_, hls', ⟨rfl, o2.1⟩, ?_⟩
            have hall : ck_two (fun (x : Nat × ck_V) (y : Nat × Value) => x.1 = y.1 ∧ ck_vo ws sh sc n' S'.2.2.2.1.length x.2 y.2) S.1 lv := by
              -- two listings of the same locals: by the values that they hold
              have hup : ∀ (a : Nat × ck_V) (b : Nat × Value), (a.1 = b.1 ∧ ck_vo ws sh sc n S.2.2.2.1.length a.2 b.2) → a.1 = b.1 ∧ ck_vo ws sh sc n' S'.2.2.2.1.length a.2 b.2 := by
                rw [hN] at q1 q2
                exact fun a b hab => ⟨hab.1, hab.2.up (fun k hk => by rw [q1 k (by omega), ck_nx_lt k hk]) (by omega)⟩
              exact l2.imp hup
            exact hall.flt ck_flt1
          · rw [hN] at q1 q2
            exact o.2.2.1.imp fun _ _ z => z.up (fun k hk => by rw [q1 k (by omega), ck_nx_lt k hk]) (by dsimp only; omega)
        · cases h
      · cases h
  · cases h
theorem ck_sh_ok {tag : Nat} {T : Type} {mk : T → Value} (hty : ∀ (n : ck_N) (ws : va_W) (sh : List Nat) (N : Nat) (av : ck_V) (v : Value), av.1 = tag → ck_vo ws sh sc n N av v → ∃ x : T, v = mk x) {top : Int × Int} {k : ck_S → Bool} (h : (match S.2.1 with
    | b :: a :: st => b.1 == 0 && (a.1 == tag && k (ck_new S st tag [] top []))
    | _ => false) = true) (hk : ∀ S, k S = true → ck_g Fc s0 p l e R s m args below meth c Q D cl tys M sc A ws0 sh0 S (pc + 1))
    (row : ∀ (ws : va_W) (sh : List Nat) (H : Heap) (locs : List Loc) (ls : Array Slot) (vs : List Value) (x : T) (y : Int32), (∀ (z : Int) (v : Value), ck_in top z → (∀ (ws : va_W) (sh : List Nat) (m : ck_N) (N k : Nat), k < N → (m k).1 = z → ck_vo ws sh sc m N (tag, k, []) v) → WG (tM M Fc sc.1) s0 p l e R s m args below meth c ws sh H locs (ck_oc R M + S.2.2.2.2.2.1) (ck_os R M + S.2.2.2.2.2.2) Q ((pc + 1), ls, (v :: vs))) → WG (tM M Fc sc.1) s0 p l e R s m args below meth c ws sh H locs (ck_oc R M + S.2.2.2.2.2.1) (ck_os R M + S.2.2.2.2.2.2) Q (pc, ls, (.int y :: mk x :: vs))) : ck_g Fc s0 p l e R s m args below meth c Q D cl tys M sc A ws0 sh0 S pc := by
  intro n ws sh H locs ls vs o hw hx hP hD hS
  split at h
  · rename_i b a st hst
    rw [Bool.and_eq_true, Bool.and_eq_true] at h
    have o3 := o.2.2.1
    rw [hst] at o3
    obtain ⟨v, vs1, rfl, h2, h3⟩ := ck_hd o3
    obtain ⟨u, vs2, rfl, h4, h5⟩ := ck_hd h3
    obtain ⟨-, y, rfl, -⟩ := h2.i (eq_of_beq h.1)
    obtain ⟨x, rfl⟩ := hty n ws sh _ a u (eq_of_beq h.2.1) h4
    exact row ws sh H locs ls vs2 x y (fun z v hz hv => ck_push (hk _ h.2.2) o hw hx hP hD hS h5 hz (fun m N k => hv ws sh m N k))
  · cases h
theorem ck_lshl_ok (X : ck_cx p l e R s m args below meth c cc own D cl tys M sc A) {k : ck_S → Bool} (h : (match S.2.1 with
    | b :: a :: st => b.1 == 0 && (a.1 == 1 && (match S.2.2.2.1[a.2.1]?, S.2.2.2.1[b.2.1]? with
      | some x, some y => decide (x.1 ≤ x.2 ∧ y.1 ≤ y.2) && k (ck_new S st 1 [] (ck_bin 64 6 x y) [])
      | _, _ => false))
    | _ => false) = true) (hk : ∀ S, k S = true → ck_g Fc s0 p l e R s m args below meth c Q D cl tys M sc A ws0 sh0 S (pc + 1)) (hdg : decode cc pc = .ok (.lshl, 1)) : ck_g Fc s0 p l e R s m args below meth c Q D cl tys M sc A ws0 sh0 S pc := by
  intro n ws sh H locs ls vs o hw hx hP hD hS
  split at h
  · rename_i b a st hst
    rw [Bool.and_eq_true, Bool.and_eq_true] at h
    have o3 := o.2.2.1
    rw [hst] at o3
    obtain ⟨v, vs1, rfl, h2, h3⟩ := ck_hd o3
    obtain ⟨u, vs2, rfl, h4, h5⟩ := ck_hd h3
    obtain ⟨-, y, rfl, ey⟩ := h2.i (eq_of_beq h.1)
    obtain ⟨-, x, rfl, ex⟩ := h4.j (eq_of_beq h.2.1)
    have h6 := h.2.2
    split at h6
    · rename_i ix iy hix hiy
      rw [Bool.and_eq_true, decide_eq_true_eq] at h6
      have b1 := o.2.2.2.2.1 _ _ hix h6.1.1
      have b2 := o.2.2.2.2.1 _ _ hiy h6.1.2
      rw [← ex] at b1
      rw [← ey] at b2
      exact WG.up (fun hh => lv_lshl X.1 X.2.1 hdg rfl hh) X.2.1 hdg (fun lg => ⟨x, y, _, rfl, rfl⟩) (ck_push (hk _ h6.2) o hw hx hP hD hS h5 (ck_lshl b1 b2) (fun _ _ _ g1 g2 => .ml g1 (by rw [g2])))
    · cases h6
  · cases h
theorem ck_ineg_ok (X : ck_cx p l e R s m args below meth c cc own D cl tys M sc A) {k : ck_S → Bool} (h : (match S.2.1 with
    | a :: st => a.1 == 0 && (match S.2.2.2.1[a.2.1]? with
      | some x => decide (x.1 ≤ x.2) && k (ck_new S st 0 [] (ck_cl 32 (-x.2, -x.1)) [])
      | none => false)
    | _ => false) = true) (hk : ∀ S, k S = true → ck_g Fc s0 p l e R s m args below meth c Q D cl tys M sc A ws0 sh0 S (pc + 1)) (hdg : decode cc pc = .ok (.ineg, 1)) : ck_g Fc s0 p l e R s m args below meth c Q D cl tys M sc A ws0 sh0 S pc := by
  intro n ws sh H locs ls vs o hw hx hP hD hS
  split at h
  · rename_i a st hst
    rw [Bool.and_eq_true] at h
    have o3 := o.2.2.1
    rw [hst] at o3
    obtain ⟨u, vs2, rfl, h4, h5⟩ := ck_hd o3
    obtain ⟨-, x, rfl, ex⟩ := h4.i (eq_of_beq h.1)
    have h6 := h.2
    split at h6
    · rename_i ix hix
      rw [Bool.and_eq_true, decide_eq_true_eq] at h6
      have b1 := o.2.2.2.2.1 _ _ hix h6.1
      rw [← ex] at b1
      refine WG.up (fun hh => lv_ineg X.1 X.2.1 hdg hh) X.2.1 hdg (fun lg => ⟨x, _, rfl, rfl⟩) (ck_push (hk _ h6.2) o hw hx hP hD hS h5 (z := (-x).toInt) (ck_cl_ok (w := 32) (by decide) (r := (-x).toBitVec) (z := -x.toInt) (Int32.toInt_neg x) ⟨?_, ?_⟩) (fun _ _ _ g1 g2 => .mi g1 (by rw [g2])))
      · have := b1.2
        dsimp only
        omega
      · have := b1.1
        dsimp only
        omega
    · cases h6
  · cases h
theorem ck_un_ok {f : ck_V → List ck_V → Bool} (h : ck_un S f = true) {nL : Nat} {SG : List Nat} {n : ck_N} {ws : va_W} {sh : List Nat} {ls : Array Slot} {vs : List Value} (o : ck_so nL SG S n ws sh sc ls vs) : ∃ (av : ck_V) (st : List ck_V) (v : Value) (vs' : List Value), S.2.1 = av :: st ∧ f av st = true ∧ vs = v :: vs' ∧ ck_vo ws sh sc n S.2.2.2.1.length av v ∧ ck_two (ck_vo ws sh sc n S.2.2.2.1.length) st vs' := by
  unfold ck_un at h
  split at h
  · rename_i av st hst
    have o3 := o.2.2.1
    rw [hst] at o3
    obtain ⟨v, vs', rfl, h2, h3⟩ := ck_hd o3
    exact ⟨av, st, v, vs', hst, h, rfl, h2, h3⟩
  · cases h
theorem ck_i2l_ok (X : ck_cx p l e R s m args below meth c cc own D cl tys M sc A) {k : ck_S → Bool} (h : ck_un S (fun v st => v.1 == 0 && k (ck_ss S ((1, v.2.1, []) :: st))) = true) (hk : ∀ S, k S = true → ck_g Fc s0 p l e R s m args below meth c Q D cl tys M sc A ws0 sh0 S (pc + 1)) (hdg : decode cc pc = .ok (.i2l, 1)) : ck_g Fc s0 p l e R s m args below meth c Q D cl tys M sc A ws0 sh0 S pc := by
  intro n ws sh H locs ls vs o hw hx hP hD hS
  obtain ⟨av, st, v, vs', -, h1, rfl, h2, h3⟩ := ck_un_ok h o
  rw [Bool.and_eq_true] at h1
  obtain ⟨hl, x, rfl, ex⟩ := h2.i (eq_of_beq h1.1)
  exact WG.up (fun hh => lv_i2l X.1 X.2.1 hdg rfl hh) X.2.1 hdg (fun lg => ⟨x, _, rfl, rfl⟩) ((hk _ h1.2).at (o.ss ⟨.ml hl (by rw [Int32.toInt_toInt64]; exact ex), h3⟩) hw hx hP hD hS rfl)
theorem ck_l2i_ok (X : ck_cx p l e R s m args below meth c cc own D cl tys M sc A) {k : ck_S → Bool} (h : ck_un S (fun v st => v.1 == 1 && (match S.2.2.2.1[v.2.1]? with
    | some x => decide (x.1 ≤ x.2) && k (if -2147483648 ≤ x.1 ∧ x.2 < 2147483648 then ck_ss S ((0, v.2.1, []) :: st) else ck_new S st 0 [] (ck_top 32) [])
    | none => false)) = true) (hk : ∀ S, k S = true → ck_g Fc s0 p l e R s m args below meth c Q D cl tys M sc A ws0 sh0 S (pc + 1)) (hdg : decode cc pc = .ok (.l2i, 1)) : ck_g Fc s0 p l e R s m args below meth c Q D cl tys M sc A ws0 sh0 S pc := by
  intro n ws sh H locs ls vs o hw hx hP hD hS
  obtain ⟨av, st, v, vs', -, h1, rfl, h2, h3⟩ := ck_un_ok h o
  rw [Bool.and_eq_true] at h1
  obtain ⟨hl, x, rfl, ex⟩ := h2.j (eq_of_beq h1.1)
  have h6 := h1.2
  split at h6
  · rename_i ix hix
    rw [Bool.and_eq_true, decide_eq_true_eq] at h6
    have b1 := o.2.2.2.2.1 _ _ hix h6.1
    rw [← ex] at b1
    refine WG.up (fun hh => lv_l2i X.1 X.2.1 hdg rfl hh) X.2.1 hdg (fun lg => ⟨x, _, rfl, rfl⟩) ?_
    have h7 := h6.2
    split at h7
    · rename_i hr
      refine (hk _ h7).at (o.ss ⟨.mi hl ?_, h3⟩) hw hx hP hD hS rfl
      rw [← ex, Int64.toInt_toInt32]
      have hb := b1.1
      have hb2 := b1.2
      exact Int.bmod_eq_of_le (by omega) (by omega)
    · exact ck_push (hk _ h7) o hw hx hP hD hS h3 (ck_r32 _) (fun _ _ _ g1 g2 => .mi g1 (by rw [g2]))
  · cases h6
theorem ck_i2b_ok (X : ck_cx p l e R s m args below meth c cc own D cl tys M sc A) {k : ck_S → Bool} (h : ck_un S (fun v st => v.1 == 0 && k (ck_new S st 0 [] (-128, 127) [])) = true) (hk : ∀ S, k S = true → ck_g Fc s0 p l e R s m args below meth c Q D cl tys M sc A ws0 sh0 S (pc + 1)) (hdg : decode cc pc = .ok (.i2b, 1)) : ck_g Fc s0 p l e R s m args below meth c Q D cl tys M sc A ws0 sh0 S pc := by
  intro n ws sh H locs ls vs o hw hx hP hD hS
  obtain ⟨av, st, v, vs', -, h1, rfl, h2, h3⟩ := ck_un_ok h o
  rw [Bool.and_eq_true] at h1
  obtain ⟨hl, x, rfl, ex⟩ := h2.i (eq_of_beq h1.1)
  refine WG.up (fun hh => lv_i2b X.1 X.2.1 hdg rfl hh) X.2.1 hdg (fun lg => ⟨x, _, rfl, rfl⟩) (ck_push (hk _ h1.2) o hw hx hP hD hS h3 (z := x.toInt8.toInt32.toInt) ?_ (fun _ _ _ g1 g2 => .mi g1 (by rw [g2])))
  rw [Int8.toInt_toInt32]
  have h1 := Int8.toInt_lt x.toInt8
  have h2 := Int8.le_toInt x.toInt8
  exact ⟨by show -128 ≤ _; omega, by show _ ≤ 127; omega⟩
theorem ck_i2s_ok (X : ck_cx p l e R s m args below meth c cc own D cl tys M sc A) {k : ck_S → Bool} (h : ck_un S (fun v st => v.1 == 0 && k (ck_new S st 0 [] (-32768, 32767) [])) = true) (hk : ∀ S, k S = true → ck_g Fc s0 p l e R s m args below meth c Q D cl tys M sc A ws0 sh0 S (pc + 1)) (hdg : decode cc pc = .ok (.i2s, 1)) : ck_g Fc s0 p l e R s m args below meth c Q D cl tys M sc A ws0 sh0 S pc := by
  intro n ws sh H locs ls vs o hw hx hP hD hS
  obtain ⟨av, st, v, vs', -, h1, rfl, h2, h3⟩ := ck_un_ok h o
  rw [Bool.and_eq_true] at h1
  obtain ⟨hl, x, rfl, ex⟩ := h2.i (eq_of_beq h1.1)
  refine WG.up (fun hh => lv_i2s X.1 X.2.1 hdg rfl hh) X.2.1 hdg (fun lg => ⟨x, _, rfl, rfl⟩) (ck_push (hk _ h1.2) o hw hx hP hD hS h3 (z := x.toInt16.toInt32.toInt) ?_ (fun _ _ _ g1 g2 => .mi g1 (by rw [g2])))
  rw [Int16.toInt_toInt32]
  have h1 := Int16.toInt_lt x.toInt16
  have h2 := Int16.le_toInt x.toInt16
  exact ⟨by show -32768 ≤ _; omega, by show _ ≤ 32767; omega⟩
theorem ck_lcmp_ok (X : ck_cx p l e R s m args below meth c cc own D cl tys M sc A) {k : ck_S → Bool} (h : (match S.2.1 with
    | b :: a :: st => b.1 == 1 && (a.1 == 1 && k (ck_ss S ((7, a.2.1, [b.2.1]) :: st)))
    | _ => false) = true) (hk : ∀ S, k S = true → ck_g Fc s0 p l e R s m args below meth c Q D cl tys M sc A ws0 sh0 S (pc + 1)) (hdg : decode cc pc = .ok (.lcmp, 1)) : ck_g Fc s0 p l e R s m args below meth c Q D cl tys M sc A ws0 sh0 S pc := by
  intro n ws sh H locs ls vs o hw hx hP hD hS
  split at h
  · rename_i b a st hst
    rw [Bool.and_eq_true, Bool.and_eq_true] at h
    have o3 := o.2.2.1
    rw [hst] at o3
    obtain ⟨v, vs1, rfl, h2, h3⟩ := ck_hd o3
    obtain ⟨u, vs2, rfl, h4, h5⟩ := ck_hd h3
    obtain ⟨lb, y, rfl, ey⟩ := h2.j (eq_of_beq h.1)
    obtain ⟨la, x, rfl, ex⟩ := h4.j (eq_of_beq h.2.1)
    exact WG.up (fun hh => W.lcmp X.1 X.2.1 hdg hh) X.2.1 hdg (fun lg => ⟨x, y, _, rfl, rfl⟩) ((hk _ h.2.2).at (o.ss ⟨⟨la, b.2.1, rfl, lb, x, y, rfl, ex, ey⟩, h5⟩) hw hx hP hD hS rfl)
  · cases h
theorem ck_anull_ok (X : ck_cx p l e R s m args below meth c cc own D cl tys M sc A) (hk : ck_g Fc s0 p l e R s m args below meth c Q D cl tys M sc A ws0 sh0 (ck_new S S.2.1 4 [] (1, 0) []) (pc + 1)) (hdg : decode cc pc = .ok (.aconst_null, 1)) : ck_g Fc s0 p l e R s m args below meth c Q D cl tys M sc A ws0 sh0 S pc := by
  intro n ws sh H locs ls vs o hw hx hP hD hS
  exact WG.up (fun hh => lv_null X.1 X.2.1 hdg hh) X.2.1 hdg (fun lg => rfl) (hk.at (o.new o.2.2.1 (x := (0, .null)) ⟨Nat.lt_succ_self _, by rw [ck_nx_eq], rfl⟩ (fun z => absurd z (by decide)) (fun r hr => by cases hr)) hw hx hP hD hS rfl)
theorem ck_dup_ok (X : ck_cx p l e R s m args below meth c cc own D cl tys M sc A) {k : ck_S → Bool} (h : ck_un S (fun v st => ck_cat v == 1 && k (ck_ss S (v :: v :: st))) = true) (hk : ∀ S, k S = true → ck_g Fc s0 p l e R s m args below meth c Q D cl tys M sc A ws0 sh0 S (pc + 1)) (hdg : decode cc pc = .ok (.dup, 1)) : ck_g Fc s0 p l e R s m args below meth c Q D cl tys M sc A ws0 sh0 S pc := by
  intro n ws sh H locs ls vs o hw hx hP hD hS
  obtain ⟨av, st, v, vs', -, h1, rfl, h2, h3⟩ := ck_un_ok h o
  rw [Bool.and_eq_true] at h1
  exact WG.up (fun hh => lv_dup X.1 X.2.1 hdg (by rw [ck_cat_ok h2]; exact eq_of_beq h1.1) hh) X.2.1 hdg (fun lg => ⟨v, _, rfl, rfl⟩) ((hk _ h1.2).at (o.ss ⟨h2, h2, h3⟩) hw hx hP hD hS rfl)
theorem ck_pop_ok (X : ck_cx p l e R s m args below meth c cc own D cl tys M sc A) {k : ck_S → Bool} (h : ck_un S (fun v st => ck_cat v == 1 && k (ck_ss S st)) = true) (hk : ∀ S, k S = true → ck_g Fc s0 p l e R s m args below meth c Q D cl tys M sc A ws0 sh0 S (pc + 1)) (hdg : decode cc pc = .ok (.pop, 1)) : ck_g Fc s0 p l e R s m args below meth c Q D cl tys M sc A ws0 sh0 S pc := by
  intro n ws sh H locs ls vs o hw hx hP hD hS
  obtain ⟨av, st, v, vs', -, h1, rfl, h2, h3⟩ := ck_un_ok h o
  rw [Bool.and_eq_true] at h1
  exact WG.up (fun hh => lv_pop X.1 X.2.1 hdg (by rw [ck_cat_ok h2]; exact eq_of_beq h1.1) hh) X.2.1 hdg (fun lg => ⟨v, _, rfl, rfl⟩) ((hk _ h1.2).at (o.ss h3) hw hx hP hD hS rfl)
theorem ck_pop2_ok (X : ck_cx p l e R s m args below meth c cc own D cl tys M sc A) {k : ck_S → Bool} (h : ck_un S (fun v st => v.1 == 1 && k (ck_ss S st)) = true) (hk : ∀ S, k S = true → ck_g Fc s0 p l e R s m args below meth c Q D cl tys M sc A ws0 sh0 S (pc + 1)) (hdg : decode cc pc = .ok (.pop2, 1)) : ck_g Fc s0 p l e R s m args below meth c Q D cl tys M sc A ws0 sh0 S pc := by
  intro n ws sh H locs ls vs o hw hx hP hD hS
  obtain ⟨av, st, v, vs', -, h1, rfl, h2, h3⟩ := ck_un_ok h o
  rw [Bool.and_eq_true] at h1
  obtain ⟨-, x, rfl, -⟩ := h2.j (eq_of_beq h1.1)
  exact WG.up (fun hh => lv_pop2_2 X.1 X.2.1 hdg rfl hh) X.2.1 hdg (fun lg => ⟨x, _, rfl, rfl⟩) ((hk _ h1.2).at (o.ss h3) hw hx hP hD hS rfl)
theorem ck_dup2_ok (X : ck_cx p l e R s m args below meth c cc own D cl tys M sc A) {k : ck_S → Bool} (h : (match S.2.1 with
    | a :: b :: st => ck_cat a == 1 && (ck_cat b == 1 && k (ck_ss S (a :: b :: a :: b :: st)))
    | _ => false) = true) (hk : ∀ S, k S = true → ck_g Fc s0 p l e R s m args below meth c Q D cl tys M sc A ws0 sh0 S (pc + 1)) (hdg : decode cc pc = .ok (.dup2, 1)) : ck_g Fc s0 p l e R s m args below meth c Q D cl tys M sc A ws0 sh0 S pc := by
  intro n ws sh H locs ls vs o hw hx hP hD hS
  split at h
  · rename_i b a st hst
    rw [Bool.and_eq_true, Bool.and_eq_true] at h
    have o3 := o.2.2.1
    rw [hst] at o3
    obtain ⟨v, vs1, rfl, h2, h3⟩ := ck_hd o3
    obtain ⟨u, vs2, rfl, h4, h5⟩ := ck_hd h3
    exact WG.up (fun hh => lv_dup2_11 X.1 X.2.1 hdg (by rw [ck_cat_ok h2]; exact eq_of_beq h.1) (by rw [ck_cat_ok h4]; exact eq_of_beq h.2.1) hh) X.2.1 hdg (fun lg => ⟨v, u, _, rfl, rfl⟩) ((hk _ h.2.2).at (o.ss ⟨h2, h4, h2, h4, h5⟩) hw hx hP hD hS rfl)
  · cases h
variable {kc : ck_cont}
theorem ck_goto_ok (X : ck_cx p l e R s m args below meth c cc own D cl tys M sc A) {off : Int} (h : ck_tgt pc off (kc S) = true) (hk : ∀ S pc, kc S pc = true → ck_g Fc s0 p l e R s m args below meth c Q D cl tys M sc A ws0 sh0 S pc) (hdg : decode cc pc = .ok (.goto off, 3)) : ck_g Fc s0 p l e R s m args below meth c Q D cl tys M sc A ws0 sh0 S pc := by
  intro n ws sh H locs ls vs o hw hx hP hD hS
  obtain ⟨t, ht, h1⟩ := ck_tgt_ok h
  exact WG.up (fun hh => lv_goto X.1 X.2.1 hdg ht hh) X.2.1 hdg (fun lg => ⟨t, ht, rfl⟩) (hk S t h1 n ws sh H locs ls vs o hw hx hP hD hS)
theorem ck_icmp_ok (X : ck_cx p l e R s m args below meth c cc own D cl tys M sc A) {cd : ClassFile.Cond} {off : Int} (h0 : 0 ≤ (pc : Int) + off) (h : (match S.2.1 with
    | b :: a :: st => b.1 == 0 && (a.1 == 0 && ck_wc (mF M) cd a.2.1 b.2.1 (ck_ss S st) (fun S => ck_tgt pc off (kc S)) (fun S => kc S (pc + 3)))
    | _ => false) = true) (hk : ∀ S pc, kc S pc = true → ck_g Fc s0 p l e R s m args below meth c Q D cl tys M sc A ws0 sh0 S pc) (hdg : decode cc pc = .ok (.if_icmp cd off, 3)) : ck_g Fc s0 p l e R s m args below meth c Q D cl tys M sc A ws0 sh0 S pc := by
  intro n ws sh H locs ls vs o hw hx hP hD hS
  split at h
  · rename_i b a st hst
    rw [Bool.and_eq_true, Bool.and_eq_true] at h
    have o3 := o.2.2.1
    rw [hst] at o3
    obtain ⟨v, vs1, rfl, h2, h3⟩ := ck_hd o3
    obtain ⟨u, vs2, rfl, h4, h5⟩ := ck_hd h3
    obtain ⟨lb, y, rfl, ey⟩ := h2.i (eq_of_beq h.1)
    obtain ⟨la, x, rfl, ex⟩ := h4.i (eq_of_beq h.2.1)
    have os : ck_so (mnL M) (mSG M) (ck_ss S st) n ws sh sc ls vs2 := o.ss h5
    obtain ⟨w1, w2⟩ := ck_wc_ok os h.2.2
    refine ck_row_icmp X.1 X.2.1 hdg (tgt := ((pc : Int) + off).toNat) (by omega) (fun z => ?_) (fun z => ?_)
    · rw [ex, ey] at z
      obtain ⟨S', k1, o', e'⟩ := w1 z
      obtain ⟨t, ht, h1⟩ := ck_tgt_ok k1
      have et : ((pc : Int) + off).toNat = t := by omega
      rw [et]
      exact (hk S' t h1).at o' hw hx hP hD hS e'.2.2.2.2
    · rw [ex, ey] at z
      obtain ⟨S', k1, o', e'⟩ := w2 z
      exact (hk S' _ k1).at o' hw hx hP hD hS e'.2.2.2.2
  · cases h
theorem ck_if_ok (X : ck_cx p l e R s m args below meth c cc own D cl tys M sc A) {cd : ClassFile.Cond} {off : Int} (h0 : 0 ≤ (pc : Int) + off) (h : ck_un S (fun v st => if v.1 = 7 then (match v.2.2 with
      | [b] => ck_wc (mF M) cd v.2.1 b (ck_ss S st) (fun S => ck_tgt pc off (kc S)) (fun S => kc S (pc + 3))
      | _ => false) else v.1 == 0 && ck_wc (mF M) cd v.2.1 0 (ck_ss S st) (fun S => ck_tgt pc off (kc S)) (fun S => kc S (pc + 3))) = true) (hk : ∀ S pc, kc S pc = true → ck_g Fc s0 p l e R s m args below meth c Q D cl tys M sc A ws0 sh0 S pc) (hdg : decode cc pc = .ok (.ifCond cd off, 3)) : ck_g Fc s0 p l e R s m args below meth c Q D cl tys M sc A ws0 sh0 S pc := by
  intro n ws sh H locs ls vs o hw hx hP hD hS
  obtain ⟨av, st, v, vs', -, h1, rfl, h2, h3⟩ := ck_un_ok h o
  have os : ck_so (mnL M) (mSG M) (ck_ss S st) n ws sh sc ls vs' := o.ss h3
  have fin : ∀ (x : Int32) (a b : Nat), v = .int x → (ck_cm cd x.toInt 0 ↔ ck_cm cd (n a).1 (n b).1) → ck_wc (mF M) cd a b (ck_ss S st) (fun S => ck_tgt pc off (kc S)) (fun S => kc S (pc + 3)) = true → WG (tM M Fc sc.1) s0 p l e R s m args below meth c ws sh H locs (ck_oc R M + S.2.2.2.2.2.1) (ck_os R M + S.2.2.2.2.2.2) Q (pc, ls, (v :: vs')) := by
    intro x a b ev hab hwc
    subst ev
    obtain ⟨w1, w2⟩ := ck_wc_ok os hwc
    refine ck_row_if X.1 X.2.1 hdg (tgt := ((pc : Int) + off).toNat) (by omega) (fun z => ?_) (fun z => ?_)
    · obtain ⟨S', k1, o', e'⟩ := w1 (hab.mp z)
      obtain ⟨t, ht, h1⟩ := ck_tgt_ok k1
      have et : ((pc : Int) + off).toNat = t := by omega
      rw [et]
      exact (hk S' t h1).at o' hw hx hP hD hS e'.2.2.2.2
    · obtain ⟨S', k1, o', e'⟩ := w2 (fun q => z (hab.mpr q))
      exact (hk S' _ k1).at o' hw hx hP hD hS e'.2.2.2.2
  split at h1
  · rename_i e7
    have h4 := h2
    unfold ck_vo at h4
    rw [e7] at h4
    obtain ⟨-, k2, e2, -, x, y, ev, ex, ey⟩ := h4
    rw [e2] at h1
    refine fin (lg_cmp x y) av.2.1 k2 ev ?_ h1
    rw [ck_cm_lg, ex, ey]
  · rw [Bool.and_eq_true] at h1
    obtain ⟨-, x, ev, ex⟩ := h2.i (eq_of_beq h1.1)
    refine fin x av.2.1 0 ev ?_ h1.2
    rw [ex, o.1.2]
theorem ck_ifnull_ok (X : ck_cx p l e R s m args below meth c cc own D cl tys M sc A) {off : Int} (h : ck_nul S (fun S => ck_tgt pc off (kc S)) (fun S => kc S (pc + 3)) = true) (hk : ∀ S pc, kc S pc = true → ck_g Fc s0 p l e R s m args below meth c Q D cl tys M sc A ws0 sh0 S pc) (hdg : decode cc pc = .ok (.ifnull off, 3)) : ck_g Fc s0 p l e R s m args below meth c Q D cl tys M sc A ws0 sh0 S pc := by
  intro n ws sh H locs ls vs o hw hx hP hD hS
  obtain ⟨v, vs', S', rfl, o', ec, ⟨rfl, h1⟩ | ⟨⟨a, rfl⟩, h1⟩⟩ := ck_nul_ok h o
  · obtain ⟨t, ht, h2⟩ := ck_tgt_ok h1
    exact WG.up (fun hh => lv_ifnullN X.1 X.2.1 hdg ht hh) X.2.1 hdg (fun lg => ⟨_, _, rfl, Or.inl ⟨rfl, t, ht, rfl⟩⟩) ((hk S' t h2).at o' hw hx hP hD hS ec)
  · exact WG.up (fun hh => lv_ifnull X.1 X.2.1 hdg hh) X.2.1 hdg (fun lg => ⟨_, _, rfl, Or.inr ⟨(fun z => by cases z), rfl⟩⟩) ((hk S' _ h1).at o' hw hx hP hD hS ec)
theorem ck_ifnon_ok (X : ck_cx p l e R s m args below meth c cc own D cl tys M sc A) {off : Int} (h : ck_nul S (fun S => kc S (pc + 3)) (fun S => ck_tgt pc off (kc S)) = true) (hk : ∀ S pc, kc S pc = true → ck_g Fc s0 p l e R s m args below meth c Q D cl tys M sc A ws0 sh0 S pc) (hdg : decode cc pc = .ok (.ifnonnull off, 3)) : ck_g Fc s0 p l e R s m args below meth c Q D cl tys M sc A ws0 sh0 S pc := by
  intro n ws sh H locs ls vs o hw hx hP hD hS
  obtain ⟨v, vs', S', rfl, o', ec, ⟨rfl, h1⟩ | ⟨⟨a, rfl⟩, h1⟩⟩ := ck_nul_ok h o
  · exact WG.up (fun hh => lv_ifnonnullN X.1 X.2.1 hdg hh) X.2.1 hdg (fun lg => ⟨_, _, rfl, Or.inr ⟨fun z => z rfl, rfl⟩⟩) ((hk S' _ h1).at o' hw hx hP hD hS ec)
  · obtain ⟨t, ht, h2⟩ := ck_tgt_ok h1
    exact WG.up (fun hh => lv_ifnonnull X.1 X.2.1 hdg ht hh) X.2.1 hdg (fun lg => ⟨_, _, rfl, Or.inl ⟨(fun z => by cases z), t, ht, rfl⟩⟩) ((hk S' t h2).at o' hw hx hP hD hS ec)
theorem ck_tsw_ok (X : ck_cx p l e R s m args below meth c cc own D cl tys M sc A) {d lo hi : Int} {os : Array Int} {len : Nat} (h : ck_un S (fun v st => v.1 == 0 && (decide (hi = lo + (os.size : Int) - 1) && (ck_sw v.2.1 lo (ck_ss S st) pc kc os.toList &&
      (ck_iv v.2.1 (-2147483648) (lo - 1) (ck_ss S st) (fun S => ck_tgt pc d (kc S)) && ck_iv v.2.1 (hi + 1) 2147483647 (ck_ss S st) (fun S => ck_tgt pc d (kc S)))))) = true) (hk : ∀ S pc, kc S pc = true → ck_g Fc s0 p l e R s m args below meth c Q D cl tys M sc A ws0 sh0 S pc) (hdg : decode cc pc = .ok (.tableswitch d lo hi os, len)) : ck_g Fc s0 p l e R s m args below meth c Q D cl tys M sc A ws0 sh0 S pc := by
  intro n ws sh H locs ls vs o hw hx hP hD hS
  obtain ⟨av, st, v, vs', -, h1, rfl, h2, h3⟩ := ck_un_ok h o
  simp only [Bool.and_eq_true, decide_eq_true_eq] at h1
  obtain ⟨g1, g2, g3, g4, g5⟩ := h1
  obtain ⟨-, x, rfl, ex⟩ := h2.i (eq_of_beq g1)
  have hos : ck_so (mnL M) (mSG M) (ck_ss S st) n ws sh sc ls vs' := o.ss h3
  have r1 := Int32.toInt_lt x
  have r2 := Int32.le_toInt x
  by_cases c1 : x.toInt < lo
  · obtain ⟨S', k1, o', e'⟩ := ck_iv_ok hos g4 (by rw [← ex]; omega) (by rw [← ex]; omega)
    obtain ⟨t, ht, h2⟩ := ck_tgt_ok k1
    exact WG.up (fun hh => lv_tableOut X.1 X.2.1 hdg (Or.inl c1) ht hh) X.2.1 hdg (fun lg => ⟨x, _, rfl, d, t, Or.inl ⟨Or.inl c1, rfl⟩, ht, rfl⟩) ((hk S' t h2).at o' hw hx hP hD hS e'.2.2.2.2)
  · by_cases c2 : hi < x.toInt
    · obtain ⟨S', k1, o', e'⟩ := ck_iv_ok hos g5 (by rw [← ex]; omega) (by rw [← ex]; omega)
      obtain ⟨t, ht, h2⟩ := ck_tgt_ok k1
      exact WG.up (fun hh => lv_tableOut X.1 X.2.1 hdg (Or.inr c2) ht hh) X.2.1 hdg (fun lg => ⟨x, _, rfl, d, t, Or.inl ⟨Or.inr c2, rfl⟩, ht, rfl⟩) ((hk S' t h2).at o' hw hx hP hD hS e'.2.2.2.2)
    · have hj : (x.toInt - lo).toNat < os.size := by omega
      have hoff : os.toList[(x.toInt - lo).toNat]? = some os[(x.toInt - lo).toNat] := by
        rw [Array.getElem?_toList]
        exact Array.getElem?_eq_getElem hj
      have k0 := ck_sw_ok g3 _ _ hoff
      have ej : lo + (((x.toInt - lo).toNat : Nat) : Int) = x.toInt := by omega
      rw [ej] at k0
      obtain ⟨S', k1, o', e'⟩ := ck_iv_ok hos k0 (by rw [← ex]; exact Int.le_refl _) (by rw [← ex]; exact Int.le_refl _)
      obtain ⟨t, ht, h2⟩ := ck_tgt_ok k1
      exact WG.up (fun hh => lv_tableIn X.1 X.2.1 hdg c1 c2 (Array.getElem?_eq_getElem hj) ht hh) X.2.1 hdg (fun lg => ⟨x, _, rfl, os[(x.toInt - lo).toNat], t, Or.inr ⟨c1, c2, Array.getElem?_eq_getElem hj⟩, ht, rfl⟩) ((hk S' t h2).at o' hw hx hP hD hS e'.2.2.2.2)
end
