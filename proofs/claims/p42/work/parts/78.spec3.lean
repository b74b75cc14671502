noncomputable section
/-! what is held: reads and writes under notes of a set of places -/
/-- a note of this tag -/
def ck_fn (t tag : Nat) (S : ck_S) : Option (Nat × List Nat) := S.2.2.1.findSome? (fun x => if x.1 == t && (x.2.1 == 0 && x.2.2.1 == tag) then some (x.2.2.2.1, x.2.2.2.2) else none)
/-- a note of this tag, of this number -/
def ck_fm (F t tag i : Nat) (S : ck_S) : Option (Nat × List Nat) := S.2.2.1.findSome? (fun x => if x.1 == t && (x.2.1 == 0 && (x.2.2.1 == tag && ck_eq2 F S.2.2.2.1 S.2.2.2.2.1 x.2.2.2.1 i)) then some (x.2.2.2.1, x.2.2.2.2) else none)
/-- a note of this tag, whose last number is this -/
def ck_l1 (l : List Nat) (p : Nat → Bool) : Bool := match l with
  | [k] => p k
  | _ => false
def ck_fl (F t tag i : Nat) (S : ck_S) : Option (Nat × List Nat) := S.2.2.1.findSome? (fun x => if x.1 == t && (x.2.1 == 0 && (x.2.2.1 == tag && ck_l1 x.2.2.2.2 (fun k => ck_eq2 F S.2.2.2.1 S.2.2.2.2.1 k i))) then some (x.2.2.2.1, x.2.2.2.2) else none)
section
variable {nL : Nat} {SG : List Nat} {S : ck_S} {n : ck_N} {ws : va_W} {sh : List Nat} {sc : ck_sc} {ls : Array Slot} {vs : List Value}
theorem ck_note {t tag : Nat} {x : ck_M} (h : ck_so nL SG S n ws sh sc ls vs) (hx : x ∈ S.2.2.1) (h1 : x.1 = t) (h2 : x.2.2.1 = tag) (h20 : 20 ≤ tag) (hu : ∀ t ∈ SG, ∀ q r : Nat, sh[q]? = some t → sh[r]? = some t → q = r) {q a : Nat} {e : va_E} (hq : ws[q]? = some (a, e)) (ht : sh[q]? = some t) :
    t ∈ SG ∧ t ≠ 0 ∧ x.2.2.2.1 < S.2.2.2.1.length ∧ (∀ j ∈ x.2.2.2.2, j < S.2.2.2.1.length) ∧ ∃ (cA : ClassId) (len : Nat) (f : Nat → Int32), e = .inl (cA, len, .inl f) ∧ ck_nt tag f (n x.2.2.2.1).1 (x.2.2.2.2.map (fun j => (n j).1)) := by
  rcases h.2.2.2.1 x hx with ⟨-, -, ⟨z, -⟩ | ⟨z, -⟩⟩ | ⟨-, -, q1, a', oo, v, -, -, -, w⟩ | ⟨w0, w1, w2, w3, w4, w5, q1, a', cA, len, f, w6, w7, w8⟩
  · omega
  · omega
  · exfalso
    have w := w.2
    split at w <;> omega
  · rw [h1] at w1 w2 w6
    have eq := hu t w2 q1 q w6 ht
    subst eq
    rw [hq] at w7
    have ee := congrArg Prod.snd (Option.some.inj w7)
    rw [h2] at w8
    exact ⟨w2, w1, w4, w5, cA, len, f, ee, w8⟩
theorem ck_fn_ok {t tag : Nat} {y : Nat × List Nat} (hf : ck_fn t tag S = some y) : ∃ x ∈ S.2.2.1, x.1 = t ∧ x.2.2.1 = tag ∧ x.2.2.2.1 = y.1 ∧ x.2.2.2.2 = y.2 := by
  obtain ⟨x, hx, h1⟩ := List.exists_of_findSome?_eq_some hf
  split at h1
  · rename_i hc
    simp only [Bool.and_eq_true, beq_iff_eq] at hc
    cases h1
    exact ⟨x, hx, hc.1, hc.2.2, rfl, rfl⟩
  · cases h1
theorem ck_fm_ok {F t tag i : Nat} {y : Nat × List Nat} (h : ck_so nL SG S n ws sh sc ls vs) (hf : ck_fm F t tag i S = some y) : ∃ x ∈ S.2.2.1, x.1 = t ∧ x.2.2.1 = tag ∧ x.2.2.2.1 = y.1 ∧ x.2.2.2.2 = y.2 ∧ (n y.1).1 = (n i).1 := by
  obtain ⟨x, hx, h1⟩ := List.exists_of_findSome?_eq_some hf
  split at h1
  · rename_i hc
    simp only [Bool.and_eq_true, beq_iff_eq] at hc
    cases h1
    exact ⟨x, hx, hc.1, hc.2.2.1, rfl, rfl, ck_eq2_ok h.2.2.2.2.1 h.2.2.2.2.2 hc.2.2.2⟩
  · cases h1
theorem ck_fl_ok {F t tag i : Nat} {y : Nat × List Nat} (h : ck_so nL SG S n ws sh sc ls vs) (hf : ck_fl F t tag i S = some y) : ∃ x ∈ S.2.2.1, ∃ k, x.1 = t ∧ x.2.2.1 = tag ∧ x.2.2.2.1 = y.1 ∧ x.2.2.2.2 = [k] ∧ (n k).1 = (n i).1 := by
  obtain ⟨x, hx, h1⟩ := List.exists_of_findSome?_eq_some hf
  split at h1
  · rename_i hc
    simp only [Bool.and_eq_true, beq_iff_eq] at hc
    cases h1
    obtain ⟨c1, -, c2, c3⟩ := hc
    unfold ck_l1 at c3
    split at c3
    · rename_i k hk
      exact ⟨x, hx, k, c1, c2, rfl, hk, ck_eq2_ok h.2.2.2.2.1 h.2.2.2.2.2 c3⟩
    · cases c3
  · cases h1
end
/-- a read of what is held -/
def ck_sWl (F tW tN len : Nat) (S : ck_S) : Option (List ck_S) := match S.2.1 with
  | i :: r :: st => if i.1 = 0 ∧ r.1 = 2 ∧ r.2.2 = [tW] ∧ ck_ent S.2.2.2.1 S.2.2.2.2.1 F 0 i.2.1 0 = true ∧ ck_ent S.2.2.2.1 S.2.2.2.2.1 F i.2.1 0 ((len : Int) - 1) = true then (match ck_fm F tW 33 i.2.1 S with
    | some (_, [w]) => some [(S.1, (0, w, []) :: st, S.2.2.1, S.2.2.2)]
    | _ => (match ck_fn tW 30 S with
      | some (z, _) => if (S.2.2.1.contains (tN, 0, (31, z, []))) = true then some [
          (S.1, (0, S.2.2.2.1.length, []) :: st, (tW, 0, (33, i.2.1, [S.2.2.2.1.length])) :: S.2.2.1, S.2.2.2.1 ++ [(-2147483648, -1)], S.2.2.2.2.1, S.2.2.2.2.2),
          (S.1, (0, S.2.2.2.1.length, []) :: st, (tW, 0, (33, i.2.1, [S.2.2.2.1.length])) :: S.2.2.1, S.2.2.2.1 ++ [(0, 0)], S.2.2.2.2.1, S.2.2.2.2.2),
          (S.1, (0, S.2.2.2.1.length, []) :: st, (tN, 0, (32, i.2.1, [])) :: (tW, 0, (33, i.2.1, [S.2.2.2.1.length])) :: S.2.2.1, S.2.2.2.1 ++ [(1, 1)], S.2.2.2.2.1, S.2.2.2.2.2)] else none
      | none => none)) else none
  | _ => none
/-- a read of its number -/
def ck_sNl (F tN len : Nat) (lo hi : Int) (S : ck_S) : Option (List ck_S) := match S.2.1 with
  | i :: r :: st => if i.1 = 0 ∧ r.1 = 2 ∧ r.2.2 = [tN] ∧ ck_ent S.2.2.2.1 S.2.2.2.2.1 F 0 i.2.1 0 = true ∧ ck_ent S.2.2.2.1 S.2.2.2.2.1 F i.2.1 0 ((len : Int) - 1) = true then (match ck_fm F tN 32 i.2.1 S with
    | some _ => some [(S.1, (0, S.2.2.2.1.length, []) :: st, S.2.2.1, S.2.2.2.1 ++ [(lo, 9)], S.2.2.2.2.1, S.2.2.2.2.2)]
    | none => some [(S.1, (0, S.2.2.2.1.length, []) :: st, S.2.2.1, S.2.2.2.1 ++ [(lo, hi)], S.2.2.2.2.1, S.2.2.2.2.2)]) else none
  | _ => none
/-- a write of what is held -/
def ck_sWs (F tW tN len : Nat) (S : ck_S) : Option (List ck_S) := match S.2.1 with
  | v :: i :: r :: st => if v.1 = 0 ∧ i.1 = 0 ∧ r.1 = 2 ∧ r.2.2 = [tW] ∧ ck_ent S.2.2.2.1 S.2.2.2.2.1 F 0 i.2.1 0 = true ∧ ck_ent S.2.2.2.1 S.2.2.2.2.1 F i.2.1 0 ((len : Int) - 1) = true then (match ck_fn tW 30 S with
    | some (z, _) => if (S.2.2.1.contains (tN, 0, (31, z, []))) = true then (
        if ck_ent S.2.2.2.1 S.2.2.2.2.1 F v.2.1 0 1 = true ∧ ck_ent S.2.2.2.1 S.2.2.2.2.1 F 0 v.2.1 (-1) = true then
          some [(S.1, st, (tW, 0, (30, S.2.2.2.1.length, [])) :: (tN, 0, (34, S.2.2.2.1.length, [i.2.1])) :: S.2.2.1.filter (fun m => !(m.1 == tW)), S.2.2.2.1 ++ [(1, 0)], S.2.2.2.2.1, S.2.2.2.2.2)]
        else if ck_ent S.2.2.2.1 S.2.2.2.2.1 F v.2.1 0 0 = true ∧ ck_ent S.2.2.2.1 S.2.2.2.2.1 F 0 v.2.1 9 = true then
          some [(S.1, st, (tW, 0, (30, S.2.2.2.1.length, [])) :: (tN, 0, (31, S.2.2.2.1.length, [])) :: (tN, 0, (35, S.2.2.2.1.length, [i.2.1])) :: S.2.2.1.filter (fun m => !(m.1 == tW)), S.2.2.2.1 ++ [(1, 0)], S.2.2.2.2.1, S.2.2.2.2.2)]
        else none) else none
    | none => none) else none
  | _ => none
/-- a write of its number -/
def ck_sNs (F tN len : Nat) (lo hi : Int) (S : ck_S) : Option (List ck_S) := match S.2.1 with
  | v :: i :: r :: st => if v.1 = 0 ∧ i.1 = 0 ∧ r.1 = 2 ∧ r.2.2 = [tN] ∧ ck_ent S.2.2.2.1 S.2.2.2.2.1 F 0 i.2.1 0 = true ∧ ck_ent S.2.2.2.1 S.2.2.2.2.1 F i.2.1 0 ((len : Int) - 1) = true ∧ ck_ent S.2.2.2.1 S.2.2.2.2.1 F v.2.1 0 hi = true ∧ ck_ent S.2.2.2.1 S.2.2.2.2.1 F 0 v.2.1 (-lo) = true then (match ck_fl F tN 35 i.2.1 S with
    | some (z, _) => some [(S.1, st, (tN, 0, (31, z, [])) :: S.2.2.1.filter (fun m => !(m.1 == tN)), S.2.2.2)]
    | none => (match ck_fl F tN 34 i.2.1 S with
      | some (z, _) => if ck_ent S.2.2.2.1 S.2.2.2.2.1 F v.2.1 0 9 = true then some [(S.1, st, (tN, 0, (31, z, [])) :: S.2.2.1.filter (fun m => !(m.1 == tN)), S.2.2.2)] else none
      | none => none)) else none
  | _ => none
/-- a place more, a place less -/
theorem ck_bit6 : ∀ b0 b1 b2 b3 b4 b5 : Bool, (b0.toNat + 2 * b1.toNat + 4 * b2.toNat + 8 * b3.toNat + 16 * b4.toNat + 32 * b5.toNat).testBit 0 = b0 ∧ (b0.toNat + 2 * b1.toNat + 4 * b2.toNat + 8 * b3.toNat + 16 * b4.toNat + 32 * b5.toNat).testBit 1 = b1 ∧ (b0.toNat + 2 * b1.toNat + 4 * b2.toNat + 8 * b3.toNat + 16 * b4.toNat + 32 * b5.toNat).testBit 2 = b2 ∧
    (b0.toNat + 2 * b1.toNat + 4 * b2.toNat + 8 * b3.toNat + 16 * b4.toNat + 32 * b5.toNat).testBit 3 = b3 ∧ (b0.toNat + 2 * b1.toNat + 4 * b2.toNat + 8 * b3.toNat + 16 * b4.toNat + 32 * b5.toNat).testBit 4 = b4 ∧ (b0.toNat + 2 * b1.toNat + 4 * b2.toNat + 8 * b3.toNat + 16 * b4.toNat + 32 * b5.toNat).testBit 5 = b5 := by decide
theorem ck_bits (P : Nat → Bool) : ∃ y : Nat, ∀ i, i < 6 → y.testBit i = P i := by
  obtain ⟨h0, h1, h2, h3, h4, h5⟩ := ck_bit6 (P 0) (P 1) (P 2) (P 3) (P 4) (P 5)
  refine ⟨(P 0).toNat + 2 * (P 1).toNat + 4 * (P 2).toNat + 8 * (P 3).toNat + 16 * (P 4).toNat + 32 * (P 5).toNat, fun i hi => ?_⟩
  rcases (show i = 0 ∨ i = 1 ∨ i = 2 ∨ i = 3 ∨ i = 4 ∨ i = 5 by omega) with rfl | rfl | rfl | rfl | rfl | rfl
  · exact h0
  · exact h1
  · exact h2
  · exact h3
  · exact h4
  · exact h5
section
variable {Fc : Nat → Nat × fR} {s0 : fS} {p : Program} {l : Launch} {e : Env} {R : Room} {s : State} {m : MethodId} {args : Array Value} {below : List Frame} {meth : Method} {c : Code} {Q : State → Prop} {cc : ByteArray} {own : String} {D : va_G} {cl : List vw_C} {tys : List (ClassId × FieldType)} {M : ck_Me} {sc : ck_sc} {A : Nat → Prop} {ws0 : va_W} {sh0 : List Nat} {S : ck_S} {pc : Nat}
theorem ck_ird (X : ck_cx p l e R s m args below meth c cc own D cl tys M sc A) {F t len k0 : Nat} {T : ck_T} (hTT : (mTT M)[t]? = some (1, len, k0, [T])) {i r : ck_V} {st : List ck_V} (hst : S.2.1 = i :: r :: st) (hc : i.1 = 0 ∧ r.1 = 2 ∧ r.2.2 = [t] ∧ ck_ent S.2.2.2.1 S.2.2.2.2.1 F 0 i.2.1 0 = true ∧ ck_ent S.2.2.2.1 S.2.2.2.2.1 F i.2.1 0 ((len : Int) - 1) = true) (hdg : decode cc pc = .ok (.iaload, 1))
    {n : ck_N} {ws : va_W} {sh : List Nat} {H : Heap} {locs : List Loc} {ls : Array Slot} {vs : List Value} {cells slots : Nat} (o : ck_so (mnL M) (mSG M) S n ws sh sc ls vs) (hw : ck_wo tys (mTT M) (mSG M) ws sh) (hP : va_P D cl ws H) (hD : va_D A ws)
    (kk : ∀ (q a : Nat) (cA : ClassId) (f : Nat → Int32) (vs2 : List Value), ws[q]? = some (a, .inl (cA, len, .inl f)) → sh[q]? = some t → i.2.1 < S.2.2.2.1.length → 0 ≤ (n i.2.1).1 → (n i.2.1).1 < len → (T.2.1 ≤ (f (n i.2.1).1.toNat).toInt ∧ (f (n i.2.1).1.toNat).toInt ≤ T.2.2.1) → ck_two (ck_vo ws sh sc n S.2.2.2.1.length) st vs2 → WG (tM M Fc sc.1) s0 p l e R s m args below meth c ws sh H locs cells slots Q ((pc + 1), ls, (.int (f (n i.2.1).1.toNat) :: vs2))) :
    WG (tM M Fc sc.1) s0 p l e R s m args below meth c ws sh H locs cells slots Q (pc, ls, vs) := by
  obtain ⟨hi0, hr2, hrt, hb1, hb2⟩ := hc
  have o3 := o.2.2.1
  rw [hst] at o3
  obtain ⟨iv, vs1, rfl, h2, h3⟩ := ck_hd o3
  obtain ⟨ra, vs2, rfl, h4, h5⟩ := ck_hd h3
  obtain ⟨hil, x, rfl, ex⟩ := h2.i hi0
  obtain ⟨-, -, q, a, e0, t', rfl, hq, ht, htm⟩ := h4.r hr2
  rw [hrt] at htm
  rw [List.mem_singleton.mp htm] at ht
  have p1 := ck_ent_ok o.2.2.2.2.1 o.2.2.2.2.2 F _ _ _ hb1
  have p2 := ck_ent_ok o.2.2.2.2.1 o.2.2.2.2.2 F _ _ _ hb2
  rw [o.1.2] at p1 p2
  obtain ⟨td, d1, d2⟩ := hw.2.1 q a _ t hq ht
  have etd : td = (1, len, k0, [T]) := Option.some.inj (d1.symm.trans hTT)
  subst etd
  obtain ⟨cA, f, t1, rfl, t3⟩ := d2
  have hxn : x.toNatClampNeg = (n i.2.1).1.toNat := by show x.toInt.toNat = _; rw [ex]
  have hin : vp_in x len := by
    rintro (z | z)
    · have := Int32.lt_iff_toInt_lt.mp z
      rw [Int32.toInt_zero] at this
      omega
    · rw [hxn] at z
      omega
  refine WG.up (fun h => va_iald X.1 X.2.1 X.2.2.2.1 hP q k0 hq t1 hin hdg h) X.2.1 hdg (fun lg => ⟨x, a, _, rfl, Or.inl ⟨ck_nsc X hD hq, q, _, cA, f, hq, ck_in_lt hin, rfl⟩⟩) ?_
  rw [hxn]
  exact kk q a cA f vs2 hq ht hil (by omega) (by omega) ((t3 T rfl).2 (n i.2.1).1.toNat (show (n i.2.1).1.toNat < len by omega)) h5
theorem ck_sWl_ok (X : ck_cx p l e R s m args below meth c cc own D cl tys M sc A) {F tW tN len k0 : Nat} {T : ck_T} (hTT : (mTT M)[tW]? = some (1, len, k0, [T])) (h6 : len = 6) (hT : T.2.2.1 ≤ 1 ∧ -2147483648 ≤ T.2.1) {L : List ck_S} (h : ck_sWl F tW tN len S = some L) (hk : ∀ S' ∈ L, ck_g Fc s0 p l e R s m args below meth c Q D cl tys M sc A ws0 sh0 S' (pc + 1)) (hdg : decode cc pc = .ok (.iaload, 1)) : ck_g Fc s0 p l e R s m args below meth c Q D cl tys M sc A ws0 sh0 S pc := by
  intro n ws sh H locs ls vs o hw hx hP hD hS
  unfold ck_sWl at h
  split at h
  · rename_i i r st hst
    split at h
    · rename_i hc
      refine ck_ird X hTT hst hc hdg o hw hP hD (fun q a cA f vs2 hq ht hil hn0 hn1 hb h5 => ?_)
      split at h
      · rename_i z w hf
        have eL := Option.some.inj h
        obtain ⟨x, hx1, x1, x2, x3, x4, x5⟩ := ck_fm_ok o hf
        obtain ⟨g1, g2, g3, g4, cA', len', f', e1, g5⟩ := ck_note o hx1 x1 x2 (by decide) hw.2.2 hq ht
        cases e1
        rw [x4] at g4 g5
        have g5 : (f (n x.2.2.2.1).1.toNat).toInt = (n w).1 := g5
        rw [x3, x5] at g5
        exact (hk (S.1, (0, w, []) :: st, S.2.2.1, S.2.2.2) (by rw [← eL]; exact List.mem_cons_self)).at (o.ss (st := (0, w, []) :: st) (vs' := .int (f (n i.2.1).1.toNat) :: vs2) (show _ ∧ _ from ⟨.mi (g4 w List.mem_cons_self) g5, h5⟩)) hw hx hP hD hS rfl
      · split at h
        · rename_i z zl hf
          split at h
          · rename_i hN
            have eL := Option.some.inj h
            obtain ⟨x, hx1, x1, x2, x3, x4⟩ := ck_fn_ok hf
            obtain ⟨g1, g2, g3, g4, cA', len', f', e1, g5⟩ := ck_note o hx1 x1 x2 (by decide) hw.2.2 hq ht
            cases e1
            have g5 : ∀ j : Nat, j < 6 → (f j).toInt = 1 → (n x.2.2.2.1).1.toNat.testBit j = true := g5
            rw [x3] at g5
            have hN1 : ∀ y : Int × Int, (S.2.2.2.1 ++ [y]).length = S.2.2.2.1.length + 1 := fun y => by simp
            have go : ∀ (lo hi : Int), lo ≤ (f (n i.2.1).1.toNat).toInt → (f (n i.2.1).1.toNat).toInt ≤ hi → ck_so (mnL M) (mSG M) (S.1, (0, S.2.2.2.1.length, []) :: st, (tW, 0, (33, i.2.1, [S.2.2.2.1.length])) :: S.2.2.1, S.2.2.2.1 ++ [(lo, hi)], S.2.2.2.2.1, S.2.2.2.2.2) (ck_nx n S.2.2.2.1.length ((f (n i.2.1).1.toNat).toInt, .null)) ws sh sc ls (.int (f (n i.2.1).1.toNat) :: vs2) := by
              intro lo hi h1 h2
              have o1 := o.new h5 (tag := 0) (ts := []) (iv := (lo, hi)) (rs := []) (x := ((f (n i.2.1).1.toNat).toInt, .null)) (v := .int (f (n i.2.1).1.toNat)) (.mi (Nat.lt_succ_self _) (by rw [ck_nx_eq])) (fun _ => ⟨h1, h2⟩) (fun r hr => by cases hr)
              exact o1.nt (x := (tW, 0, (33, i.2.1, [S.2.2.2.1.length]))) (by
                show ck_tn (mSG M) ws sh _ (S.2.2.2.1 ++ [(lo, hi)]).length _
                refine ⟨by dsimp only; omega, g2, g1, rfl, by rw [hN1]; dsimp only; omega, fun j hj => ?_, q, a, cA, len, f, ht, hq, ?_⟩
                · simp only [List.mem_cons, List.not_mem_nil, or_false] at hj
                  rw [hN1]; omega
                · dsimp only [List.map]
                  unfold ck_nt
                  rw [if_neg (by decide)]
                  show (f _).toInt = _
                  rw [ck_nx_lt _ hil, ck_nx_eq])
            by_cases c1 : (f (n i.2.1).1.toNat).toInt ≤ -1
            · exact (hk _ (by rw [← eL]; exact List.mem_cons_self)).at (go _ _ (by omega) c1) hw hx hP hD hS rfl
            · by_cases c2 : (f (n i.2.1).1.toNat).toInt = 0
              · exact (hk _ (by rw [← eL]; exact List.mem_cons_of_mem _ List.mem_cons_self)).at (go _ _ (by omega) (by omega)) hw hx hP hD hS rfl
              · have c3 : (f (n i.2.1).1.toNat).toInt = 1 := by omega
                have o2 := go 1 1 (by omega) (by omega)
                -- the numbers' array
                rcases o.2.2.2.1 _ (List.contains_iff_mem.mp hN) with ⟨-, -, ⟨y, -⟩ | ⟨y, -⟩⟩ | ⟨-, -, q1, a', oo, v, -, -, -, w⟩ | ⟨w0, w1, w2, w3, w4, w5, q1, a', cA1, len1, f1, w6, w7, w8⟩
                · cases y
                · cases y
                · exact w.2.elim
                · have w8 : ∀ j : Nat, j < 6 → (n z).1.toNat.testBit j = true → (f1 j).toInt ≤ 9 := w8
                  have o3 := o2.nt (x := (tN, 0, (32, i.2.1, []))) (by
                    show ck_tn (mSG M) ws sh _ (S.2.2.2.1 ++ [((1 : Int), (1 : Int))]).length _
                    refine ⟨by dsimp only; omega, w1, w2, rfl, by rw [hN1]; dsimp only; omega, fun j hj => absurd hj List.not_mem_nil, q1, a', cA1, len1, f1, w6, w7, ?_⟩
                    dsimp only [List.map]
                    unfold ck_nt
                    rw [if_neg (by decide)]
                    show (f1 _).toInt ≤ 9
                    rw [ck_nx_lt _ hil]
                    exact w8 _ (by omega) (g5 _ (by omega) c3))
                  exact (hk _ (by rw [← eL]; exact List.mem_cons_of_mem _ (List.mem_cons_of_mem _ List.mem_cons_self))).at o3 hw hx hP hD hS rfl
          · cases h
        · cases h
    · cases h
  · cases h
theorem ck_sNl_ok (X : ck_cx p l e R s m args below meth c cc own D cl tys M sc A) {F tN len k0 : Nat} {lo hi : Int} {ts : List Nat} (hTT : (mTT M)[tN]? = some (1, len, k0, [(0, lo, hi, ts)])) {L : List ck_S} (h : ck_sNl F tN len lo hi S = some L) (hk : ∀ S' ∈ L, ck_g Fc s0 p l e R s m args below meth c Q D cl tys M sc A ws0 sh0 S' (pc + 1)) (hdg : decode cc pc = .ok (.iaload, 1)) : ck_g Fc s0 p l e R s m args below meth c Q D cl tys M sc A ws0 sh0 S pc := by
  intro n ws sh H locs ls vs o hw hx hP hD hS
  unfold ck_sNl at h
  split at h
  · rename_i i r st hst
    split at h
    · rename_i hc
      refine ck_ird X hTT hst hc hdg o hw hP hD (fun q a cA f vs2 hq ht hil hn0 hn1 hb h5 => ?_)
      have go : ∀ (hi : Int), (f (n i.2.1).1.toNat).toInt ≤ hi → ck_so (mnL M) (mSG M) (S.1, (0, S.2.2.2.1.length, []) :: st, S.2.2.1, S.2.2.2.1 ++ [(lo, hi)], S.2.2.2.2.1, S.2.2.2.2.2) (ck_nx n S.2.2.2.1.length ((f (n i.2.1).1.toNat).toInt, .null)) ws sh sc ls (.int (f (n i.2.1).1.toNat) :: vs2) := by
        intro hi h2
        exact o.new h5 (tag := 0) (ts := []) (iv := (lo, hi)) (rs := []) (x := ((f (n i.2.1).1.toNat).toInt, .null)) (v := .int (f (n i.2.1).1.toNat)) (.mi (Nat.lt_succ_self _) (by rw [ck_nx_eq])) (fun _ => ⟨hb.1, h2⟩) (fun r hr => by cases hr)
      split at h
      · rename_i y hf
        have eL := Option.some.inj h
        obtain ⟨x, hx1, x1, x2, x3, x4, x5⟩ := ck_fm_ok o hf
        obtain ⟨g1, g2, g3, g4, cA', len', f', e1, g5⟩ := ck_note o hx1 x1 x2 (by decide) hw.2.2 hq ht
        cases e1
        have g5 : (f (n x.2.2.2.1).1.toNat).toInt ≤ 9 := g5
        rw [x3, x5] at g5
        exact (hk _ (by rw [← eL]; exact List.mem_cons_self)).at (go 9 g5) hw hx hP hD hS rfl
      · have eL := Option.some.inj h
        exact (hk _ (by rw [← eL]; exact List.mem_cons_self)).at (go hi hb.2) hw hx hP hD hS rfl
    · cases h
  · cases h
theorem ck_sWs_ok (X : ck_cx p l e R s m args below meth c cc own D cl tys M sc A) {F tW tN len k0 : Nat} {lo hi : Int} {ts : List Nat} (hTT : (mTT M)[tW]? = some (1, len, k0, [(0, lo, hi, ts)])) (h6 : len = 6) (hlo : lo ≤ -9) (hhi : 1 ≤ hi) (htN : tN ≠ tW) (hW : (tW, 0) ∈ mWr M) {L : List ck_S} (h : ck_sWs F tW tN len S = some L) (hk : ∀ S' ∈ L, ck_g Fc s0 p l e R s m args below meth c Q D cl tys M sc A ws0 sh0 S' (pc + 1)) (hdg : decode cc pc = .ok (.iastore, 1)) : ck_g Fc s0 p l e R s m args below meth c Q D cl tys M sc A ws0 sh0 S pc := by
  intro n ws sh H locs ls vs o hw hx hP hD hS
  unfold ck_sWs at h
  split at h
  · rename_i v i r st hst
    split at h
    · rename_i hc
      obtain ⟨hv0, hi0, hr2, hrt, hb1, hb2⟩ := hc
      split at h
      · rename_i z zl hf
        split at h
        · rename_i hN
          have o3 := o.2.2.1
          rw [hst] at o3
          obtain ⟨vv, vs0, rfl, h1, h1'⟩ := ck_hd o3
          obtain ⟨iv', vs1, rfl, h2, h3⟩ := ck_hd h1'
          obtain ⟨ra, vs2, rfl, h4, h5⟩ := ck_hd h3
          obtain ⟨hvl, v0, rfl, ev⟩ := h1.i hv0
          obtain ⟨hil, x, rfl, ex⟩ := h2.i hi0
          obtain ⟨-, -, q, a, e0, t, rfl, hq, ht, htm⟩ := h4.r hr2
          rw [hrt] at htm
          rw [List.mem_singleton.mp htm] at ht
          have p1 := ck_ent_ok o.2.2.2.2.1 o.2.2.2.2.2 F _ _ _ hb1
          have p2 := ck_ent_ok o.2.2.2.2.1 o.2.2.2.2.2 F _ _ _ hb2
          rw [o.1.2] at p1 p2
          obtain ⟨y, hy1, x1, x2, x3, x4⟩ := ck_fn_ok hf
          obtain ⟨g1, g2, g3, g4, cA', len', f, rfl, g5⟩ := ck_note o hy1 x1 x2 (by decide) hw.2.2 hq ht
          have g5 : ∀ j : Nat, j < 6 → (f j).toInt = 1 → (n y.2.2.2.1).1.toNat.testBit j = true := g5
          rw [x3] at g5
          rcases o.2.2.2.1 _ (List.contains_iff_mem.mp hN) with ⟨-, -, ⟨w, -⟩ | ⟨w, -⟩⟩ | ⟨-, -, q1, a', oo, v, -, -, -, w⟩ | ⟨w0, w1, w2, w3, w4, w5, q1, a', cA1, len1, f1, w6, w7, w8⟩
          · cases w
          · cases w
          · exact w.2.elim
          have w8 : ∀ j : Nat, j < 6 → (n z).1.toNat.testBit j = true → (f1 j).toInt ≤ 9 := w8
          have hN1 : ∀ y : Int × Int, (S.2.2.2.1 ++ [y]).length = S.2.2.2.1.length + 1 := fun y => by simp
          have hqq : q ≠ q1 := fun eq => by
            rw [eq, w6] at ht
            exact htN (Option.some.inj ht)
          -- what both ways share
          have com : ∀ (Z : Nat), lo ≤ v0.toInt → v0.toInt ≤ hi → (∀ (cA' : ClassId) (ws' : va_W) (H1 : Heap) (locs1 : List Loc), ck_so (mnL M) (mSG M) (S.1, st, S.2.2.1.filter (fun m => !(m.1 == tW)), S.2.2.2.1 ++ [((1 : Int), (0 : Int))], S.2.2.2.2.1, S.2.2.2.2.2) (ck_nx n S.2.2.2.1.length ((Z : Int), .null)) ws' sh sc ls vs2 →
              ws'[q]? = some (a, .inl (cA', len, .inl (upd f x.toInt.toNat v0))) → ws'[q1]? = some (a', .inl (cA1, len1, .inl f1)) → ck_wo tys (mTT M) (mSG M) ws' sh → ck_ex (mWr M) ws0 sh0 ws' sh → va_P D cl ws' H1 → va_D A ws' → va_S A s.heap H1 locs1 → WG (tM M Fc sc.1) s0 p l e R s m args below meth c ws' sh H1 locs1 (ck_oc R M + S.2.2.2.2.2.1) (ck_os R M + S.2.2.2.2.2.2) Q ((pc + 1), ls, vs2)) →
              WG (tM M Fc sc.1) s0 p l e R s m args below meth c ws sh H locs (ck_oc R M + S.2.2.2.2.2.1) (ck_os R M + S.2.2.2.2.2.2) Q (pc, ls, (.int v0 :: .int x :: .ref a :: vs2)) := by
            intro Z l1 l2 kk
            refine ck_ist X hTT hW hw hx hP hD hS hq ht (by omega) (by omega) ⟨l1, l2⟩ hdg (fun cA' f' H1 locs1 ee w1 w2 w3 hP1 hD1 hS1 hq' => ?_)
            have eff : f = f' := by cases ee; rfl
            subst eff
            refine kk cA' _ H1 locs1 ?_ hq' (by rw [List.getElem?_set_ne hqq]; exact w7) w2 w3 hP1 hD1 hS1
            have o1 := o.wr h5 w1
            exact ck_so.sym (iv := ((1 : Int), (0 : Int))) (rs := []) (z := (Z : Int)) o1 (fun hh => absurd hh (by decide)) (fun r hr => by cases hr)
          have hk6 : (n i.2.1).1.toNat < 6 := by omega
          have hxk : x.toInt.toNat = (n i.2.1).1.toNat := by rw [ex]
          -- the notes behind it
          have nW : ∀ (Z : Nat) (ws' : va_W) (cA' : ClassId), (∀ j, j < 6 → (upd f x.toInt.toNat v0 j).toInt = 1 → Z.testBit j = true) → ws'[q]? = some (a, .inl (cA', len, .inl (upd f x.toInt.toNat v0))) → ck_tn (mSG M) ws' sh (ck_nx n S.2.2.2.1.length ((Z : Int), .null)) (S.2.2.2.1 ++ [((1 : Int), (0 : Int))]).length (tW, 0, (30, S.2.2.2.1.length, [])) := by
            intro Z ws' cA' hZ hq'
            refine ⟨by dsimp only; omega, g2, g1, rfl, by rw [hN1]; dsimp only; omega, fun j hj => absurd hj List.not_mem_nil, q, a, cA', len, _, ht, hq', ?_⟩
            unfold ck_nt
            rw [if_neg (by dsimp only; omega)]
            show ∀ j : Nat, j < 6 → _ → _
            rw [ck_nx_eq]
            exact hZ
          split at h
          · rename_i hv1
            obtain ⟨hv1, hv2⟩ := hv1
            have r1 := ck_ent_ok o.2.2.2.2.1 o.2.2.2.2.2 F _ _ _ hv1
            have r2 := ck_ent_ok o.2.2.2.2.1 o.2.2.2.2.2 F _ _ _ hv2
            rw [o.1.2] at r1 r2
            have eL := Option.some.inj h
            obtain ⟨Z, hZ⟩ := ck_bits (fun j => (n z).1.toNat.testBit j || j == (n i.2.1).1.toNat)
            refine com Z (by omega) (by omega) (fun cA' ws' H1 locs1 o1 hq' hq1 w2' w3' hP1 hD1 hS1 => ?_)
            have o2 := o1.nt (x := (tN, 0, (34, S.2.2.2.1.length, [i.2.1]))) (by
              show ck_tn (mSG M) ws' sh _ (S.2.2.2.1 ++ [((1 : Int), (0 : Int))]).length _
              refine ⟨by dsimp only; omega, w1, w2, rfl, by rw [hN1]; dsimp only; omega, fun j hj => by rw [List.mem_singleton.mp hj, hN1]; omega, q1, a', cA1, len1, f1, w6, hq1, ?_⟩
              dsimp only [List.map]
              unfold ck_nt
              rw [if_neg (by decide)]
              show ∀ j : Nat, j < 6 → _ → _ → _
              rw [ck_nx_eq, ck_nx_lt _ hil]
              intro j hj hne hb
              refine w8 j hj ?_
              have hb : Z.testBit j = true := hb
              rw [hZ j hj, Bool.or_eq_true, beq_iff_eq] at hb
              rcases hb with hb | hb
              · exact hb
              · exact absurd hb hne)
            have o4 := o2.nt (x := (tW, 0, (30, S.2.2.2.1.length, []))) (nW Z ws' cA' (fun j hj hu => by
              rw [hZ j hj, Bool.or_eq_true, beq_iff_eq]
              by_cases ej : j = (n i.2.1).1.toNat
              · exact Or.inr ej
              · rw [ck_up_ne (by rw [hxk]; exact ej)] at hu
                exact Or.inl (g5 j hj hu)) hq')
            exact (hk _ (by rw [← eL]; exact List.mem_cons_self)).at o4 w2' w3' hP1 hD1 hS1 rfl
          · split at h
            · rename_i hv1
              obtain ⟨hv1, hv2⟩ := hv1
              have r1 := ck_ent_ok o.2.2.2.2.1 o.2.2.2.2.2 F _ _ _ hv1
              have r2 := ck_ent_ok o.2.2.2.2.1 o.2.2.2.2.2 F _ _ _ hv2
              rw [o.1.2] at r1 r2
              have eL := Option.some.inj h
              obtain ⟨Z, hZ⟩ := ck_bits (fun j => (n z).1.toNat.testBit j && !(j == (n i.2.1).1.toNat))
              refine com Z (by omega) (by omega) (fun cA' ws' H1 locs1 o1 hq' hq1 w2' w3' hP1 hD1 hS1 => ?_)
              have h31 : ∀ j : Nat, j < 6 → Z.testBit j = true → (f1 j).toInt ≤ 9 := fun j hj hb => by
                rw [hZ j hj, Bool.and_eq_true] at hb
                exact w8 j hj hb.1
              have o2 := o1.nt (x := (tN, 0, (35, S.2.2.2.1.length, [i.2.1]))) (by
                show ck_tn (mSG M) ws' sh _ (S.2.2.2.1 ++ [((1 : Int), (0 : Int))]).length _
                refine ⟨by dsimp only; omega, w1, w2, rfl, by rw [hN1]; dsimp only; omega, fun j hj => by rw [List.mem_singleton.mp hj, hN1]; omega, q1, a', cA1, len1, f1, w6, hq1, ?_⟩
                dsimp only [List.map]
                unfold ck_nt
                rw [if_neg (by decide)]
                show (∀ j : Nat, j < 6 → _ → _) ∧ _
                rw [ck_nx_eq, ck_nx_lt _ hil]
                refine ⟨h31, ?_⟩
                show Z.testBit _ = false
                rw [hZ _ hk6]
                simp)
              have o2' := o2.nt (x := (tN, 0, (31, S.2.2.2.1.length, []))) (by
                show ck_tn (mSG M) ws' sh _ (S.2.2.2.1 ++ [((1 : Int), (0 : Int))]).length _
                refine ⟨by dsimp only; omega, w1, w2, rfl, by rw [hN1]; dsimp only; omega, fun j hj => absurd hj List.not_mem_nil, q1, a', cA1, len1, f1, w6, hq1, ?_⟩
                unfold ck_nt
                rw [if_neg (by dsimp only; omega)]
                show ∀ j : Nat, j < 6 → _ → _
                rw [ck_nx_eq]
                exact h31)
              have o4 := o2'.nt (x := (tW, 0, (30, S.2.2.2.1.length, []))) (nW Z ws' cA' (fun j hj hu => by
                rw [hZ j hj, Bool.and_eq_true]
                by_cases ej : j = (n i.2.1).1.toNat
                · rw [ej, ← hxk, ck_up_eq] at hu
                  omega
                · rw [ck_up_ne (by rw [hxk]; exact ej)] at hu
                  exact ⟨g5 j hj hu, by simp [ej]⟩) hq')
              exact (hk _ (by rw [← eL]; exact List.mem_cons_self)).at o4 w2' w3' hP1 hD1 hS1 rfl
            · cases h
        · cases h
      · cases h
    · cases h
  · cases h
theorem ck_sNs_ok (X : ck_cx p l e R s m args below meth c cc own D cl tys M sc A) {F tN len k0 : Nat} {lo hi : Int} {ts : List Nat} (hTT : (mTT M)[tN]? = some (1, len, k0, [(0, lo, hi, ts)])) (h6 : len = 6) (hW : (tN, 0) ∈ mWr M) {L : List ck_S} (h : ck_sNs F tN len lo hi S = some L) (hk : ∀ S' ∈ L, ck_g Fc s0 p l e R s m args below meth c Q D cl tys M sc A ws0 sh0 S' (pc + 1)) (hdg : decode cc pc = .ok (.iastore, 1)) : ck_g Fc s0 p l e R s m args below meth c Q D cl tys M sc A ws0 sh0 S pc := by
  intro n ws sh H locs ls vs o hw hx hP hD hS
  unfold ck_sNs at h
  split at h
  · rename_i v i r st hst
    split at h
    · rename_i hc
      obtain ⟨hv0, hi0, hr2, hrt, hb1, hb2, hb3, hb4⟩ := hc
      have o3 := o.2.2.1
      rw [hst] at o3
      obtain ⟨vv, vs0, rfl, h1, h1'⟩ := ck_hd o3
      obtain ⟨iv', vs1, rfl, h2, h3⟩ := ck_hd h1'
      obtain ⟨ra, vs2, rfl, h4, h5⟩ := ck_hd h3
      obtain ⟨hvl, v0, rfl, ev⟩ := h1.i hv0
      obtain ⟨hil, x, rfl, ex⟩ := h2.i hi0
      obtain ⟨-, -, q, a, e0, t, rfl, hq, ht, htm⟩ := h4.r hr2
      rw [hrt] at htm
      rw [List.mem_singleton.mp htm] at ht
      have p1 := ck_ent_ok o.2.2.2.2.1 o.2.2.2.2.2 F _ _ _ hb1
      have p2 := ck_ent_ok o.2.2.2.2.1 o.2.2.2.2.2 F _ _ _ hb2
      have p3 := ck_ent_ok o.2.2.2.2.1 o.2.2.2.2.2 F _ _ _ hb3
      have p4 := ck_ent_ok o.2.2.2.2.1 o.2.2.2.2.2 F _ _ _ hb4
      rw [o.1.2] at p1 p2 p3 p4
      have hxk : x.toInt.toNat = (n i.2.1).1.toNat := by rw [ex]
      have com : ∀ (f : Nat → Int32) (cA0 : ClassId) (len0 : Nat) (z : Nat), e0 = .inl (cA0, len0, .inl f) → tN ∈ mSG M → tN ≠ 0 → z < S.2.2.2.1.length → (∀ j : Nat, j < 6 → (n z).1.toNat.testBit j = true → (upd f x.toInt.toNat v0 j).toInt ≤ 9) → (S.1, st, (tN, 0, (31, z, [])) :: S.2.2.1.filter (fun m => !(m.1 == tN)), S.2.2.2) ∈ L →
          WG (tM M Fc sc.1) s0 p l e R s m args below meth c ws sh H locs (ck_oc R M + S.2.2.2.2.2.1) (ck_os R M + S.2.2.2.2.2.2) Q (pc, ls, (.int v0 :: .int x :: .ref a :: vs2)) := by
        intro f cA0 len0 z e1 g1 g2 hz hb hmem
        subst e1
        refine ck_ist X hTT hW hw hx hP hD hS hq ht (by omega) (by omega) ⟨by dsimp only; omega, by dsimp only; omega⟩ hdg (fun cA' f' H1 locs1 ee w1 w2 w3 hP1 hD1 hS1 hq' => ?_)
        have eff : f = f' := by cases ee; rfl
        subst eff
        have o1 := o.wr h5 w1
        have o2 := o1.nt (x := (tN, 0, (31, z, []))) (by
          refine ⟨by dsimp only; omega, g2, g1, rfl, hz, fun j hj => absurd hj List.not_mem_nil, q, a, cA', len, _, ht, hq', ?_⟩
          unfold ck_nt
          rw [if_neg (by dsimp only; omega)]
          exact hb)
        exact (hk _ hmem).at o2 w2 w3 hP1 hD1 hS1 rfl
      split at h
      · rename_i z zl hf
        have eL := Option.some.inj h
        obtain ⟨y, hy1, k, x1, x2, x3, x4, x5⟩ := ck_fl_ok o hf
        obtain ⟨g1, g2, g3, g4, cA', len', f, rfl, g5⟩ := ck_note o hy1 x1 x2 (by decide) hw.2.2 hq ht
        rw [x4] at g5
        have g5 : (∀ j : Nat, j < 6 → (n y.2.2.2.1).1.toNat.testBit j = true → (f j).toInt ≤ 9) ∧ (n y.2.2.2.1).1.toNat.testBit (n k).1.toNat = false := g5
        rw [x3, x5] at g5
        rw [x3] at g3
        refine com f cA' len' z rfl g1 g2 g3 (fun j hj hb => ?_) (by rw [← eL]; exact List.mem_cons_self)
        by_cases ej : j = (n i.2.1).1.toNat
        · rw [ej, g5.2] at hb
          cases hb
        · rw [ck_up_ne (by rw [hxk]; exact ej)]
          exact g5.1 j hj hb
      · split at h
        · rename_i z zl hf
          split at h
          · rename_i hv9
            have p5 := ck_ent_ok o.2.2.2.2.1 o.2.2.2.2.2 F _ _ _ hv9
            rw [o.1.2] at p5
            have eL := Option.some.inj h
            obtain ⟨y, hy1, k, x1, x2, x3, x4, x5⟩ := ck_fl_ok o hf
            obtain ⟨g1, g2, g3, g4, cA', len', f, rfl, g5⟩ := ck_note o hy1 x1 x2 (by decide) hw.2.2 hq ht
            rw [x4] at g5
            have g5 : ∀ j : Nat, j < 6 → j ≠ (n k).1.toNat → (n y.2.2.2.1).1.toNat.testBit j = true → (f j).toInt ≤ 9 := g5
            rw [x3, x5] at g5
            rw [x3] at g3
            refine com f cA' len' z rfl g1 g2 g3 (fun j hj hb => ?_) (by rw [← eL]; exact List.mem_cons_self)
            by_cases ej : j = (n i.2.1).1.toNat
            · rw [ej, ← hxk, ck_up_eq]
              omega
            · rw [ck_up_ne (by rw [hxk]; exact ej)]
              exact g5 j hj ej hb
          · cases h
        · cases h
    · cases h
  · cases h
end
end
