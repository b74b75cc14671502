noncomputable section
/-! a write of a sign; the beginning: no signs -/
def ck_sGs (F tS len : Nat) (S : ck_S) : Option (List ck_S) := match S.2.1 with
  | v :: i :: r :: st => if v.1 = 0 ∧ i.1 = 0 ∧ r.1 = 2 ∧ r.2.2 = [tS] ∧ ck_ent S.2.2.2.1 S.2.2.2.2.1 F i.2.1 0 ((len : Int) - 1) = true then (match ck_gf F tS i.2.1 0 S, S.2.2.2.1[v.2.1]? with
    | some (tag, _, c, o), some iv => if iv.1 = iv.2 then (
        if iv.1 = 38 ∨ iv.1 = 62 ∨ iv.1 = 124 then (if 21 ≤ tag then some [(S.1, st, (tS, 0, (21, S.2.2.2.1.length, [(S.2.2.2.1 ++ [(1, (len : Int))]).length, o])) :: S.2.2.1.filter (fun m => !(m.1 == tS)), (S.2.2.2.1 ++ [(1, (len : Int))]) ++ [(1, (len : Int))],
          [((S.2.2.2.1 ++ [(1, (len : Int))]).length, c, 1), (c, (S.2.2.2.1 ++ [(1, (len : Int))]).length, -1)] ++ ([(S.2.2.2.1.length, i.2.1, 1), (i.2.1, S.2.2.2.1.length, -1)] ++ S.2.2.2.2.1), S.2.2.2.2.2)] else none)
        else if iv.1 = 40 then some [(S.1, st, (tS, 0, (21, S.2.2.2.1.length, [c, (S.2.2.2.1 ++ [(1, (len : Int))]).length])) :: S.2.2.1.filter (fun m => !(m.1 == tS)), (S.2.2.2.1 ++ [(1, (len : Int))]) ++ [(1, (len : Int))],
          [((S.2.2.2.1 ++ [(1, (len : Int))]).length, o, 1), (o, (S.2.2.2.1 ++ [(1, (len : Int))]).length, -1)] ++ ([(S.2.2.2.1.length, i.2.1, 1), (i.2.1, S.2.2.2.1.length, -1)] ++ S.2.2.2.2.1), S.2.2.2.2.2)]
        else if iv.1 = 45 then some [(S.1, st, (tS, 0, (20, S.2.2.2.1.length, [c, o])) :: S.2.2.1.filter (fun m => !(m.1 == tS)), S.2.2.2.1 ++ [(1, (len : Int))], [(S.2.2.2.1.length, i.2.1, 1), (i.2.1, S.2.2.2.1.length, -1)] ++ S.2.2.2.2.1, S.2.2.2.2.2)]
        else none) else none
    | _, _ => none) else none
  | _ => none
theorem ck_cn_upd {p : Int32 → Bool} {f : Nat → Int32} {k : Nat} {v : Int32} : ∀ {j : Nat}, j ≤ k → ck_cn p (upd f k v) j = ck_cn p f j
  | 0, _ => rfl
  | j + 1, h => by
    rw [ck_cn_s, ck_cn_s, ck_cn_upd (Nat.le_of_succ_le h)]
    have e : upd f k v j = f j := by
      unfold upd
      rw [if_neg (by omega)]
    rw [e]
theorem ck_up_eq {f : Nat → Int32} {k : Nat} {v : Int32} : upd f k v k = v := if_pos rfl
theorem ck_up_ne {f : Nat → Int32} {k j : Nat} {v : Int32} (h : j ≠ k) : upd f k v j = f j := if_neg h
/-- a sign more -/
theorem ck_ng_push {tag : Nat} {f : Nat → Int32} {m c o : Int} {k : Nat} (hk : m.toNat = k) (h : ck_ng tag f m [c, o]) (v : Int32) {tag' : Nat} (hv : ck_b3 v = true ∨ v = 40 ∨ v = 45) (h1 : ck_b3 v = true → 21 ≤ tag) (h2 : 21 ≤ tag' → v ≠ 45) (h3 : tag' < 22) :
    ck_ng tag' (upd f k v) (m + 1) [c + (if ck_b3 v = true then 1 else 0), o + (if v = 40 then 1 else 0)] := by
  unfold ck_ng at h ⊢
  obtain ⟨n1, n2, n3, n4, n5, n6, n7⟩ := h
  have hk1 : (m + 1).toNat = k + 1 := by omega
  rw [hk] at n2 n3 n4 n5 n6 n7
  rw [hk1]
  refine ⟨by omega, ?_, ?_, fun j hj => ?_, fun j hj he => ?_, fun ht _ => ?_, fun ht => by omega⟩
  · rw [ck_cn_s, ck_cn_upd (Nat.le_refl _), ck_up_eq, n2]
    split <;> simp
  · rw [ck_cn_s, ck_cn_upd (Nat.le_refl _), ck_up_eq, n3]
    by_cases e : v = 40
    · rw [if_pos e, if_pos (by rw [e]; rfl)]
      simp
    · rw [if_neg e, if_neg (by simpa using e)]
      simp
  · by_cases e : j = k
    · rw [e, ck_up_eq]
      exact hv
    · rw [ck_up_ne e]
      exact n4 j (by omega)
  · rw [ck_up_ne (show j ≠ k by omega)] at he
    by_cases e : j + 1 = k
    · rw [e, ck_up_eq]
      rcases hv with z | z | z
      · have := n6 (h1 z) (by omega)
        rw [show k - 1 = j by omega] at this
        exact absurd he this
      · exact Or.inr z
      · exact Or.inl z
    · rw [ck_up_ne e]
      exact n5 j (by omega) he
  · rw [Nat.add_sub_cancel, ck_up_eq]
    exact h2 ht
section
variable {Fc : Nat → Nat × fR} {s0 : fS} {p : Program} {l : Launch} {e : Env} {R : Room} {s : State} {m : MethodId} {args : Array Value} {below : List Frame} {meth : Method} {c : Code} {Q : State → Prop} {cc : ByteArray} {own : String} {D : va_G} {cl : List vw_C} {tys : List (ClassId × FieldType)} {M : ck_Me} {sc : ck_sc} {A : Nat → Prop} {ws0 : va_W} {sh0 : List Nat} {S : ck_S} {pc : Nat}
/-- a write of an array of ints: the world behind it -/
theorem ck_ist (X : ck_cx p l e R s m args below meth c cc own D cl tys M sc A) {t len k0 : Nat} {T : ck_T} (hTT : (mTT M)[t]? = some (1, len, k0, [T])) (hW : (t, 0) ∈ mWr M) {ws : va_W} {sh : List Nat} {H : Heap} {locs : List Loc} {ls : Array Slot} {vs : List Value} {cells slots : Nat}
    (hw : ck_wo tys (mTT M) (mSG M) ws sh) (hx : ck_ex (mWr M) ws0 sh0 ws sh) (hP : va_P D cl ws H) (hD : va_D A ws) (hS : va_S A s.heap H locs) {q a : Nat} {e0 : va_E} (hq : ws[q]? = some (a, e0)) (ht : sh[q]? = some t) {x v : Int32} (hx0 : 0 ≤ x.toInt) (hx1 : x.toInt < len) (hv : T.2.1 ≤ v.toInt ∧ v.toInt ≤ T.2.2.1) (hdg : decode cc pc = .ok (.iastore, 1))
    (kk : ∀ (cA : ClassId) (f : Nat → Int32) (H1 : Heap) (locs1 : List Loc), e0 = .inl (cA, len, .inl f) → ck_ex [(t, 0)] ws sh (ws.set q (a, .inl (cA, len, .inl (upd f x.toInt.toNat v)))) sh → ck_wo tys (mTT M) (mSG M) (ws.set q (a, .inl (cA, len, .inl (upd f x.toInt.toNat v)))) sh → ck_ex (mWr M) ws0 sh0 (ws.set q (a, .inl (cA, len, .inl (upd f x.toInt.toNat v)))) sh →
      va_P D cl (ws.set q (a, .inl (cA, len, .inl (upd f x.toInt.toNat v)))) H1 → va_D A (ws.set q (a, .inl (cA, len, .inl (upd f x.toInt.toNat v)))) → va_S A s.heap H1 locs1 → (ws.set q (a, .inl (cA, len, .inl (upd f x.toInt.toNat v))))[q]? = some (a, .inl (cA, len, .inl (upd f x.toInt.toNat v))) → WG (tM M Fc sc.1) s0 p l e R s m args below meth c (ws.set q (a, .inl (cA, len, .inl (upd f x.toInt.toNat v)))) sh H1 locs1 cells slots Q ((pc + 1), ls, vs)) :
    WG (tM M Fc sc.1) s0 p l e R s m args below meth c ws sh H locs cells slots Q (pc, ls, (.int v :: .int x :: .ref a :: vs)) := by
  obtain ⟨td, d1, d2⟩ := hw.2.1 q a _ t hq ht
  have etd : td = (1, len, k0, [T]) := Option.some.inj (d1.symm.trans hTT)
  subst etd
  obtain ⟨cA, f, t1, rfl, t3⟩ := d2
  have hin : vp_in x len := by
    rintro (z | z)
    · have := Int32.lt_iff_toInt_lt.mp z
      rw [Int32.toInt_zero] at this
      omega
    · have : x.toNatClampNeg = x.toInt.toNat := rfl
      omega
  intro lg hlg hgr
  refine va_iast X.1 X.2.1 X.2.2.2.1 hP hD hS q k0 hq t1 hin hdg (fun H1 locs1 hP1 hD1 hS1 => ?_)
  have hco : ck_co tys ws sh (1, len, k0, [T]) (.inl (cA, len, .inl (upd f x.toInt.toNat v))) := by
    refine ⟨cA, _, t1, rfl, fun T' hT' => ?_⟩
    have eT : T = T' := Option.some.inj hT'
    subst eT
    obtain ⟨u1, u2⟩ := t3 T rfl
    refine ⟨u1, fun j hj => ?_⟩
    unfold upd
    split
    · exact hv
    · exact u2 j hj
  obtain ⟨w1, w2⟩ := ck_wo_set (Wr := [(t, 0)]) (e' := .inl (cA, len, .inl (upd f x.toInt.toNat v))) hw hq ht (fun z => absurd (List.mem_singleton.mpr rfl) z) d1 hco
  exact kk cA f H1 locs1 rfl w2 w1 (hx.tr (fun z hz => by rw [List.mem_singleton.mp hz]; exact hW) w2) hP1 hD1 hS1 (List.getElem?_set_self (List.getElem?_eq_some_iff.mp hq).1) lg hlg (hgr.nx X.2.1 hdg ⟨v, x, a, _, rfl, q, _, cA, f, hq, ck_in_lt hin, rfl⟩)
theorem ck_sGs_ok (X : ck_cx p l e R s m args below meth c cc own D cl tys M sc A) {F tS len k0 : Nat} {lo hi : Int} {ts : List Nat} (hTT : (mTT M)[tS]? = some (1, len, k0, [(0, lo, hi, ts)])) (hT1 : lo ≤ 38) (hT2 : 124 ≤ hi) (hW : (tS, 0) ∈ mWr M) {L : List ck_S} (h : ck_sGs F tS len S = some L) (hk : ∀ S' ∈ L, ck_g Fc s0 p l e R s m args below meth c Q D cl tys M sc A ws0 sh0 S' (pc + 1)) (hdg : decode cc pc = .ok (.iastore, 1)) : ck_g Fc s0 p l e R s m args below meth c Q D cl tys M sc A ws0 sh0 S pc := by
  intro n ws sh H locs ls vs o hw hx hP hD hS
  unfold ck_sGs at h
  split at h
  · rename_i v i r st hst
    split at h
    · rename_i hc
      obtain ⟨hv0, hi0, hr2, hrt, hb2⟩ := hc
      split at h
      · rename_i tag m' c' o' iv hf hiv
        have o3 := o.2.2.1
        rw [hst] at o3
        obtain ⟨vv, vs0, rfl, h1, h1'⟩ := ck_hd o3
        obtain ⟨iv', vs1, rfl, h2, h3⟩ := ck_hd h1'
        obtain ⟨ra, vs2, rfl, h4, h5⟩ := ck_hd h3
        obtain ⟨hvl, v0, rfl, ev⟩ := h1.i hv0
        obtain ⟨hil, x, rfl, ex⟩ := h2.i hi0
        obtain ⟨-, -, q, a, e0, t, rfl, hq, ht, htm⟩ := h4.r hr2
        rw [hrt] at htm
        rw [List.mem_singleton.mp htm] at ht
        obtain ⟨g1, g2, g3, g4, g5, g6, g7, g8, cA, len1, f, rfl, hng⟩ := ck_gf_ok o hf hw.2.2 hq ht
        dsimp only at g3 g4 g5 g6 g7 g8 hng
        have p2 := ck_ent_ok o.2.2.2.2.1 o.2.2.2.2.2 F _ _ _ hb2
        rw [o.1.2] at p2
        have p3 : 0 ≤ (n m').1 := by
          unfold ck_ng at hng
          exact hng.1
        split at h
        · rename_i hcc
          have E := o.2.2.2.2.1 _ _ hiv (by omega)
          have hvv : v0.toInt = iv.1 := by omega
          have hkn : (n m').1.toNat = x.toInt.toNat := by omega
          have e9 : (n i.2.1).1 + 1 = (n m').1 + 1 := by omega
          -- what all three ways share
          have com : ∀ (ivs : Int), iv.1 = ivs → lo ≤ ivs → ivs ≤ hi → (∀ (cA' : ClassId) (ws' : va_W) (H1 : Heap) (locs1 : List Loc), ck_so (mnL M) (mSG M) (S.1, st, S.2.2.1.filter (fun m => !(m.1 == tS)), S.2.2.2.1 ++ [(1, (len : Int))], [(S.2.2.2.1.length, i.2.1, 1), (i.2.1, S.2.2.2.1.length, -1)] ++ S.2.2.2.2.1, S.2.2.2.2.2) (ck_nx n S.2.2.2.1.length ((n m').1 + 1, .null)) ws' sh sc ls vs2 →
              ws'[q]? = some (a, .inl (cA', len, .inl (upd f x.toInt.toNat v0))) → ck_wo tys (mTT M) (mSG M) ws' sh → ck_ex (mWr M) ws0 sh0 ws' sh → va_P D cl ws' H1 → va_D A ws' → va_S A s.heap H1 locs1 → WG (tM M Fc sc.1) s0 p l e R s m args below meth c ws' sh H1 locs1 (ck_oc R M + S.2.2.2.2.2.1) (ck_os R M + S.2.2.2.2.2.2) Q ((pc + 1), ls, vs2)) →
              WG (tM M Fc sc.1) s0 p l e R s m args below meth c ws sh H locs (ck_oc R M + S.2.2.2.2.2.1) (ck_os R M + S.2.2.2.2.2.2) Q (pc, ls, (.int v0 :: .int x :: .ref a :: vs2)) := by
            intro ivs hivs l1 l2 kk
            refine ck_ist X hTT hW hw hx hP hD hS hq ht (by omega) (by omega) ⟨by rw [hvv, hivs]; exact l1, by rw [hvv, hivs]; exact l2⟩ hdg (fun cA' f' H1 locs1 ee w1 w2 w3 hP1 hD1 hS1 hq' => ?_)
            have eff : f = f' := by cases ee; rfl
            subst eff
            refine kk cA' _ H1 locs1 ?_ hq' w2 w3 hP1 hD1 hS1
            have o1 := o.wr h5 w1
            refine ck_so.sym (iv := (1, (len : Int))) (rs := [(S.2.2.2.1.length, i.2.1, 1), (i.2.1, S.2.2.2.1.length, -1)]) (z := (n m').1 + 1) o1 (fun _ => ⟨by omega, by omega⟩) (fun r hr => ?_)
            show r.1 < S.2.2.2.1.length + 1 ∧ r.2.1 < S.2.2.2.1.length + 1 ∧ (ck_nx n S.2.2.2.1.length ((n m').1 + 1, .null) r.1).1 ≤ (ck_nx n S.2.2.2.1.length ((n m').1 + 1, .null) r.2.1).1 + r.2.2
            simp only [List.mem_cons, List.not_mem_nil, or_false] at hr
            rcases hr with rfl | rfl
            · refine ⟨Nat.lt_succ_self _, Nat.lt_succ_of_lt hil, ?_⟩
              dsimp only
              rw [ck_nx_eq, ck_nx_lt _ hil]
              dsimp only
              omega
            · refine ⟨Nat.lt_succ_of_lt hil, Nat.lt_succ_self _, ?_⟩
              dsimp only
              rw [ck_nx_eq, ck_nx_lt _ hil]
              dsimp only
              omega
          have hN1 : (S.2.2.2.1 ++ [(1, (len : Int))]).length = S.2.2.2.1.length + 1 := by simp
          -- one number more
          have two : ∀ (w : Nat) (S' : ck_S) (note : ck_M) (ivs : Int), w < S.2.2.2.1.length → iv.1 = ivs → lo ≤ ivs → ivs ≤ hi → 0 ≤ (n w).1 → (n w).1 ≤ (n m').1 → S' ∈ L →
              S' = (S.1, st, note :: S.2.2.1.filter (fun m => !(m.1 == tS)), (S.2.2.2.1 ++ [(1, (len : Int))]) ++ [(1, (len : Int))], [((S.2.2.2.1 ++ [(1, (len : Int))]).length, w, 1), (w, (S.2.2.2.1 ++ [(1, (len : Int))]).length, -1)] ++ ([(S.2.2.2.1.length, i.2.1, 1), (i.2.1, S.2.2.2.1.length, -1)] ++ S.2.2.2.2.1), S.2.2.2.2.2) →
              (∀ (cA' : ClassId) (ws' : va_W) (n2 : ck_N), ws'[q]? = some (a, .inl (cA', len, .inl (upd f x.toInt.toNat v0))) → (∀ j, j < S.2.2.2.1.length → n2 j = n j) → (n2 S.2.2.2.1.length).1 = (n m').1 + 1 → (n2 (S.2.2.2.1 ++ [(1, (len : Int))]).length).1 = (n w).1 + 1 → ck_tn (mSG M) ws' sh n2 ((S.2.2.2.1 ++ [(1, (len : Int))]) ++ [(1, (len : Int))]).length note) →
              WG (tM M Fc sc.1) s0 p l e R s m args below meth c ws sh H locs (ck_oc R M + S.2.2.2.2.2.1) (ck_os R M + S.2.2.2.2.2.2) Q (pc, ls, (.int v0 :: .int x :: .ref a :: vs2)) := by
            intro w S' note ivs hwl hivs l1 l2 hw0 hw1 hS' eS hnote
            refine com ivs hivs l1 l2 (fun cA' ws' H1 locs1 o1 hq' w2 w3 hP1 hD1 hS1 => ?_)
            have o2 := ck_so.sym (iv := (1, (len : Int))) (rs := [((S.2.2.2.1 ++ [(1, (len : Int))]).length, w, 1), (w, (S.2.2.2.1 ++ [(1, (len : Int))]).length, -1)]) (z := (n w).1 + 1) o1 (fun _ => ⟨by omega, by omega⟩) (fun r hr => by
              show r.1 < (S.2.2.2.1 ++ [(1, (len : Int))]).length + 1 ∧ r.2.1 < (S.2.2.2.1 ++ [(1, (len : Int))]).length + 1 ∧ (ck_nx (ck_nx n S.2.2.2.1.length ((n m').1 + 1, .null)) (S.2.2.2.1 ++ [(1, (len : Int))]).length ((n w).1 + 1, .null) r.1).1 ≤ (ck_nx (ck_nx n S.2.2.2.1.length ((n m').1 + 1, .null)) (S.2.2.2.1 ++ [(1, (len : Int))]).length ((n w).1 + 1, .null) r.2.1).1 + r.2.2
              simp only [List.mem_cons, List.not_mem_nil, or_false] at hr
              have hwl' : w < (S.2.2.2.1 ++ [(1, (len : Int))]).length := by omega
              rcases hr with rfl | rfl
              · refine ⟨Nat.lt_succ_self _, Nat.lt_succ_of_lt hwl', ?_⟩
                dsimp only
                rw [ck_nx_eq, ck_nx_lt _ hwl', ck_nx_lt _ hwl]
                exact Int.le_refl _
              · refine ⟨Nat.lt_succ_of_lt hwl', Nat.lt_succ_self _, ?_⟩
                dsimp only
                rw [ck_nx_eq, ck_nx_lt _ hwl', ck_nx_lt _ hwl]
                dsimp only
                omega)
            have o4 := o2.nt (x := note) (hnote cA' ws' _ hq' (fun j hj => by rw [ck_nx_lt j (by show _ < (S.2.2.2.1 ++ [(1, (len : Int))]).length; omega), ck_nx_lt j hj]) (by rw [ck_nx_lt _ (by show _ < (S.2.2.2.1 ++ [(1, (len : Int))]).length; omega), ck_nx_eq]) (by rw [ck_nx_eq]))
            subst eS
            exact (hk _ hS').at o4 w2 w3 hP1 hD1 hS1 rfl
          have hc0 : 0 ≤ (n c').1 ∧ (n c').1 ≤ (n m').1 := by
            have z := hng
            unfold ck_ng at z
            have := ck_cn_le ck_b3 f (n m').1.toNat
            omega
          have ho0 : 0 ≤ (n o').1 ∧ (n o').1 ≤ (n m').1 := by
            have z := hng
            unfold ck_ng at z
            have := ck_cn_le (fun x => x == 40) f (n m').1.toNat
            omega
          have hlen2 : ((S.2.2.2.1 ++ [(1, (len : Int))]) ++ [(1, (len : Int))]).length = S.2.2.2.1.length + 2 := by simp
          have i32 : ∀ z : Int32, v0.toInt = z.toInt → v0 = z := fun z hz => Int32.toInt_inj.mp hz
          split at h
          · rename_i hs
            split at h
            · rename_i htag
              have eL := Option.some.inj h
              have hb : ck_b3 v0 = true := by
                rcases hs with z | z | z
                · rw [i32 38 (by rw [hvv, z]; rfl)]; rfl
                · rw [i32 62 (by rw [hvv, z]; rfl)]; rfl
                · rw [i32 124 (by rw [hvv, z]; rfl)]; rfl
              have hne : v0 ≠ 40 ∧ v0 ≠ 45 := ⟨fun z => by rw [z] at hb; exact absurd hb (by decide), fun z => by rw [z] at hb; exact absurd hb (by decide)⟩
              refine two c' _ _ iv.1 g6 rfl (by omega) (by omega) hc0.1 hc0.2 (by rw [← eL]; exact List.mem_cons_self) rfl (fun cA' ws' n2 hq' e1 e2 e3 => ?_)
              refine ⟨by dsimp only; omega, g2, g1, rfl, by rw [hlen2]; dsimp only; omega, fun j hj => ?_, q, a, cA', len, _, ht, hq', ?_⟩
              · simp only [List.mem_cons, List.not_mem_nil, or_false] at hj
                rcases hj with rfl | rfl
                · rw [hlen2, hN1]; omega
                · rw [hlen2]; omega
              · dsimp only [List.map]
                unfold ck_nt
                rw [if_pos (by decide), e2, e3, e1 _ g7]
                have := ck_ng_push (tag' := 21) hkn hng v0 (Or.inl hb) (fun _ => htag) (fun _ => hne.2) (by decide)
                rw [if_pos hb, if_neg hne.1, Int.add_zero] at this
                exact this
            · cases h
          · split at h
            · rename_i hs40
              have eL := Option.some.inj h
              have hv40 : v0 = 40 := i32 40 (by rw [hvv, hs40]; rfl)
              refine two o' _ _ iv.1 g7 rfl (by omega) (by omega) ho0.1 ho0.2 (by rw [← eL]; exact List.mem_cons_self) rfl (fun cA' ws' n2 hq' e1 e2 e3 => ?_)
              refine ⟨by dsimp only; omega, g2, g1, rfl, by rw [hlen2]; dsimp only; omega, fun j hj => ?_, q, a, cA', len, _, ht, hq', ?_⟩
              · simp only [List.mem_cons, List.not_mem_nil, or_false] at hj
                rcases hj with rfl | rfl
                · rw [hlen2]; omega
                · rw [hlen2, hN1]; omega
              · dsimp only [List.map]
                unfold ck_nt
                rw [if_pos (by decide), e2, e3, e1 _ g6]
                have := ck_ng_push (tag' := 21) hkn hng v0 (Or.inr (Or.inl hv40)) (fun z => by rw [hv40] at z; exact absurd z (by decide)) (fun _ z => by rw [hv40] at z; exact absurd z (by decide)) (by decide)
                rw [if_neg (by rw [hv40]; decide), if_pos hv40, Int.add_zero] at this
                exact this
            · split at h
              · rename_i hs45
                have eL := Option.some.inj h
                have hv45 : v0 = 45 := i32 45 (by rw [hvv, hs45]; rfl)
                refine com iv.1 rfl (by omega) (by omega) (fun cA' ws' H1 locs1 o1 hq' w2 w3 hP1 hD1 hS1 => ?_)
                have o4 := o1.nt (x := (tS, 0, (20, S.2.2.2.1.length, [c', o']))) (by
                  show ck_tn (mSG M) ws' sh _ (S.2.2.2.1 ++ [(1, (len : Int))]).length _
                  refine ⟨by dsimp only; omega, g2, g1, rfl, by rw [hN1]; dsimp only; omega, fun j hj => ?_, q, a, cA', len, _, ht, hq', ?_⟩
                  · simp only [List.mem_cons, List.not_mem_nil, or_false] at hj
                    rcases hj with rfl | rfl
                    · rw [hN1]; omega
                    · rw [hN1]; omega
                  · dsimp only [List.map]
                    unfold ck_nt
                    rw [if_pos (by decide), ck_nx_eq, ck_nx_lt _ g6, ck_nx_lt _ g7]
                    have := ck_ng_push (tag' := 20) hkn hng v0 (Or.inr (Or.inr hv45)) (fun z => by rw [hv45] at z; exact absurd z (by decide)) (fun z => absurd z (by decide)) (by decide)
                    rw [if_neg (by rw [hv45]; decide), if_neg (by rw [hv45]; decide), Int.add_zero, Int.add_zero] at this
                    exact this)
                exact (hk _ (by rw [← eL]; exact List.mem_cons_self)).at o4 w2 w3 hP1 hD1 hS1 rfl
              · cases h
        · cases h
      · cases h
    · cases h
  · cases h
/-- the first instruction: aload_0; no sign waits -/
def ck_sG0 (tM tS : Nat) (S : ck_S) : Option (List ck_S) := match ck_look S.1 0 with
  | some r => if r.1 = 2 ∧ r.2.2 = [tM] then some [(S.1, r :: S.2.1, (tS, 0, (21, 0, [0, 0])) :: S.2.2.1, S.2.2.2)] else none
  | none => none
theorem ck_sG0_ok (X : ck_cx p l e R s m args below meth c cc own D cl tys M sc A) {tM tS len k0 kf ci : Nat} {Ts : List ck_T} {td : ck_D} {lo hi : Int} (hTT : (mTT M)[tS]? = some (1, len, k0, Ts)) (hM : (mTT M)[tM]? = some td) (hM0 : td.1 = 0) (hMf : td.2.2.2[kf]? = some (2, lo, hi, [tS])) (hSG : tS ∈ mSG M) (ht0 : tS ≠ 0) {L : List ck_S} (h : ck_sG0 tM tS S = some L) (hk : ∀ S' ∈ L, ck_g Fc s0 p l e R s m args below meth c Q D cl tys M sc A ws0 sh0 S' (pc + 1)) (hdg : decode cc pc = .ok (.aload_n 0, 1)) : ck_g Fc s0 p l e R s m args below meth c Q D cl tys M sc A ws0 sh0 S pc := by
  intro n ws sh H locs ls vs o hw hx hP hD hS
  unfold ck_sG0 at h
  split at h
  · rename_i r hr
    split at h
    · rename_i hc
      have eL := Option.some.inj h
      obtain ⟨v, hv1, hv2⟩ := ck_look_ok o.2.1 hr
      obtain ⟨-, -, q, a, e0, t, rfl, hq, ht, htm⟩ := hv2.r hc.1
      rw [hc.2] at htm
      rw [List.mem_singleton.mp htm] at ht
      obtain ⟨td', d1, d2⟩ := hw.2.1 q a _ tM hq ht
      have etd : td' = td := Option.some.inj (d1.symm.trans hM)
      subst etd
      unfold ck_co at d2
      rw [hM0] at d2
      obtain ⟨fs, -, -, d3⟩ := d2
      obtain ⟨u, -, d4⟩ := d3 kf _ hMf
      obtain ⟨q2, a2, e2, t2, rfl, hq2, ht2, htm2⟩ := (show ck_rf ws sh [tS] u from d4)
      rw [List.mem_singleton.mp htm2] at ht2
      obtain ⟨td2, d5, d6⟩ := hw.2.1 q2 a2 _ tS hq2 ht2
      have etd2 : td2 = (1, len, k0, Ts) := Option.some.inj (d5.symm.trans hTT)
      subst etd2
      obtain ⟨cA, f, -, rfl, -⟩ := d6
      have o1 : ck_so (mnL M) (mSG M) (S.1, r :: S.2.1, S.2.2.1, S.2.2.2) n ws sh sc ls (.ref a :: vs) := ⟨o.1, o.2.1, ⟨hv2, o.2.2.1⟩, o.2.2.2⟩
      have o2 := o1.nt (x := (tS, 0, (21, 0, [0, 0]))) ⟨by dsimp only; omega, ht0, hSG, rfl, o.1.1, fun j hj => by
          simp only [List.mem_cons, List.not_mem_nil, or_false, or_self] at hj
          rw [hj]; exact o.1.1, q2, a2, cA, len, f, ht2, hq2, by
          dsimp only [List.map]
          unfold ck_nt
          rw [if_pos (by decide), o.1.2]
          exact ⟨by decide, rfl, rfl, fun j hj => absurd hj (by simp), fun j hj => absurd hj (by simp), fun _ z => absurd z (by decide), fun z => absurd z (by decide)⟩⟩
      refine WG.ld (fun h => lv_aload_n X.1 X.2.1 hdg rfl hv1 h) hv1 X.2.1 hdg (fun _ _ h => h) ?_
      exact (hk _ (by rw [← eL]; exact List.mem_cons_self)).at o2 hw hx hP hD hS rfl
    · cases h
  · cases h
end
end
