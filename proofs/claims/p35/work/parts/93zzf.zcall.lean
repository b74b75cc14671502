/-! calls of which nothing is said but what they leave alone -/
theorem lp_shl : lp_sh.length = 385 := by decide +kernel
theorem lp_L2l : lp_L2.length = 385 := by decide +kernel
theorem lp_sh_at {j : Nat} (h : j < 385) : lp_sh[j]? = some (zn lp_sh j) := by
  have hl : j < lp_sh.length := by
    rw [lp_shl]
    exact h
  have h1 : lp_sh[j]? = some (lp_sh[j]'hl) := List.getElem?_eq_getElem hl
  rw [h1, zn_get h1]
theorem lp_L2_at {j : Nat} (h : j < 385) : ∃ c, lp_L2[j]? = some c := by
  have hl : j < lp_L2.length := by
    rw [lp_L2l]
    exact h
  exact ⟨lp_L2[j]'hl, List.getElem?_eq_getElem hl⟩
/-- a world as its types say, with the lasting references, stands by places -/
theorem zA_ini {tys : List (ClassId × FieldType)} {ws : va_W} {sh : List Nat} {B : Nat → Nat} (hd : f_dj ws) (hw : ck_wo tys cw_TT cw_SG ws sh) (hB : Bs B ws sh) : ∃ A, zA A ws sh := by
  obtain ⟨X, x1, x2, x3⟩ := zab_ex hw
  have h385 : 385 ≤ ws.length := by
    obtain ⟨c, hc⟩ := lp_L2_at (show 384 < 385 by omega)
    obtain ⟨e, h1, -⟩ := hB.2 384 c hc
    have := (List.getElem?_eq_some_iff.mp h1).1
    omega
  refine ⟨X, hd, ⟨hw.1, x1, by omega⟩, fun j p e hj => ?_⟩
  have hlt := (List.getElem?_eq_some_iff.mp hj).1
  have hs : sh[j]? = some (sh[j]'(by rw [hw.1]; exact hlt)) := List.getElem?_eq_getElem _
  have ex := x3 j p e hj
  have cst : ∀ k : Nat, zc j k ≠ 0 → ∃ (c : mk_C) (e2 : va_E), lp_L2[j]? = some c ∧ c.2.2.2[k]? = some (2, 0, zc j k) ∧ ws[zc j k]? = some (B (zc j k), e2) ∧ cR B c e := fun k hz => by
    obtain ⟨a1, c, a2, a3⟩ := zc_at hz
    obtain ⟨c2, hc2⟩ := lp_L2_at a1
    obtain ⟨e2, b1, -⟩ := hB.2 _ c2 hc2
    obtain ⟨e1, b2, b3⟩ := hB.2 j c a2
    rw [hj] at b2
    have e3 : e = e1 := congrArg Prod.snd (Option.some.inj b2)
    subst e3
    exact ⟨c, e2, a2, a3, b1, b3⟩
  refine ⟨?_, ?_⟩
  · rw [hs]
    unfold zty
    by_cases h : j < 385
    · rw [nltT h]
      have h1 := hB.1 j _ (lp_sh_at h)
      rw [hs] at h1
      rw [Option.some.inj h1]
      rfl
    · rw [nltF (show 385 ≤ j by omega)]
      show some _ = some (zK X j).2
      rw [x2 j _ hs]
  · have hk : zkd X j = zaK (some (0, e)) := zkd_of hw hB.1 hj (fun _ => by
      obtain (⟨cA, n, f | f | f | f | f⟩ | o) := e <;> exact ex.1)
    obtain (⟨cA, n, f | f | f | f | f⟩ | o) := e
    · exact ⟨hk, ex.2⟩
    · exact ⟨hk, ex.2⟩
    · exact ⟨hk, trivial⟩
    · exact ⟨hk, trivial⟩
    · refine ⟨hk, fun i hi => ?_⟩
      unfold zrl
      by_cases hz : zc j i = 0
      · rw [zcr_z hz]
        exact ex.2 i hi
      · rw [zcr_s hz]
        obtain ⟨c, e2, a2, a3, b1, b3⟩ := cst i hz
        have h4 : f i = some (B (zc j i)) := b3.2 i _ a3
        rw [h4]
        exact ⟨_, e2, rfl, b1⟩
    · refine ⟨hk, fun k v hv => ?_⟩
      unfold zfl
      by_cases hz : zc j k = 0
      · rw [zcr_z hz]
        exact ex.2 k v hv
      · rw [zcr_s hz]
        obtain ⟨c, e2, a2, a3, b1, b3⟩ := cst k hz
        have h4 : o.2[k]? = some (.ref (B (zc j k))) := b3.2 k _ a3
        rw [h4] at hv
        have hv := Option.some.inj hv
        rw [← hv]
        exact ⟨_, e2, rfl, b1⟩
/-- an object's cell is an object, a row's a row -/
def zkk (c : mk_C) (t : Nat) : Bool := match cw_TT[t]? with
  | some td => Nat.beq td.1 0 == Nat.beq c.1 0
  | none => false
theorem zkk_ok : (List.range 385).all (fun j => match lp_L2[j]? with
  | some c => zkk c (zn lp_sh j)
  | none => false) = true := by decide +kernel
theorem zkk_at {j : Nat} {c : mk_C} (hc : lp_L2[j]? = some c) : ∃ td, cw_TT[zn lp_sh j]? = some td ∧ (td.1 = 0 ↔ c.1 = 0) := by
  have hj := (List.getElem?_eq_some_iff.mp hc).1
  rw [lp_L2l] at hj
  have h := List.all_eq_true.mp zkk_ok j (List.mem_range.mpr hj)
  rw [hc] at h
  have h : zkk c (zn lp_sh j) = true := h
  unfold zkk at h
  split at h
  · rename_i td htd
    refine ⟨td, htd, ?_⟩
    have h1 : Nat.beq td.1 0 = Nat.beq c.1 0 := eq_of_beq h
    constructor
    · intro e
      rw [e] at h1
      exact Nat.eq_of_beq_eq_true h1.symm
    · intro e
      rw [e] at h1
      exact Nat.eq_of_beq_eq_true h1
  · cases h
set_option maxRecDepth 20000 in
theorem zcls_ne {tys : List (ClassId × FieldType)} {ws : va_W} {sh : List Nat} {j p : Nat} {o : Nat × List Value} {c : mk_C} (hw : ck_wo tys cw_TT cw_SG ws sh) (hs : ∀ q t : Nat, lp_sh[q]? = some t → sh[q]? = some t) (h0 : ws[j]? = some (p, .inr o)) (hc : lp_L2[j]? = some c) (hn : c.1 ≠ 0) : False := by
  have hj := (List.getElem?_eq_some_iff.mp hc).1
  rw [lp_L2l] at hj
  obtain ⟨td, d1, d2⟩ := zkk_at hc
  obtain ⟨td', d3, d4⟩ := hw.2.1 j p _ _ h0 (hs j _ (lp_sh_at hj))
  have e := Option.some.inj (d1.symm.trans d3)
  subst e
  have hn1 : td.1 ≠ 0 := fun z => hn (d2.mp z)
  unfold ck_co at d4
  split at d4
  · rename_i hz
    exact hn1 hz
  · obtain ⟨cA, f, -, e1, -⟩ := d4
    cases e1
  · obtain ⟨cA, f, -, e1⟩ := d4
    cases e1
  · obtain ⟨cA, C, f, -, e1, -⟩ := d4
    cases e1
  · obtain ⟨cA, f, -, e1, -⟩ := d4
    cases e1
  · obtain ⟨cA, f, -, e1, -⟩ := d4
    cases e1
  · exact d4
set_option maxRecDepth 20000 in
theorem zcls_eq {tys : List (ClassId × FieldType)} {ws : va_W} {sh : List Nat} {j p : Nat} {x : ClassId × vp_A} {c : mk_C} (hw : ck_wo tys cw_TT cw_SG ws sh) (hs : ∀ q t : Nat, lp_sh[q]? = some t → sh[q]? = some t) (h0 : ws[j]? = some (p, .inl x)) (hc : lp_L2[j]? = some c) (hn : c.1 = 0) : False := by
  have hj := (List.getElem?_eq_some_iff.mp hc).1
  rw [lp_L2l] at hj
  obtain ⟨td, d1, d2⟩ := zkk_at hc
  obtain ⟨td', d3, d4⟩ := hw.2.1 j p _ _ h0 (hs j _ (lp_sh_at hj))
  have e := Option.some.inj (d1.symm.trans d3)
  subst e
  have hn1 : td.1 = 0 := d2.mpr hn
  unfold ck_co at d4
  rw [hn1] at d4
  obtain ⟨vs, e1, -⟩ := d4
  cases e1
theorem zold_t {A : zW} {j : Nat} (h : j < zN A) : zold A j = true := by
  unfold zold
  rw [nltT h, Bool.or_true]
theorem zold_b {A : zW} {j : Nat} (h : j < 385) : zold A j = true := by
  unfold zold
  rw [nltT h, Bool.true_or]
theorem zold_f {A : zW} {j : Nat} (h : zN A ≤ j) (h2 : 385 ≤ j) : zold A j = false := by
  unfold zold
  rw [nltF h, nltF h2]
  rfl
theorem zhv_ok {rt : Nat} {Wr : List (Nat × Nat)} {T : fT} {cc : ByteArray} {As : List Value} {ws : va_W} {sh : List Nat} {rv : Option Value} {ws' : va_W} {sh' : List Nat} {A : zW} (h : fq cw_TT cw_SG rt Wr T cc As ws sh rv ws' sh') (hA : zA A ws sh) (hk : bs_K.all (fun x => !(Wr.contains x)) = true) (hs : ∀ q t : Nat, lp_sh[q]? = some t → sh[q]? = some t) : ∃ X, zN A ≤ zN X ∧ zA (zhv Wr A X) ws' sh' := by
  have hzx := zx_fq h
  obtain ⟨-, -, hd', hex, ⟨tys, hw, hw'⟩, -⟩ := h
  obtain ⟨X, x1, x2, x3⟩ := zab_ex hw'
  obtain ⟨hd, ⟨a1, a2, a3⟩, a4⟩ := hA
  have hs' : ∀ q t : Nat, lp_sh[q]? = some t → sh'[q]? = some t := fun q t ht => hex.1 q t (hs q t ht)
  have hle : ws.length ≤ ws'.length := by
    obtain ⟨x, hx⟩ : ∃ x, ws[ws.length - 1]? = some x := ⟨_, List.getElem?_eq_getElem (show ws.length - 1 < ws.length by omega)⟩
    obtain ⟨p, e⟩ := x
    obtain ⟨e', h1⟩ := hzx _ _ _ hx
    have := (List.getElem?_eq_some_iff.mp h1).1
    omega
  refine ⟨X, by omega, hd', ⟨hw'.1, x1, by show 385 ≤ zN X; omega⟩, fun j p e' hj => ?_⟩
  have ex := x3 j p e' hj
  have hlt' := (List.getElem?_eq_some_iff.mp hj).1
  have hsj : sh'[j]? = some (sh'[j]'(by rw [hw'.1]; exact hlt')) := List.getElem?_eq_getElem _
  by_cases hl : j < ws.length
  · obtain ⟨⟨p0, e⟩, h0⟩ : ∃ x, ws[j]? = some x := ⟨_, List.getElem?_eq_getElem hl⟩
    obtain ⟨g1, g2⟩ := a4 j p0 e h0
    obtain ⟨e1, y1, y2⟩ := hex.2 j p0 e _ h0 g1
    rw [hj] at y1
    have y1 := Option.some.inj y1
    have e1p : p = p0 := congrArg Prod.fst y1
    have e1e : e' = e1 := congrArg Prod.snd y1
    subst e1p
    subst e1e
    have ho : zold A j = true := zold_t (by omega)
    have hK : zK (zhv Wr A X) j = zK A j := by
      show (bif zold A j then zK A j else zK X j) = _
      rw [ho]
      rfl
    have hty : zty (zhv Wr A X) j = zty A j := by
      unfold zty
      rw [hK]
    have hkd : zkd (zhv Wr A X) j = zkd A j := by
      unfold zkd
      rw [hK]
    refine ⟨by rw [hty]; exact hex.1 j _ g1, ?_⟩
    have nz : ∀ k : Nat, zc j k ≠ 0 → ∀ c, lp_L2[j]? = some c → (zty A j, bif c.1 == 0 then k else 0) ∉ Wr := fun k hz c hc => by
      have hj385 := (zc_lt hz).1
      have ht := lp_sh_at hj385
      have e2 := Option.some.inj ((hs j _ ht).symm.trans g1)
      rw [← e2]
      exact zc_nw hk hc ht hz
    have hFs : ∀ k, (zty A j, k) ∉ Wr → zF (zhv Wr A X) j k = zF A j k := fun k hn => by
      show (bif zold A j && !(zwr Wr (zty A j) k) then zF A j k else zF X j k) = _
      have hf : zwr Wr (zty A j) k = false := by
        cases hb : zwr Wr (zty A j) k with
        | false => rfl
        | true => exact absurd (zwr_t.mp hb) hn
      rw [ho, hf]
      rfl
    have hFc : ∀ k, (zty A j, k) ∈ Wr → zF (zhv Wr A X) j k = zF X j k := fun k hn => by
      show (bif zold A j && !(zwr Wr (zty A j) k) then zF A j k else zF X j k) = _
      rw [zwr_t.mpr hn, Bool.not_true, Bool.and_false]
      rfl
    cases e with
    | inr o =>
      cases e' with
      | inl _ => exact y2.elim
      | inr o' =>
        obtain ⟨y3, y4⟩ := y2
        refine ⟨hkd.trans (g2.1.trans y3.symm), fun k v hv => ?_⟩
        unfold zfl
        by_cases hm : (zty A j, k) ∈ Wr
        · by_cases hz : zc j k = 0
          · rw [zcr_z hz, hFc k hm]
            exact ex.2 k v hv
          · exfalso
            obtain ⟨-, c, hc, hck⟩ := zc_at hz
            have h5 := nz k hz c hc
            cases hb : (c.1 == 0) with
            | true =>
              rw [hb] at h5
              exact h5 hm
            | false =>
              exact zcls_ne hw hs h0 hc (beq_eq_false_iff_ne.mp hb)
        · have hv' : o.2[k]? = some v := by
            rw [← y4 k hm]
            exact hv
          rw [hFs k hm]
          exact (g2.2 k v hv').mv hzx
    | inl x =>
      cases e' with
      | inr _ => exact y2.elim
      | inl y =>
        have y2 : (zty A j, 0) ∉ Wr → y = x := y2
        by_cases hm : (zty A j, 0) ∈ Wr
        · have hf : ∀ (α : Type) (u v : α), (bif zold A j && !(zwr Wr (zty A j) 0) then u else v) = v := fun α u v => by
            rw [zwr_t.mpr hm, Bool.not_true, Bool.and_false]
            rfl
          have hlen : zkd A j = y.2.1 := by
            obtain ⟨td, d1, d2⟩ := hw.2.1 j p _ _ h0 g1
            obtain ⟨td', d3, d4⟩ := hw'.2.1 j p _ _ hj (hex.1 j _ g1)
            have e2 : td = td' := Option.some.inj (d1.symm.trans d3)
            subst e2
            have l1 : x.2.1 = td.2.1 := co_len d2
            have l2 : y.2.1 = td.2.1 := co_len d4
            exact g2.1.trans (l1.trans l2.symm)
          refine ⟨hkd.trans hlen, ?_⟩
          obtain ⟨cA, n, f | f | f | f | f⟩ := y
          · intro i
            show (bif zold A j && !(zwr Wr (zty A j) 0) then zI A j i else zI X j i) = f i
            rw [hf]
            exact ex.2 i
          · intro i
            show (bif zold A j && !(zwr Wr (zty A j) 0) then zJ A j i else zJ X j i) = f i
            rw [hf]
            exact ex.2 i
          · exact trivial
          · exact trivial
          · intro i hi
            show zvr ws' (va_rf (f i)) (zcr (zc j i) (bif zold A j && !(zwr Wr (zty A j) 0) then zR A j i else zR X j i))
            rw [hf]
            by_cases hz : zc j i = 0
            · rw [zcr_z hz]
              exact ex.2 i hi
            · exfalso
              obtain ⟨-, c, hc, hck⟩ := zc_at hz
              have h5 := nz i hz c hc
              cases hb : (c.1 == 0) with
              | true => exact zcls_eq hw hs h0 hc (eq_of_beq hb)
              | false =>
                rw [hb] at h5
                exact h5 hm
        · have e2 := y2 hm
          subst e2
          have hf : zwr Wr (zty A j) 0 = false := by
            cases hb : zwr Wr (zty A j) 0 with
            | false => rfl
            | true => exact absurd (zwr_t.mp hb) hm
          have hs1 : ∀ (α : Type) (u v : α), (bif zold A j && !(zwr Wr (zty A j) 0) then u else v) = u := fun α u v => by
            rw [ho, hf]
            rfl
          refine ⟨hkd.trans g2.1, ?_⟩
          obtain ⟨cA, n, f | f | f | f | f⟩ := y
          · intro i
            show (bif zold A j && !(zwr Wr (zty A j) 0) then zI A j i else zI X j i) = f i
            rw [hs1]
            exact g2.2 i
          · intro i
            show (bif zold A j && !(zwr Wr (zty A j) 0) then zJ A j i else zJ X j i) = f i
            rw [hs1]
            exact g2.2 i
          · exact trivial
          · exact trivial
          · intro i hi
            show zvr ws' (va_rf (f i)) (zcr (zc j i) (bif zold A j && !(zwr Wr (zty A j) 0) then zR A j i else zR X j i))
            rw [hs1]
            exact (g2.2 i hi).mv hzx
  · have ho : zold A j = false := zold_f (by omega) (by omega)
    have hb : ∀ (α : Type) (b : Bool) (u v : α), (bif zold A j && b then u else v) = v := fun α b u v => by
      rw [ho]
      rfl
    have hlt : Nat.blt j 385 = false := nltF (by omega)
    have hK : zK (zhv Wr A X) j = zK X j := by
      show (bif zold A j then zK A j else zK X j) = _
      rw [ho]
      rfl
    have hz : ∀ k, zc j k = 0 := fun k => by
      by_cases hz : zc j k = 0
      · exact hz
      · have := (zc_lt hz).1
        omega
    refine ⟨?_, ?_⟩
    · rw [hsj]
      unfold zty
      rw [hlt, hK]
      show some _ = some (zK X j).2
      rw [x2 j _ hsj]
    · have hkd : zkd (zhv Wr A X) j = (zK X j).1 := by
        unfold zkd
        rw [hlt, hK]
        rfl
      obtain (⟨cA, n, f | f | f | f | f⟩ | o) := e'
      · refine ⟨hkd.trans ex.1, fun i => ?_⟩
        show (bif zold A j && !(zwr Wr (zty A j) 0) then zI A j i else zI X j i) = f i
        rw [hb]
        exact ex.2 i
      · refine ⟨hkd.trans ex.1, fun i => ?_⟩
        show (bif zold A j && !(zwr Wr (zty A j) 0) then zJ A j i else zJ X j i) = f i
        rw [hb]
        exact ex.2 i
      · exact ⟨hkd.trans ex.1, trivial⟩
      · exact ⟨hkd.trans ex.1, trivial⟩
      · refine ⟨hkd.trans ex.1, fun i hi => ?_⟩
        show zvr ws' (va_rf (f i)) (zcr (zc j i) (bif zold A j && !(zwr Wr (zty A j) 0) then zR A j i else zR X j i))
        rw [hb, zcr_z (hz i)]
        exact ex.2 i hi
      · refine ⟨hkd.trans ex.1, fun k v hv => ?_⟩
        show zvr ws' v (zcr (zc j k) (bif zold A j && !(zwr Wr (zty A j) k) then zF A j k else zF X j k))
        rw [hb, zcr_z (hz k)]
        exact ex.2 k v hv
/-- an answer's kind -/
def zrk (rt : Nat) (u : Option Value) : Prop := match rt with
  | 0 => u = none
  | 1 => ∃ x : Int32, u = some (.int x)
  | 2 => ∃ x : Int32, u = some (.int x) ∧ 0 ≤ x.toInt ∧ x.toInt ≤ 1
  | 3 => ∃ x : Int64, u = some (.long x)
  | _ => False
def zhq (rt : Nat) (Wr : List (Nat × Nat)) : zQ := fun _ A K => ∀ (X : zW) (u : Option Value), zrk rt u → zN A ≤ zN X → K u (zhv Wr A X)
theorem zrk_ok {rt : Nat} {rv : Option Value} {ws : va_W} (h : f_rk rt rv) (hr : rt < 4) : zvs ws rv.toList rv.toList ∧ zrk rt rv := by
  match rt, hr, h with
  | 0, _, h =>
    have h : rv = none := h
    subst h
    exact ⟨trivial, rfl⟩
  | 1, _, h =>
    obtain ⟨x, rfl⟩ := h
    exact ⟨⟨rfl, trivial⟩, x, rfl⟩
  | 2, _, h =>
    obtain ⟨x, rfl, h1, h2⟩ := h
    exact ⟨⟨rfl, trivial⟩, x, rfl, h1, h2⟩
  | 3, _, h =>
    obtain ⟨x, rfl⟩ := h
    exact ⟨⟨rfl, trivial⟩, x, rfl⟩
  | n + 4, hr, _ => omega
/-- the types of the places that are there for good -/
theorem zA.sh {A : zW} {ws : va_W} {sh : List Nat} (h : zA A ws sh) : ∀ q t : Nat, lp_sh[q]? = some t → sh[q]? = some t := fun q t ht => by
  obtain ⟨hd, ⟨a1, a2, a3⟩, a4⟩ := h
  have hq := (List.getElem?_eq_some_iff.mp ht).1
  rw [lp_shl] at hq
  obtain ⟨⟨p, e⟩, h0⟩ : ∃ x, ws[q]? = some x := ⟨_, List.getElem?_eq_getElem (show q < ws.length by omega)⟩
  obtain ⟨g1, -⟩ := a4 q p e h0
  rw [g1]
  unfold zty
  rw [nltT hq]
  show some (zn lp_sh q) = some t
  rw [zn_get ht]
theorem zdo_hv {rt : Nat} {Wr : List (Nat × Nat)} {T : fT} {cc : ByteArray} (hr : rt < 4) (hk : bs_K.all (fun x => !(Wr.contains x)) = true) : zdo (fq cw_TT cw_SG rt Wr T cc) (zhq rt Wr) := by
  intro As ws sh rv ws' sh' hx
  refine ⟨zx_fq hx, fun A Us K hA hv hK => ?_⟩
  obtain ⟨X, hN, hX⟩ := zhv_ok hx hA hk hA.sh
  obtain ⟨r1, r2⟩ := zrk_ok (ws := ws') hx.2.2.2.2.2 hr
  exact ⟨_, rv, hX, r1, hK X rv r2 hN⟩
