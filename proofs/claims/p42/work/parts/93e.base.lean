/-! what never changes: the places made at the start, their addresses and references -/
def bs_K : List (Nat × Nat) := [(1, 0), (3, 0), (5, 0), (11, 0), (11, 2), (11, 3), (11, 4), (11, 5), (11, 6), (11, 7), (11, 8), (11, 9), (11, 10), (11, 11), (11, 12), (11, 13), (12, 0), (12, 1), (13, 0), (13, 4), (13, 5), (13, 6), (13, 7), (13, 8), (13, 9), (13, 10), (14, 0), (14, 2), (14, 3), (14, 4), (14, 5), (14, 6), (14, 7), (14, 8), (14, 9), (15, 2), (15, 3), (15, 4), (15, 5), (15, 6), (15, 7), (15, 8), (15, 9), (15, 10), (15, 11), (15, 12), (15, 13), (15, 14), (16, 0), (16, 2), (17, 2), (17, 3), (17, 4), (17, 6), (17, 9), (17, 10), (17, 11), (17, 12), (17, 13), (17, 14), (17, 18), (17, 22), (17, 24), (17, 28), (17, 29), (17, 30), (17, 31), (17, 32), (17, 34), (17, 36), (17, 38), (17, 39), (17, 41), (17, 42), (17, 44), (17, 45), (17, 46), (17, 50), (17, 52), (17, 53), (17, 54), (17, 57), (17, 58), (17, 59), (17, 60), (17, 61), (17, 62), (17, 64), (17, 65), (17, 66), (17, 67), (18, 0), (21, 0), (26, 0), (31, 0), (32, 0), (33, 0), (39, 0), (44, 0), (86, 0), (88, 0), (90, 0), (92, 0)]
def bs_v (b : Bool) (t : Nat) : Nat → List mk_V → Bool
  | _, [] => true
  | k, v :: r => (!(v.1 == 2) || bs_K.contains (t, bif b then k else 0)) && bs_v b t (k + 1) r
def bs_c : List mk_C → List Nat → Bool
  | c :: cs, t :: ts => bs_v (c.1 == 0) t 0 c.2.2.2 && bs_c cs ts
  | [], [] => true
  | _, _ => false
theorem bs_vok {b : Bool} {t : Nat} : ∀ {l : List mk_V} {k0 : Nat}, bs_v b t k0 l = true → ∀ (k r : Nat), l[k]? = some (2, 0, r) → (t, bif b then k0 + k else 0) ∈ bs_K
  | [], _, _, k, r, h => by simp at h
  | v :: l, k0, hc, k, r, h => by
    unfold bs_v at hc
    rw [Bool.and_eq_true] at hc
    cases k with
    | zero =>
      have e : v = (2, 0, r) := Option.some.inj h
      have h1 := hc.1
      rw [e] at h1
      have h1 : (false || bs_K.contains (t, bif b then k0 else 0)) = true := h1
      rw [Bool.false_or] at h1
      exact List.contains_iff_mem.mp h1
    | succ k =>
      have h1 := bs_vok hc.2 k r h
      have e : k0 + 1 + k = k0 + (k + 1) := by omega
      rw [e] at h1
      exact h1
theorem bs_cok : ∀ {cs : List mk_C} {ts : List Nat}, bs_c cs ts = true → ∀ (q : Nat) (c : mk_C), cs[q]? = some c → ∃ t, ts[q]? = some t ∧ ∀ (k r : Nat), c.2.2.2[k]? = some (2, 0, r) → (t, bif c.1 == 0 then k else 0) ∈ bs_K
  | [], _, _, q, c, h => by simp at h
  | _ :: _, [], hc, q, c, h => by cases hc
  | d :: cs, t :: ts, hc, q, c, h => by
    unfold bs_c at hc
    rw [Bool.and_eq_true] at hc
    cases q with
    | zero =>
      have e : d = c := Option.some.inj h
      subst e
      refine ⟨t, rfl, fun k r hk => ?_⟩
      have h1 := bs_vok hc.1 k r hk
      rw [Nat.zero_add] at h1
      exact h1
    | succ q => exact bs_cok hc.2 q c h
theorem bs_ok : bs_c lp_L2 lp_sh = true := by decide +kernel
def aR : ClassId × vp_A → Nat → Option Nat
  | (_, _, .inr (.inr (.inr (.inr f)))), i => f i
  | _, _ => none
def cR (B : Nat → Nat) (c : mk_C) : va_E → Prop
  | .inr o => c.1 = 0 ∧ ∀ k r : Nat, c.2.2.2[k]? = some (2, 0, r) → o.2[k]? = some (.ref (B r))
  | .inl x => c.1 ≠ 0 ∧ ∀ k r : Nat, c.2.2.2[k]? = some (2, 0, r) → aR x k = some (B r)
def Bs (B : Nat → Nat) (ws : va_W) (sh : List Nat) : Prop := (∀ q t : Nat, lp_sh[q]? = some t → sh[q]? = some t) ∧ ∀ (q : Nat) (c : mk_C), lp_L2[q]? = some c → ∃ e, ws[q]? = some (B q, e) ∧ cR B c e
theorem two_at {α β : Type} {P : α → β → Prop} : ∀ {l : List α} {r : List β}, ck_two P l r → ∀ (k : Nat) (a : α), l[k]? = some a → ∃ b, r[k]? = some b ∧ P a b
  | [], _, _, k, a, h => by simp at h
  | _ :: _, [], hh, k, a, h => hh.elim
  | x :: l, y :: r, hh, 0, a, h => by
    have e : x = a := Option.some.inj h
    subst e
    exact ⟨y, rfl, hh.1⟩
  | x :: l, y :: r, hh, k + 1, a, h => two_at (l := l) (r := r) hh.2 k a h
def bs_B (ws : va_W) : Nat → Nat := fun r => match ws[r]? with
  | some x => x.1
  | none => 0
theorem bs_Be {ws : va_W} {q a : Nat} {e : va_E} (h : ws[q]? = some (a, e)) : bs_B ws q = a := by
  unfold bs_B
  rw [h]
theorem mk_at_of {c : mk_C} {k : Nat} {v : mk_V} (h : c.2.2.2[k]? = some v) : mk_at c k = v := by
  unfold mk_at
  rw [List.getD_eq_getElem?_getD, h]
  rfl
def bs_m (c : mk_C) : Bool := ((!(c.1 == 2) && !(c.1 == 4)) || c.2.2.2.all (fun v => !(v.1 == 2))) && (c.2.2.2.length <= c.2.2.1)
theorem bs_mok : lp_L2.all bs_m = true := by decide +kernel
theorem bs_n2 (q : Nat) (c : mk_C) (hc : lp_L2[q]? = some c) (hk : c.1 = 2 ∨ c.1 = 4) (k r : Nat) : ¬ c.2.2.2[k]? = some (2, 0, r) := by
  intro h
  have h1 := List.all_eq_true.mp bs_mok c (List.mem_of_getElem? hc)
  unfold bs_m at h1
  rw [Bool.and_eq_true] at h1
  have h2 := h1.1
  have h3 : c.2.2.2.all (fun v => !(v.1 == 2)) = true := by
    rcases hk with e | e <;> rw [e] at h2 <;> exact h2
  have h4 := List.all_eq_true.mp h3 _ (List.mem_of_getElem? h)
  cases h4
theorem bs_n5 (q : Nat) (c : mk_C) (hc : lp_L2[q]? = some c) (k r : Nat) (h : c.2.2.2[k]? = some (2, 0, r)) : k < c.2.2.1 := by
  have h1 := List.all_eq_true.mp bs_mok c (List.mem_of_getElem? hc)
  unfold bs_m at h1
  rw [Bool.and_eq_true] at h1
  have h2 := of_decide_eq_true h1.2
  have h3 := (List.getElem?_eq_some_iff.mp h).1
  omega
theorem Bs.mk {tys : List (ClassId × FieldType)} {ws : va_W} (hwo : mk_wo tys ws lp_L2) : Bs (bs_B ws) ws lp_sh := by
  refine ⟨fun _ _ h => h, fun q c hc => ?_⟩
  obtain ⟨a, e, hq, hco⟩ := hwo.get hc
  refine ⟨e, by rw [bs_Be hq]; exact hq, ?_⟩
  have key : ∀ (r : Nat) (v : Value), mk_vo ws (2, 0, r) v → v = .ref (bs_B ws r) := fun r v hv => by
    obtain ⟨a', e', h1, h2⟩ := (show ∃ (a : Nat) (e : va_E), ws[r]? = some (a, e) ∧ v = .ref a from hv)
    rw [h2, bs_Be h1]
  have kf : ∀ (r : Nat) (o : Option Nat), mk_vo ws (2, 0, r) (va_rf o) → o = some (bs_B ws r) := fun r o hv => by
    have h1 := key r _ hv
    cases o with
    | none => cases h1
    | some a' => injection h1 with h1; rw [h1]
  obtain ⟨k0, c1, c2, vals⟩ := c
  unfold mk_co at hco
  dsimp only at hco
  match k0, hco with
  | 0, hco =>
    obtain ⟨vs, rfl, -, -, h2⟩ := hco
    refine ⟨rfl, fun k r hk => ?_⟩
    obtain ⟨v, v1, v2⟩ := two_at h2 k _ hk
    show vs[k]? = _
    rw [v1, key r v v2]
  | 1, hco =>
    obtain ⟨cA, f, -, rfl, h2⟩ := hco
    refine ⟨(fun z => by cases z), fun k r hk => ?_⟩
    have h3 := h2 k
    rw [mk_at_of hk] at h3
    have h4 := key r _ h3
    cases h4
  | 2, hco =>
    obtain ⟨cA, f, -, rfl⟩ := hco
    refine ⟨(fun z => by cases z), fun k r hk => ?_⟩
    exact absurd hk (bs_n2 q _ hc (Or.inl rfl) k r)
  | 3, hco =>
    obtain ⟨cA, C, f, -, rfl, h2⟩ := hco
    refine ⟨(fun z => by cases z), fun k r hk => ?_⟩
    have h3 := h2 k
    rw [mk_at_of hk] at h3
    exact kf r _ h3
  | 4, hco =>
    obtain ⟨cA, f, -, rfl, -⟩ := hco
    refine ⟨(fun z => by cases z), fun k r hk => ?_⟩
    exact absurd hk (bs_n2 q _ hc (Or.inr rfl) k r)
  | k0 + 5, hco =>
    obtain ⟨cA, f, -, rfl, h2⟩ := hco
    refine ⟨(fun z => by cases z), fun k r hk => ?_⟩
    have h3 := h2 k (bs_n5 q _ hc k r hk)
    rw [mk_at_of hk] at h3
    exact kf r _ h3
theorem Bs.ex {B : Nat → Nat} {Wr : List (Nat × Nat)} {ws ws' : va_W} {sh sh' : List Nat} (h : Bs B ws sh) (hx : ck_ex Wr ws sh ws' sh') (hk : bs_K.all (fun x => !(Wr.contains x)) = true) : Bs B ws' sh' := by
  refine ⟨fun q t ht => hx.1 q t (h.1 q t ht), fun q c hc => ?_⟩
  obtain ⟨t, ht, hK⟩ := bs_cok bs_ok q c hc
  obtain ⟨e, h1, h2⟩ := h.2 q c hc
  obtain ⟨e', x1, x2⟩ := hx.2 q _ e t h1 (h.1 q t ht)
  refine ⟨e', x1, ?_⟩
  have nW : ∀ x ∈ bs_K, x ∉ Wr := fun x hx hw => by
    have h3 := List.all_eq_true.mp hk x hx
    rw [List.contains_iff_mem.mpr hw] at h3
    cases h3
  cases e with
  | inr o =>
    cases e' with
    | inl _ => exact x2.elim
    | inr o' =>
      obtain ⟨c0, h3⟩ := h2
      refine ⟨c0, fun k r hv => ?_⟩
      have h4 := hK k r hv
      rw [c0] at h4
      rw [x2.2 k (nW _ h4)]
      exact h3 k r hv
  | inl y =>
    cases e' with
    | inr _ => exact x2.elim
    | inl y' =>
      obtain ⟨c0, h3⟩ := h2
      refine ⟨c0, fun k r hv => ?_⟩
      have h4 := hK k r hv
      rw [beq_eq_false_iff_ne.mpr c0] at h4
      rw [x2 (nW _ h4)]
      exact h3 k r hv
/-- what a place holds, by its address -/
theorem Bs.h {B : Nat → Nat} {ws : va_W} {sh : List Nat} (h : Bs B ws sh) (hd : f_dj ws) {q : Nat} {c : mk_C} (hc : lp_L2[q]? = some c) : ∃ e, ws[q]? = some (B q, e) ∧ hof ws (B q) = some e ∧ cR B c e := by
  obtain ⟨e, h1, h2⟩ := h.2 q c hc
  exact ⟨e, h1, hof_at hd h1, h2⟩
theorem Bs.ne {B : Nat → Nat} {ws : va_W} {sh : List Nat} (h : Bs B ws sh) (hd : f_dj ws) {q r : Nat} {c d : mk_C} (hc : lp_L2[q]? = some c) (hr : lp_L2[r]? = some d) (hn : q ≠ r) : B q ≠ B r := fun e => by
  obtain ⟨e1, h1, -⟩ := h.2 q c hc
  obtain ⟨e2, h2, -⟩ := h.2 r d hr
  exact hn (hd q r _ _ h1 h2 e)
/-- an array of ints -/
theorem Bs.iv {B : Nat → Nat} {tys : List (ClassId × FieldType)} {ws : va_W} {sh : List Nat} (h : Bs B ws sh) (hd : f_dj ws) (hw : ck_wo tys cw_TT cw_SG ws sh) {q t n k0 : Nat} {c : mk_C} {l : List ck_T} (hc : lp_L2[q]? = some c) (ht : lp_sh[q]? = some t) (hTT : cw_TT[t]? = some (1, n, k0, l)) : ∃ (cA : ClassId) (f : Nat → Int32), hof ws (B q) = some (.inl (cA, n, .inl f)) := by
  obtain ⟨e, h1, h2, -⟩ := h.h hd hc
  obtain ⟨td, d1, d2⟩ := hw.2.1 q _ e t h1 (h.1 q t ht)
  have e1 : td = _ := Option.some.inj (d1.symm.trans hTT)
  subst e1
  obtain ⟨cA, f, -, rfl, -⟩ := d2
  exact ⟨cA, f, h2⟩
/-- an object -/
theorem Bs.ov {B : Nat → Nat} {tys : List (ClassId × FieldType)} {ws : va_W} {sh : List Nat} (h : Bs B ws sh) (hd : f_dj ws) (hw : ck_wo tys cw_TT cw_SG ws sh) {q t ci k0 : Nat} {c : mk_C} {l : List ck_T} (hc : lp_L2[q]? = some c) (ht : lp_sh[q]? = some t) (hTT : cw_TT[t]? = some (0, ci, k0, l)) : ∃ vs : List Value, hof ws (B q) = some (.inr (ci, vs)) ∧ vs.length = l.length ∧ ∀ k r : Nat, c.2.2.2[k]? = some (2, 0, r) → vs.getD k .null = .ref (B r) := by
  obtain ⟨e, h1, h2, h3⟩ := h.h hd hc
  obtain ⟨td, d1, d2⟩ := hw.2.1 q _ e t h1 (h.1 q t ht)
  have e1 : td = _ := Option.some.inj (d1.symm.trans hTT)
  subst e1
  obtain ⟨vs, rfl, h4, -⟩ := d2
  refine ⟨vs, h2, h4, fun k r hk => ?_⟩
  rw [List.getD_eq_getElem?_getD, h3.2 k r hk]
  rfl
/-- an array of rows -/
theorem Bs.rv {B : Nat → Nat} {tys : List (ClassId × FieldType)} {ws : va_W} {sh : List Nat} (h : Bs B ws sh) (hd : f_dj ws) (hw : ck_wo tys cw_TT cw_SG ws sh) {q t n k0 : Nat} {c : mk_C} {l : List ck_T} (hc : lp_L2[q]? = some c) (ht : lp_sh[q]? = some t) (hTT : cw_TT[t]? = some (5, n, k0, l)) : ∃ (cA : ClassId) (f : Nat → Option Nat), hof ws (B q) = some (.inl (cA, n, .inr (.inr (.inr (.inr f))))) ∧ ∀ k r : Nat, c.2.2.2[k]? = some (2, 0, r) → f k = some (B r) := by
  obtain ⟨e, h1, h2, h3⟩ := h.h hd hc
  obtain ⟨td, d1, d2⟩ := hw.2.1 q _ e t h1 (h.1 q t ht)
  have e1 : td = _ := Option.some.inj (d1.symm.trans hTT)
  subst e1
  obtain ⟨cA, f, -, rfl, -⟩ := d2
  exact ⟨cA, f, h2, h3.2⟩
/-- what isn't written stays -/
theorem Bs.same {B : Nat → Nat} {Wr : List (Nat × Nat)} {ws ws' : va_W} {sh sh' : List Nat} (h : Bs B ws sh) (hd : f_dj ws) (hd' : f_dj ws') (hx : ck_ex Wr ws sh ws' sh') {q t : Nat} {c : mk_C} (hc : lp_L2[q]? = some c) (ht : lp_sh[q]? = some t) (h0 : c.1 ≠ 0) (hn : (t, 0) ∉ Wr) : hof ws' (B q) = hof ws (B q) := by
  obtain ⟨e, h1, h2, h3⟩ := h.h hd hc
  obtain ⟨e', x1, x2⟩ := hx.2 q _ e t h1 (h.1 q t ht)
  rw [h2, hof_at hd' x1]
  cases e with
  | inr o => exact absurd h3.1 h0
  | inl y =>
    cases e' with
    | inr _ => exact x2.elim
    | inl y' => rw [x2 hn]
theorem bl_0 : lp_L2[0]? = some (0, 11, 15, [(2, 0, 1), (1, 0, 0), (2, 0, 122), (2, 0, 124), (2, 0, 126), (2, 0, 193), (2, 0, 207), (2, 0, 282), (2, 0, 324), (2, 0, 334), (2, 0, 335), (2, 0, 340), (2, 0, 341), (2, 0, 342), (1, 0, 0)]) := lp_at_ok (by decide +kernel)
theorem bt_0 : lp_sh[0]? = some 11 := by decide +kernel
theorem bl_335 : lp_L2[335]? = some (5, 7, 4, [(2, 0, 336), (2, 0, 337), (2, 0, 338), (2, 0, 339)]) := lp_at_ok (by decide +kernel)
theorem bt_335 : lp_sh[335]? = some 21 := by decide +kernel
theorem bl_336 : lp_L2[336]? = some (1, 0, 60, []) := lp_at_ok (by decide +kernel)
theorem bt_336 : lp_sh[336]? = some 20 := by decide +kernel
theorem bl_337 : lp_L2[337]? = some (1, 0, 60, []) := lp_at_ok (by decide +kernel)
theorem bt_337 : lp_sh[337]? = some 20 := by decide +kernel
theorem bl_338 : lp_L2[338]? = some (1, 0, 60, []) := lp_at_ok (by decide +kernel)
theorem bt_338 : lp_sh[338]? = some 20 := by decide +kernel
theorem bl_339 : lp_L2[339]? = some (1, 0, 60, []) := lp_at_ok (by decide +kernel)
theorem bt_339 : lp_sh[339]? = some 20 := by decide +kernel
theorem bl_340 : lp_L2[340]? = some (1, 0, 4, [(1, (-1), 0), (1, (-1), 0), (1, (-1), 0), (1, (-1), 0)]) := lp_at_ok (by decide +kernel)
theorem bt_340 : lp_sh[340]? = some 22 := by decide +kernel
theorem bl_341 : lp_L2[341]? = some (1, 0, 4, []) := lp_at_ok (by decide +kernel)
theorem bt_341 : lp_sh[341]? = some 23 := by decide +kernel
theorem bl_343 : lp_L2[343]? = some (0, 12, 68, [(1, 0, 0), (1, 0, 0), (2, 0, 344), (2, 0, 345), (2, 0, 346), (1, 0, 0), (2, 0, 347), (1, 0, 0), (1, 0, 0), (2, 0, 348), (2, 0, 349), (2, 0, 350), (2, 0, 351), (2, 0, 352), (2, 0, 353), (1, 0, 0), (1, 99, 0), (1, 0, 0), (2, 0, 354), (1, 0, 0), (1, 0, 0), (1, 0, 0), (2, 0, 355), (1, 0, 0), (2, 0, 356), (1, 0, 0), (1, 0, 0), (1, 0, 0), (2, 0, 357), (2, 0, 358), (2, 0, 359), (2, 0, 360), (2, 0, 361), (1, 0, 0), (2, 0, 362), (1, 0, 0), (2, 0, 363), (1, 0, 0), (2, 0, 364), (2, 0, 365), (1, 0, 0), (2, 0, 366), (2, 0, 367), (1, 0, 0), (2, 0, 368), (2, 0, 369), (2, 0, 370), (1, 0, 0), (1, 0, 0), (1, 0, 0), (2, 0, 371), (1, 0, 0), (2, 0, 372), (2, 0, 373), (2, 0, 374), (1, 0, 0), (1, 0, 0), (2, 0, 375), (2, 0, 376), (2, 0, 377), (2, 0, 378), (2, 0, 379), (2, 0, 380), (1, 0, 0), (2, 0, 381), (2, 0, 382), (2, 0, 383), (2, 0, 384)]) := lp_at_ok (by decide +kernel)
theorem bt_343 : lp_sh[343]? = some 17 := by decide +kernel
theorem bl_381 : lp_L2[381]? = some (1, 0, 4, [(1, (-1), 0), (1, (-1), 0), (1, (-1), 0), (1, (-1), 0)]) := lp_at_ok (by decide +kernel)
theorem bt_381 : lp_sh[381]? = some 82 := by decide +kernel
theorem bl_382 : lp_L2[382]? = some (1, 0, 4, []) := lp_at_ok (by decide +kernel)
theorem bt_382 : lp_sh[382]? = some 83 := by decide +kernel
theorem bl_383 : lp_L2[383]? = some (1, 0, 240, []) := lp_at_ok (by decide +kernel)
theorem bt_383 : lp_sh[383]? = some 84 := by decide +kernel
