/-! the law from its entry to its end -/
abbrev lq_t : Term := .static "ReasonDesk$Bits" "WITH" "[J"
theorem lq_with {s : State} {b : Nat} (hgv : (Jvm.Cond.and given_1 narrow_1).before #[Value.ref b] s = true) (hts : ∀ w ∈ lw_tbl, w.before #[Value.ref b] s = true) : ∃ w : Nat, va_Z "ReasonDesk$Bits" "WITH" "[J" (.ref w) (fun q : Nat => s.heap.size ≤ q) s s.heap ∧ va_T .long w 6 (fun j => .long (fw_v j)) (fun q : Nat => s.heap.size ≤ q) s s.heap := by
  have hs := flat_of_before _ hgv
  have hA : ∀ a : Nat, a < s.heap.size → ¬ (fun q : Nat => s.heap.size ≤ q) a := fun a h => Nat.not_le.mpr h
  obtain ⟨w, h1, h2⟩ := va_Tof (A := fun q : Nat => s.heap.size ≤ q) (tm := lq_t) (ty := .long) (N := 6) (f := fun j => .long (fw_v j)) (by decide) (hs _ (by decide +kernel)) (va_eqt (z := 6) (hs _ (by decide +kernel))) (fun j hj => by
    rcases (show j = 0 ∨ j = 1 ∨ j = 2 ∨ j = 3 ∨ j = 4 ∨ j = 5 by omega) with rfl | rfl | rfl | rfl | rfl | rfl
    · exact va_eqtl (z := fw_v 0) (hs _ (by decide +kernel))
    · exact va_eqtl (z := fw_v 1) (hs _ (by decide +kernel))
    · exact va_eqtl (z := fw_v 2) (hs _ (by decide +kernel))
    · exact va_eqtl (z := fw_v 3) (hs _ (by decide +kernel))
    · exact va_eqtl (z := fw_v 4) (hs _ (by decide +kernel))
    · exact va_eqtl (z := fw_v 5) (hs _ (by decide +kernel))) hA
  exact ⟨w, va_Zof (hts _ (List.mem_of_getElem? (i := 494) (by decide +kernel))) (hts _ (cw_tbs tw_97)) h1 hA, h2⟩
theorem lq_nq {s : State} {b : Nat} (hgv : (Jvm.Cond.and given_1 narrow_1).before #[Value.ref b] s = true) (hts : ∀ w ∈ lw_tbl, w.before #[Value.ref b] s = true) : ck_nq cw_V s := by
  have hs := flat_of_before _ hgv
  refine ⟨?_, ?_⟩
  · have h : cw_nc.all (fun x => decide ((Cond.not (.castable x.1 x.2)) ∈ flatC (Jvm.Cond.and given_1 narrow_1))) = true := by decide +kernel
    exact fun x hx => va_Nc.of (hs _ (of_decide_eq_true (List.all_eq_true.mp h x hx)))
  · have h : cw_nw.all (fun w => ck_nk w && w.onTables) = true := by decide +kernel
    intro w hw
    have h2 := List.all_eq_true.mp h w hw
    rw [Bool.and_eq_true] at h2
    exact ⟨h2.1, va_Nw.of h2.2 (hts _ (cw_nws w hw))⟩
theorem lq_ao {s : State} {b : Nat} (hts : ∀ w ∈ lw_tbl, w.before #[Value.ref b] s = true) : mk_ao s := by
  refine ⟨va_AO.of (hts _ (List.mem_of_getElem? (i := 128) (by decide +kernel))), va_AO.of (hts _ (List.mem_of_getElem? (i := 168) (by decide +kernel))), va_AO.of (hts _ (List.mem_of_getElem? (i := 225) (by decide +kernel))), va_AO.of (hts _ (List.mem_of_getElem? (i := 362) (by decide +kernel))), ?_⟩
  obtain ⟨comp, cA, kA, h1, -, h2, h3, h4⟩ := arrayOverA_spec (t := .int) (hts (.arrayOver (.array .int)) (List.mem_of_getElem? (i := 343) (by decide +kernel)))
  exact ⟨comp, cA, kA, h1, h2, h3, h4⟩
theorem lq_kP {s : State} {args : Array Value} {ty : FieldType} (h : (Cond.arrayClass ty).before args s = true) (hr : ∀ c, va_RA s c ty ↔ s.vm.findClass ("[" ++ ty.toString) = some c) : ∃ cA, ArrOfT s cA ty ∧ va_RA s cA ty := by
  obtain ⟨cA, kA, comp, h1, h2, h3⟩ := Cond.arrayClass_spec h
  exact ⟨cA, fun n z => ⟨(fun k h => by cases h), kA, h2, comp, h3⟩, (hr cA).mpr h1⟩
theorem lq_kO {s : State} {C : String} (h : va_AO C s) : ∃ cA, ArrOfT s cA (.object C) ∧ va_RA s cA (.object C) := by
  obtain ⟨comp, cA, kA, h1, -, h2, h3, h4⟩ := Cond.arrayOver_spec (va_AO.use (A := #[]) h)
  exact ⟨cA, fun n z => ⟨(fun k h => by cases h), kA, h2, comp, h3⟩, kA, comp, h2, h3, h1, h4⟩
theorem lq_K {s : State} {b : Nat} (hts : ∀ w ∈ lw_tbl, w.before #[Value.ref b] s = true) : ∃ (D : va_G) (tys : List (ClassId × FieldType)), tys.map Prod.snd = cw_tl ∧ va_K D cw_cls tys s := by
  have ht : ∀ w ∈ cw_tb, w.before #[Value.ref b] s = true := fun w hw => hts w (cw_tbs hw)
  have hk : ∀ q ∈ cw_cls, ∃ (c : ClassId) (iS : Nat → Nat), u_Kn s q.1 q.2.1 q.2.2 c iS := by
    refine List.forall_mem_cons.mpr ⟨u_known ht cw_in_X0 (ht _ tw_896), List.forall_mem_cons.mpr ⟨u_known ht cw_in_X1 (ht _ tw_129), List.forall_mem_cons.mpr ⟨u_known ht cw_in_X2 (ht _ tw_162), List.forall_mem_cons.mpr ⟨u_known ht cw_in_X3 (ht _ tw_267), List.forall_mem_cons.mpr ⟨u_known ht cw_in_X4 (ht _ tw_586), List.forall_mem_cons.mpr ⟨u_known ht cw_in_X5 (ht _ tw_908), List.forall_mem_cons.mpr ⟨u_known ht cw_in_X6 (ht _ tw_337), List.forall_mem_cons.mpr ⟨u_known ht cw_in_X7 (ht _ tw_141), List.forall_mem_cons.mpr ⟨u_known ht cw_in_X8 (ht _ tw_869), List.forall_mem_cons.mpr ⟨u_known ht cw_in_X9 (ht _ tw_217), List.forall_mem_cons.mpr ⟨u_known ht cw_in_X4 (ht _ tw_586), List.forall_mem_cons.mpr ⟨u_known ht cw_in_X11 (ht _ tw_114), List.forall_mem_cons.mpr ⟨u_known ht cw_in_X12 (ht _ tw_1265), fun _ h => absurd h List.not_mem_nil⟩⟩⟩⟩⟩⟩⟩⟩⟩⟩⟩⟩⟩
  have hd : ∀ k : Nat, ∃ ci : ClassId × (Nat → Nat), ∀ q, cw_cls[k]? = some q → u_Kn s q.1 q.2.1 q.2.2 ci.1 ci.2 := by
    intro k
    cases hq : cw_cls[k]? with
    | none =>
      obtain ⟨c, iS, -⟩ := hk _ List.mem_cons_self
      exact ⟨(c, iS), fun q h => by cases h⟩
    | some q =>
      obtain ⟨c, iS, h⟩ := hk q (List.mem_of_getElem? hq)
      exact ⟨(c, iS), fun q' h' => by cases h'; exact h⟩
  obtain ⟨a1, a2, a3, a4, comp, cA, kA, h1, h2, h3, h4⟩ := lq_ao hts
  obtain ⟨c0, p0, r0⟩ := lq_kP (ty := .int) (ht _ cw_bs.1.1) (fun _ => Iff.rfl)
  obtain ⟨c1, p1, r1⟩ := lq_kP (ty := .long) (ht _ cw_bs.1.2.1) (fun _ => Iff.rfl)
  obtain ⟨c2, p2, r2⟩ := lq_kP (ty := .boolean) (ht _ cw_bs.1.2.2) (fun _ => Iff.rfl)
  obtain ⟨c3, p3, r3⟩ := lq_kO a1
  obtain ⟨c4, p4, r4⟩ := lq_kO a2
  obtain ⟨c5, p5, r5⟩ := lq_kO a3
  obtain ⟨c6, p6, r6⟩ := lq_kO a4
  have p7 : ArrOfT s cA (.array .int) := fun n z => ⟨(fun k h => by cases h), kA, h2, comp, h3⟩
  have r7 : va_RA s cA (.array .int) := h4
  refine ⟨(fun k => (Classical.choose (hd k)).1, fun k => (Classical.choose (hd k)).2), [(c0, .int), (c1, .long), (c2, .boolean), (c3, .object "ReasonDesk$Bits"), (c4, .object "ReasonDesk$Entry"), (c5, .object "ReasonDesk$Rule"), (c6, .object "ReasonDesk$Thing"), (cA, .array .int)], rfl, fun k q hq => Classical.choose_spec (hd k) q hq, fun k q hq => ?_⟩
  have hm := List.mem_of_getElem? hq
  simp only [List.mem_cons, List.not_mem_nil, or_false] at hm
  rcases hm with rfl | rfl | rfl | rfl | rfl | rfl | rfl | rfl
  · exact ⟨p0, r0⟩
  · exact ⟨p1, r1⟩
  · exact ⟨p2, r2⟩
  · exact ⟨p3, r3⟩
  · exact ⟨p4, r4⟩
  · exact ⟨p5, r5⟩
  · exact ⟨p6, r6⟩
  · exact ⟨p7, r7⟩
/-- the names of a round's end are those of the next round's beginning -/
def lw_rn (n : ck_N) : ck_N := fun k => if k < 4 then n k else n (k + 2)
theorem lw_ren {SG : List Nat} {n : ck_N} {ws : va_W} {sh : List Nat} {sc : ck_sc} {ls : Array Slot} {vs : List Value} (o : ck_so 4 SG I_18.1 n ws sh sc ls vs) : vs = [] ∧ ck_so 4 SG S_18 (lw_rn n) ws sh sc ls [] ∧ (n 6).1 = (n 4).1 + 6 := by
  obtain ⟨⟨-, h0⟩, ⟨lv, l1, l2⟩, o3, o4, o5, o6⟩ := o
  have hvs : vs = [] := by
    cases vs with
    | nil => rfl
    | cons _ _ => exact (show False from o3).elim
  have r1 := (o6 (6, 4, 6) (by decide)).2.2
  have r2 := (o6 (4, 6, -6) (by decide)).2.2
  dsimp only at r1 r2
  refine ⟨hvs, ⟨⟨by decide, h0⟩, ⟨lv, l1, ?_⟩, trivial, fun x hx => ?_, fun k x hx hle => ?_, fun r hr => absurd hr List.not_mem_nil⟩, by omega⟩
  · match lv, l2 with
    | [a, b, c, d], ⟨a1, b1, c1, d1, _⟩ =>
      exact ⟨⟨a1.1, ⟨by decide, a1.2.2⟩⟩, ⟨b1.1, ⟨by decide, b1.2.2⟩⟩, ⟨c1.1, ⟨by decide, c1.2.2⟩⟩, ⟨d1.1, ⟨by decide, d1.2.2⟩⟩, trivial⟩
  · have hx' : x = (80, 0, (30, 5, [])) ∨ x = (81, 0, (31, 5, [])) := by
      have : x ∈ ([(80, 0, (30, 5, [])), (81, 0, (31, 5, []))] : List ck_M) := hx
      simpa using this
    rcases hx' with rfl | rfl
    · rcases o4 (80, 0, (30, 7, [])) (by decide) with ⟨z, -⟩ | ⟨-, -, q1, a', oo, v, -, -, -, w⟩ | ⟨y0, y1, y2, y3, y4, y5, q, a, cA, len, f, y6, y7, y8⟩
      · exact absurd z (by decide)
      · exact absurd w.2 (by intro w; exact w)
      · exact Or.inr (Or.inr ⟨y0, y1, y2, y3, by decide, by decide, q, a, cA, len, f, y6, y7, y8⟩)
    · rcases o4 (81, 0, (31, 7, [])) (by decide) with ⟨z, -⟩ | ⟨-, -, q1, a', oo, v, -, -, -, w⟩ | ⟨y0, y1, y2, y3, y4, y5, q, a, cA, len, f, y6, y7, y8⟩
      · exact absurd z (by decide)
      · exact absurd w.2 (by intro w; exact w)
      · exact Or.inr (Or.inr ⟨y0, y1, y2, y3, by decide, by decide, q, a, cA, len, f, y6, y7, y8⟩)
  · match k with
    | 0 => exact o5 0 x hx hle
    | 1 => exact o5 1 x hx hle
    | 2 => exact o5 2 x hx hle
    | 3 => exact o5 3 x hx hle
    | 4 => exact o5 6 x hx hle
    | 5 => exact o5 7 x hx hle
    | k + 6 => exact absurd hx (by simp [S_18])
section
variable {p : Program} {l : Launch} {e : Env} {s : State} {m : MethodId} {below : List Frame} {meth : Method} {c : Code} {b L : Nat} {xs : Nat → Int32} {D : va_G} {tys : List (ClassId × FieldType)} {w : Nat}
theorem lw_loop {s0 : fS} (hone : lw_one s0 b L xs) (hL : L ≤ 3072) (C0 : lw_At p s m meth c b L xs) (hK : va_K D cw_cls tys s) (htl : tys.map Prod.snd = cw_tl) (hnq : ck_nq cw_V s) (hw : va_Z "ReasonDesk$Bits" "WITH" "[J" (.ref w) (fun q : Nat => s.heap.size ≤ q) s s.heap ∧ va_T .long w 6 (fun j => .long (fw_v j)) (fun q : Nat => s.heap.size ≤ q) s s.heap) :
    ∀ (r j : Nat), j + r = 513 → ∀ (bb : Nat → Int) (n : ck_N) (ws : va_W) (sh : List Nat) (H : Heap) (locs : List Loc) (ls : Array Slot), ck_so 4 cw_SG S_18 n ws sh (some (b, L, xs), some w, bb) ls [] → (n 4).1 = 6 * (j : Int) → ck_wo tys cw_TT cw_SG ws sh → va_P D cw_cls ws H → va_D (fun q : Nat => s.heap.size ≤ q) ws → va_S (fun q : Nat => s.heap.size ≤ q) s.heap H locs →
      WG (tM M_law Fc_law (some (b, L, xs))) s0 p l e room_1 s m #[Value.ref b] below meth c ws sh H locs (837 + j) (118034 + 7 * j) (lw_Z below #[Value.ref b] s) (18, ls, []) := by
  obtain ⟨hx, hb, hr, hml, hown, hts, hX, hbl, hlocks, hgv⟩ := id C0
  have ht : ∀ w ∈ cw_tb, w.before #[Value.ref b] s = true := fun w hw => hts w (cw_tbs hw)
  intro r
  induction r with
  | zero =>
    intro j hj bb n ws sh H locs ls o hi hwo hP hD hS
    have h4 := o.2.2.2.2.1 4 (0, 3072) rfl (by decide)
    omega
  | succ r ih =>
    intro j hj bb n ws sh H locs ls o hi hwo hP hD hS
    intro lg hlg hgr
    refine w_has (fun hroom => ?_)
    have h4 := o.2.2.2.2.1 4 (0, 3072) rfl (by decide)
    have hj512 : j ≤ 512 := by omega
    obtain ⟨Rj, hRj⟩ : ∃ Rj : Room, Rj = ⟨10, 837 + j + 1, 118034 + 7 * j + 7, 370⟩ := ⟨_, rfl⟩
    have hRc : Rj.cells = 837 + j + 1 := by rw [hRj]
    have hRs : Rj.slots = 118034 + 7 * j + 7 := by rw [hRj]
    have hRf : Rj.frames = 10 ∧ Rj.locals = 370 := by rw [hRj]; exact ⟨rfl, rfl⟩
    have hroomj : s.hasRoom e.platform Rj = true := w_less hroom hRf.1 hRf.2 (by rw [hRc]; show _ ≤ 600000; omega) (by rw [hRs]; show _ ≤ 7302250; omega)
    refine w_room (R2 := Rj) hroomj ?_
    have hoc : ck_oc Rj M_law = 837 + j := by
      show Rj.cells - 1 = _
      rw [hRc, Nat.add_sub_cancel]
    have hos : ck_os Rj M_law = 118034 + 7 * j := by
      show Rj.slots - 7 = _
      rw [hRs, Nat.add_sub_cancel]
    have X : ∀ b' : Nat → Int, ck_cx p l e Rj s m #[Value.ref b] below meth c code "ReasonDeskLaw" D cw_V.1 tys M_law (some (b, L, xs), some w, b') (fun q : Nat => s.heap.size ≤ q) := fun b' => by
      refine ⟨hx, hb, hown, hK, fun q h => h, hml, ⟨?_, ?_⟩, hlocks, fun b0 L0 xs0 h => ?_, fun w0 h => ?_⟩
      · show 1 ≤ Rj.cells
        omega
      · show 7 ≤ Rj.slots
        omega
      · cases h
        exact ⟨hX, hbl, Nat.not_le.mpr hbl, by omega⟩
      · cases h
        exact hw
    obtain ⟨x3, hl3, hv3⟩ := ck_look_ok (i := 3) (v := (0, 4, [])) o.2.1 rfl
    obtain ⟨hlt3, i3, rfl, ei3⟩ := hv3.i rfl
    have d18 : decode code 18 = .ok (.iload_n 3, 1) := by decide +kernel
    refine lv_iload_n hx hb d18 rfl hl3 ?_
    obtain ⟨b', hb'⟩ : ∃ b' : Nat → Int, b' = fun k => (n (k - 1000)).1 := ⟨_, rfl⟩
    have hb6 : ∀ k, k < 6 → b' (1000 + k) = (n k).1 := fun k _ => by
      rw [hb']
      dsimp only
      rw [show 1000 + k - 1000 = k by omega]
    have o19 : ck_so 4 cw_SG S_19 n ws sh (some (b, L, xs), some w, b') ls [.int i3] := by
      refine ⟨o.1, ?_, ⟨⟨by decide, i3, rfl, ei3⟩, trivial⟩, fun z hz => ?_, o.2.2.2.2.1, o.2.2.2.2.2⟩
      · obtain ⟨lv, l1, l2⟩ := o.2.1
        exact ⟨lv, l1, l2.imp fun a c hac => ⟨hac.1, hac.2.sc rfl rfl⟩⟩
      · rcases List.mem_append.mp (show z ∈ S_18.2.2.1 ++ ck_ab 6 from hz) with hz | hz
        · exact (ck_mo.sc (sc := (some (b, L, xs), some w, bb)) (sc' := (some (b, L, xs), some w, b')) rfl rfl (by decide) o.2.2.2.1) z hz
        · obtain ⟨k, hk, rfl⟩ := List.mem_map.mp hz
          have hk := List.mem_range.mp hk
          exact Or.inl ⟨rfl, hk, Or.inr ⟨rfl, (hb6 k hk).symm⟩⟩
    have hrun := ck_run2_ok (Fc := Fc_law) (s0 := s0) (p := p) (l := l) (e := e) (R := Rj) (s := s) (m := m) (args := #[Value.ref b]) (below := below) (meth := meth) (c := c) (Q := lw_Z below #[Value.ref b] s) (cc := code) (own := "ReasonDeskLaw") (D := D) (cl := cw_V.1) (tys := tys) (M := M_law) (sc := (some (b, L, xs), some w, b')) (A := fun q : Nat => s.heap.size ≤ q) (ws0 := ws) (sh0 := sh) (n1 := n) (b := b') (nE := 6) (by decide) (X b')
      (fun _ h => absurd h List.not_mem_nil) (fun _ h => absurd h List.not_mem_nil) (fun _ h => absurd h List.not_mem_nil) (fun _ h => absurd h List.not_mem_nil) (fun _ h => absurd h List.not_mem_nil) (fun _ h => absurd h List.not_mem_nil) (fun _ h => absurd h List.not_mem_nil) (fun _ h => absurd h List.not_mem_nil)
      (fun b2 => a_law (X b2) ht htl rfl hnq hRf) k_law ?_ ?_ h_law h_law0 hb6
    · have hx0 : fxi (tM M_law Fc_law (some (b, L, xs))) (.iload_n 3) 1 (18, lg, [], ws, sh) (19, lg, [.int i3], ws, sh) := (f_ldx (pc := 18) (len := 1) (vs := []) (ws := ws) (sh := sh) hlg hl3 : f_ld 3 1 (18, lg, [], ws, sh) (18 + 1, lg, [.int i3], ws, sh))
      have hfin := hrun n ws sh H locs ls [.int i3] o19 hwo ck_ex.rf hP hD hS lg hlg (hgr.nx hb d18 hx0)
      rw [hoc, hos] at hfin
      exact hfin
    · intro b2 hb2 kd S hkr hst pc hdg n2 ws2 sh2 H2 locs2 ls2 vs2 o2 hw2 hx2 hP2 hD2 hS2 lg2 hlg2 hgr2
      unfold lw_kr at hkr
      rw [Bool.and_eq_true, decide_eq_true_eq] at hkr
      obtain ⟨k1, k2⟩ := hkr
      have ek := eq_of_beq k1
      subst ek
      obtain ⟨v, hv, e0⟩ := (show ∃ v, S.2.1 = [v] ∧ v.1 = 0 from hst)
      have o3 := o2.2.2.1
      rw [hv] at o3
      obtain ⟨u, vs', rfl, g2, g3⟩ := ck_hd o3
      cases vs' with
      | cons _ _ => exact g3.elim
      | nil =>
        obtain ⟨-, x, rfl, ex⟩ := g2.i e0
        have hx1 : x = 1 := hone pc lg2 x ws2 sh2 (by rw [hb] at hgr2; exact hgr2) hdg
        subst hx1
        show W _ _ _ _ _ _ _ _ _ _ _ _ _ _ _ _
        refine w_room hroom (va_forget (fun q hq => hS2.2.2 q hq) (W.widen ?_ ?_ (lw_ret hx hb hr hlocks hdg)))
        · rw [hoc]; omega
        · rw [hos]; omega
    · intro x hx18 S Ls hLs b2 hb2 hk2
      rw [List.mem_singleton.mp hx18] at hLs ⊢
      have hLs : lw_end S = some Ls := hLs
      unfold lw_end at hLs
      split at hLs
      · rename_i hc
        obtain ⟨k1, k2, k3⟩ := hc
        have hto := ck_to_ok (Fc := Fc_law) (s0 := s0) (p := p) (l := l) (e := e) (R := Rj) (s := s) (m := m) (args := #[Value.ref b]) (below := below) (meth := meth) (c := c) (Q := lw_Z below #[Value.ref b] s) (D := D) (cl := cw_V.1) (tys := tys) (M := M_law) (sc := (some (b, L, xs), some w, b2)) (A := fun q : Nat => s.heap.size ≤ q) (ws0 := ws) (sh0 := sh) (n1 := n) (b := b2) (nE := 6) (x := (18, I_18)) (cur := none) (by decide) hb2 (by decide +kernel) k3 (fun n2 _ hn2 ws2 sh2 H2 locs2 ls2 vs2 o2 hw2 hx2 hP2 hD2 hS2 => by
          obtain ⟨hvs, o2', h6⟩ := lw_ren o2
          subst hvs
          have e4 := hn2 4 (by decide)
          have := ih (j + 1) (by omega) b2 (lw_rn n2) ws2 sh2 H2 locs2 ls2 o2' (by show (n2 6).1 = _; rw [h6, e4, hi]; push_cast; omega) hw2 hP2 hD2 hS2
          show WG (tM M_law Fc_law (some (b, L, xs))) s0 p l e Rj s m #[Value.ref b] below meth c ws2 sh2 H2 locs2 (ck_oc Rj M_law + 1) (ck_os Rj M_law + 7) (lw_Z below #[Value.ref b] s) (18, ls2, [])
          rw [hoc, hos]
          exact fun lg2 hlg2 hgr2 => w_room hroom (this lg2 hlg2 hgr2))
        intro n2 ws2 sh2 H2 locs2 ls2 vs2 o2 hw2 hx2 hP2 hD2 hS2
        refine WG.widen (k := ck_oc Rj M_law + 1) (n := ck_os Rj M_law + 7) (Nat.add_le_add_left k1 _) (Nat.add_le_add_left k2 _) ?_
        exact hto n2 ws2 sh2 H2 locs2 ls2 vs2 o2 hw2 hx2 hP2 hD2 hS2
      · cases hLs
end
theorem lw_obj {tys : List (ClassId × FieldType)} {ws : va_W} {ci N : Nat} {ty : Nat → FieldType} {ds : List mk_V} (h : (List.range N).map (fun j => mk_dv (ty j)) = ds.map some) : mk_co tys ws (0, ci, N, ds) (.inr (ci, (List.range N).map fun j => defaultValue (ty j))) := by
  have hlen : ds.length = N := by
    have h1 := congrArg List.length h
    simp at h1
    exact h1.symm
  refine ⟨_, rfl, by simp, hlen, ck_two_get (by simp [hlen]) (fun j a b ha hb => ?_)⟩
  have hj : j < N := by rw [← hlen]; exact (List.getElem?_eq_some_iff.mp ha).1
  obtain ⟨v, v1, v2⟩ := mk_dvs h j hj
  have ev : v = a := Option.some.inj (v1.symm.trans ha)
  have hb' : ((List.range N).map fun j => defaultValue (ty j))[j]? = some (defaultValue (ty j)) := by simp [hj]
  have eb : defaultValue (ty j) = b := Option.some.inj (hb'.symm.trans hb)
  subst ev
  subst eb
  exact v2.mv (fun i a e hi => by simp at hi)
theorem lp_1e : f_X11_init [lp_D] [(2, 0, 0)] = some ([], lp_L1) := lp_is_ok lp_1c
theorem lp_2e : f_X12_init (lp_L1 ++ [lp_M]) [(2, 0, 343)] = some ([], lp_L2) := lp_is_ok lp_2c
def lw_T : mk_T := ([], [], [], [], [], [], [], [], 4, 837, 118034)
theorem lw_so {ws : va_W} {b L w q1 q2 : Nat} {xs : Nat → Int32} {tys : List (ClassId × FieldType)} {ls : Array Slot} (hL : L ≤ 3072) (hl : lv_has ls 4 [(3, .int 0), (2, .ref q2), (1, .ref q1), (0, .ref b)]) (hwo : mk_wo tys ws lp_L2) (h1 : ∃ e, ws[0]? = some (q1, e)) (h2 : ∃ e, ws[343]? = some (q2, e)) :
    ∃ n : ck_N, ck_so 4 cw_SG S_18 n ws lp_sh (some (b, L, xs), some w, fun _ => 0) ls [] ∧ (n 4).1 = 6 * ((0 : Nat) : Int) := by
  obtain ⟨e1, h1⟩ := h1
  obtain ⟨e2, h2⟩ := h2
  obtain ⟨i1, i2, i3, i4⟩ := lp_i
  obtain ⟨a3, x3, g3, co3⟩ := hwo.get lp_2w
  obtain ⟨cA3, f3, t3, rfl, v3⟩ := co3
  obtain ⟨a4, x4, g4, co4⟩ := hwo.get lp_2n
  obtain ⟨cA4, f4, t4, rfl, v4⟩ := co4
  refine ⟨fun k => if k = 1 then ((L : Int), .null) else if k = 2 then (0, .ref q1) else if k = 3 then (0, .ref q2) else (0, .null), ⟨⟨by decide, rfl⟩, ⟨[(0, .ref b), (1, .ref q1), (2, .ref q2), (3, .int 0)], ⟨hl.1, hl.2.1, fun q hq => ?_⟩, ?_⟩, trivial, fun x hx => ?_, fun k x hx hle => ?_, fun r hr => absurd hr List.not_mem_nil⟩, rfl⟩
  · simp only [List.mem_cons, List.not_mem_nil, or_false] at hq
    rcases hq with rfl | rfl | rfl | rfl <;> exact hl.2.2 _ (by simp)
  · exact ⟨⟨rfl, by decide, b, L, xs, rfl, rfl, rfl⟩, ⟨rfl, by decide, rfl, 0, q1, e1, 11, rfl, h1, i1, List.mem_singleton.mpr rfl⟩, ⟨rfl, by decide, rfl, 343, q2, e2, 17, rfl, h2, i2, List.mem_singleton.mpr rfl⟩, ⟨rfl, by decide, 0, rfl, rfl⟩, trivial⟩
  · have hx' : x = (80, 0, (30, 5, [])) ∨ x = (81, 0, (31, 5, [])) := by
      have : x ∈ ([(80, 0, (30, 5, [])), (81, 0, (31, 5, []))] : List ck_M) := hx
      simpa using this
    rcases hx' with rfl | rfl
    · refine Or.inr (Or.inr ⟨by decide, by decide, by decide, rfl, by decide, fun j hj => absurd hj List.not_mem_nil, 379, a3, cA3, 6, f3, i3, g3, ?_⟩)
      show ∀ i : Nat, i < 6 → (f3 i).toInt = 1 → _
      intro i hi h
      exfalso
      have hv : ∃ w : Int32, Value.int (f3 i) = .int w ∧ w.toInt = -9 := by
        rcases (show i = 0 ∨ i = 1 ∨ i = 2 ∨ i = 3 ∨ i = 4 ∨ i = 5 by omega) with rfl | rfl | rfl | rfl | rfl | rfl
        · exact v3 0
        · exact v3 1
        · exact v3 2
        · exact v3 3
        · exact v3 4
        · exact v3 5
      obtain ⟨w0, hw0, hw1⟩ := hv
      cases hw0
      omega
    · refine Or.inr (Or.inr ⟨by decide, by decide, by decide, rfl, by decide, fun j hj => absurd hj List.not_mem_nil, 380, a4, cA4, 6, f4, i4, g4, ?_⟩)
      show ∀ i : Nat, i < 6 → (0 : Nat).testBit i = true → _
      intro i hi h
      rw [Nat.zero_testBit] at h
      cases h
  · match k with
    | 0 =>
      cases (show some ((0 : Int), (0 : Int)) = some x from hx)
      exact ⟨Int.le_refl _, Int.le_refl _⟩
    | 1 =>
      cases (show some ((0 : Int), (3072 : Int)) = some x from hx)
      exact ⟨by show (0 : Int) ≤ (L : Int); omega, by show (L : Int) ≤ 3072; omega⟩
    | 2 =>
      cases (show some ((1 : Int), (0 : Int)) = some x from hx)
      exact absurd hle (by decide)
    | 3 =>
      cases (show some ((1 : Int), (0 : Int)) = some x from hx)
      exact absurd hle (by decide)
    | 4 =>
      cases (show some ((0 : Int), (3072 : Int)) = some x from hx)
      exact ⟨by show (0 : Int) ≤ 0; decide, by show (0 : Int) ≤ 3072; decide⟩
    | 5 =>
      cases (show some ((1 : Int), (0 : Int)) = some x from hx)
      exact absurd hle (by decide)
    | k + 6 => exact absurd hx (by simp [S_18])
theorem whole_start {p : Program} {e : Env} {s : State} {m : MethodId} {below : List Frame} {meth : Method} {c : Code} (l : Launch) (hflags : l.flags = flags0) {b L : Nat} {xs : Nat → Int32} (hL : L ≤ 3072) (C0 : lw_At p s m meth c b L xs) : W p l e room_1 s m #[Value.ref b] below meth c s.heap [] 0 0 (lw_Z below #[Value.ref b] s) (entryFrame m ([Value.ref b] : List Value).toArray 4) := by
  obtain ⟨hx, hb, hr, hml, hown, hts, hX, hbl, hlocks, hgv⟩ := id C0
  have ht : ∀ w ∈ cw_tb, w.before #[Value.ref b] s = true := fun w hw => hts w (cw_tbs hw)
  obtain ⟨D, tys, htl, hK⟩ := lq_K hts
  have hnq := lq_nq hgv hts
  have hao := lq_ao hts
  obtain ⟨w, hw⟩ := lq_with hgv hts
  have hA : ∀ q : Nat, s.heap.size ≤ q → (fun q : Nat => s.heap.size ≤ q) q := fun _ h => h
  have hS : va_S (fun q : Nat => s.heap.size ≤ q) s.heap s.heap [] := va_S.rf
  have hP : va_P D cw_cls [] s.heap := fun k q h => by simp at h
  have hD : va_D (fun q : Nat => s.heap.size ≤ q) [] := ⟨fun i j p q h => by simp at h, fun k q h => by simp at h⟩
  have hwo : mk_wo tys [] [] := ⟨rfl, fun i a e c h => by simp at h⟩
  have XM : mk_cx p e room_1 s m #[Value.ref b] meth c code "ReasonDeskLaw" D cw_V tys lw_T (fun q : Nat => s.heap.size ≤ q) := ⟨hx, hb, hown, hK, hA, hml, ⟨Nat.le_of_ble_eq_true rfl, Nat.le_of_ble_eq_true rfl⟩, hlocks, ht, htl, hnq, hao⟩
  have hl := lv_entry ([.ref b]) (n := 4) (show 1 ≤ 4 from Nat.le_of_ble_eq_true rfl)
  rw [lg_entry_eq]
  generalize (lg_sl ([.ref b]) ++ List.replicate (4 - (lg_sl ([.ref b])).length) Slot.unset).toArray = ls at hl ⊢
  have hl : lv_has ls 4 [(0, .ref b)] := hl
  refine va_new (ci := 11) (C := RX11) (T := TX11) (N := 15) (fs := (List.range 15).map fun j => defaultValue (tyX11 j)) hx hb ht cw_in_X11 tyX11 tyX11_ok hown (ht _ tw_113) (ht _ tw_114) (ht _ tw_95) hK hP hD hS hA rfl (fun j hj => by simp [vp_V, hj]) (Nat.le_of_ble_eq_true rfl) (Nat.le_of_ble_eq_true rfl) (by decide +kernel) (fun q1 H1 hP1 hD1 hS1 => ?_)
  have w1 : mk_wo tys [(q1, .inr (11, (List.range 15).map fun j => defaultValue (tyX11 j)))] [lp_D] := hwo.app (c := lp_D) (lw_obj (by decide +kernel))
  refine lv_dup hx hb (by decide +kernel) rfl ?_
  have cs9 := mk_cs_I (below := below) (Q := lw_Z below #[Value.ref b] s) (idx := 9) (u_X11_init l) XM cw_good (ck_m4 tw_115 tw_116 tw_95 tw_117) rfl hd_X11_init ⟨Nat.le_of_ble_eq_true rfl, Nat.le_of_ble_eq_true rfl⟩
  unfold mk_cs at cs9
  dsimp only at cs9
  refine cs9 4 ls _ _ H1 [] _ _ [.ref q1] [.ref q1] [(2, 0, 0)] ([], lp_L1) (by rw [ck_ik2]; decide +kernel) hl.1 rfl ⟨⟨q1, _, rfl, rfl⟩, trivial⟩ w1 hP1 hD1 hS1 (Nat.le_of_ble_eq_true rfl) (Nat.le_of_ble_eq_true rfl) (Nat.le_of_ble_eq_true rfl) rfl lp_1e (fun rv ws2 H2 locs2 hwo2 hle2 hP2 hD2 hS2 hrv => ?_)
  cases rv with
  | cons _ _ => exact hrv.elim
  | nil =>
    refine lv_astore_n (k := 1) (lv' := [(1, .ref q1), (0, .ref b)]) hx hb (by decide +kernel) rfl hl (by decide) rfl (fun ls hl => ?_)
    refine va_new (ci := 12) (C := RX12) (T := TX12) (N := 68) (fs := (List.range 68).map fun j => defaultValue (tyX12 j)) hx hb ht cw_in_X12 tyX12 tyX12_ok hown (ht _ tw_1264) (ht _ tw_1265) (ht _ tw_104) hK hP2 hD2 hS2 hA rfl (fun j hj => by simp [vp_V, hj]) (Nat.le_of_ble_eq_true rfl) (Nat.le_of_ble_eq_true rfl) (by decide +kernel) (fun q2 H3 hP3 hD3 hS3 => ?_)
    have w3 : mk_wo tys (ws2 ++ [(q2, .inr (12, (List.range 68).map fun j => defaultValue (tyX12 j)))]) (lp_L1 ++ [lp_M]) := hwo2.app (c := lp_M) (lw_obj (by decide +kernel))
    have hq2 : (ws2 ++ [(q2, .inr (12, (List.range 68).map fun j => defaultValue (tyX12 j)))] : va_W)[343]? = some (q2, .inr (12, (List.range 68).map fun j => defaultValue (tyX12 j))) := by
      rw [← lp_1l, ← (show ws2.length = lp_L1.length from hwo2.1)]
      simp
    refine lv_dup hx hb (by decide +kernel) rfl ?_
    have cs12 := mk_cs_I (below := below) (Q := lw_Z below #[Value.ref b] s) (idx := 12) (u_X12_init l) XM cw_good (ck_m4 tw_1266 tw_1267 tw_104 tw_1268) rfl hd_X12_init ⟨Nat.le_of_ble_eq_true rfl, Nat.le_of_ble_eq_true rfl⟩
    unfold mk_cs at cs12
    dsimp only at cs12
    refine cs12 12 ls _ _ H3 locs2 _ _ [.ref q2] [.ref q2] [(2, 0, 343)] ([], lp_L2) (by rw [ck_ik2]; decide +kernel) hl.1 rfl ⟨⟨q2, _, hq2, rfl⟩, trivial⟩ w3 hP3 hD3 hS3 (Nat.le_of_ble_eq_true rfl) (Nat.le_of_ble_eq_true rfl) (Nat.le_of_ble_eq_true rfl) rfl lp_2e (fun rv ws4 H4 locs4 hwo4 hle4 hP4 hD4 hS4 hrv => ?_)
    cases rv with
    | cons _ _ => exact hrv.elim
    | nil =>
      refine lv_astore_n (k := 2) (lv' := [(2, .ref q2), (1, .ref q1), (0, .ref b)]) hx hb (by decide +kernel) rfl hl (by decide) rfl (fun ls hl => ?_)
      refine lv_iconst (n := 0) (v := 0) hx hb (by decide +kernel) (by decide) ?_
      refine lv_istore_n (k := 3) (lv' := [(3, .int 0), (2, .ref q2), (1, .ref q1), (0, .ref b)]) hx hb (by decide +kernel) rfl hl (by decide) rfl (fun ls hl => ?_)
      have hq1 : ∃ e, ws4[0]? = some (q1, e) := by
        obtain ⟨e1, g1⟩ := hle2 0 q1 _ rfl
        obtain ⟨e2, g2⟩ := mk_le.app (l := [(q2, .inr (12, (List.range 68).map fun j => defaultValue (tyX12 j)))]) 0 q1 _ g1
        exact hle4 0 q1 _ g2
      obtain ⟨n, o, hn⟩ := lw_so (w := w) (xs := xs) hL hl hwo4 hq1 (hle4 343 q2 _ hq2)
      have hone := law_ok (b := b) (L := L) (xs := xs) hwo4 (sp_wo lp_2t hwo4) hD4.1 (fun q e' hq => Nat.not_le.mpr hbl (hD4.2 q _ hq)) hq1 (hle4 343 q2 _ hq2)
      refine W.widen (k := 837 + 0) (n := 118034 + 7 * 0) (Nat.le_of_ble_eq_true rfl) (Nat.le_of_ble_eq_true rfl) ?_
      exact lw_loop hone hL C0 hK htl hnq hw 513 0 rfl (fun _ => 0) n ws4 lp_sh H4 locs4 ls o hn (sp_wo lp_2t hwo4) hP4 hD4 hS4 _ (by rw [hml]; exact hl) gr.rf
