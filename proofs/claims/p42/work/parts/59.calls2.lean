section
variable {p : Program} {l : Launch} {e : Env} {R : Room} {s : State} {m : MethodId} {args : Array Value} {below : List Frame} {meth : Method} {c : Code} {Q : State → Prop} {cc : ByteArray} {own : String} {D : va_G} {cl : List vw_C} {tys : List (ClassId × FieldType)} {M : ck_Me} {sc : ck_sc} {A : Nat → Prop} {ws0 : va_W} {sh0 : List Nat} {Fc : Nat → Nat × fR} {s0 : fS} {S : ck_S} {pc pc' : Nat}
theorem ck_aft_ok {nL : Nat} {SG : List Nat} {n n2 : ck_N} {ws ws' : va_W} {sh sh' : List Nat} {ls : Array Slot} {vs rest : List Value} {st : List ck_V} {g : List Nat} {wr : List (Nat × Nat)} {mc ms : Nat} {P : ck_P} {k : ck_S → Bool} {rv : Option Value} (h : ck_aft S st g wr mc ms P k = true)
    (o : ck_so nL SG S n ws sh sc ls vs) (hrest : ck_two (ck_vo ws sh sc n S.2.2.2.1.length) st rest) (hg : ∀ s ∈ g, s < S.2.2.2.1.length) (h1 : P.1.all (fun v => decide (v.1 < 5)) = true) (h2 : P.2.1.all ck_okm = true)
    (hn2 : ∀ k, k < g.length → n2 k = ck_pl g n k) (hx : ck_ex wr ws sh ws' sh') (hpo : ck_po SG ws' sh' sc n2 P.2.2.1.length P rv.toList) :
    ∃ (S' : ck_S) (n3 : ck_N), k S' = true ∧ ck_so nL SG S' n3 ws' sh' sc ls (rv.toList ++ rest) ∧ S'.2.2.2.2.2 = (S.2.2.2.2.2.1 + mc, S.2.2.2.2.2.2 + ms) := by
  obtain ⟨p1, p2, p3, p4⟩ := hpo
  obtain ⟨⟨o0, o00⟩, o1, o2, o3, o4, o5⟩ := o
  generalize hN : S.2.2.2.1.length = N at *
  obtain ⟨n3, hn3⟩ : ∃ n3 : ck_N, n3 = fun k => if k < N then n k else n2 (k - N + g.length) := ⟨_, rfl⟩
  have a1 : ∀ k, k < N → n3 k = n k := fun k hk => by rw [hn3]; exact if_pos hk
  have a2 : ∀ k, N ≤ k → n3 k = n2 (k - N + g.length) := fun k hk => by rw [hn3]; exact if_neg (by omega)
  have hgd : ∀ k, k < g.length → g.getD k 0 < N := fun k hk => by
    rw [List.getD_eq_getElem?_getD, List.getElem?_eq_getElem hk]
    exact hg _ (List.getElem_mem hk)
  have hr : ∀ k, k < P.2.2.1.length → n3 (ck_ren g N k) = n2 k := by
    intro k hk
    unfold ck_ren
    split
    · rename_i q
      rw [a1 _ (hgd k q), hn2 k q]
      rfl
    · rename_i q
      rw [a2 _ (by omega)]
      congr 1
      omega
  have hlE : (S.2.2.2.1 ++ P.2.2.1.drop g.length).length = N + (P.2.2.1.length - g.length) := by simp [hN]
  have hrl : ∀ k, k < P.2.2.1.length → ck_ren g N k < N + (P.2.2.1.length - g.length) := by
    intro k hk
    unfold ck_ren
    split
    · rename_i q
      have := hgd k q
      omega
    · omega
  unfold ck_aft at h
  rw [hN] at h
  have hso : ck_so nL SG (S.1, P.1.map (ck_renV g N) ++ st, P.2.1.map (fun m => (m.1, m.2.1, ck_renV g N m.2.2)) ++ S.2.2.1.filter (fun m => m.1 == 0 || !(wr.contains (m.1, m.2.1))),
      S.2.2.2.1 ++ P.2.2.1.drop g.length, S.2.2.2.2.1, S.2.2.2.2.2.1 + mc, S.2.2.2.2.2.2 + ms) n3 ws' sh' sc ls (rv.toList ++ rest) := by
    unfold ck_so
    dsimp only
    rw [hlE]
    refine ⟨⟨by omega, by rw [a1 0 o0]; exact o00⟩, (o1.mv hx).up a1 (by omega), ?_, ?_, ?_, o5.up a1 (by omega)⟩
    · refine ck_two.app ?_ (hrest.imp fun _ _ z => (z.mv hx).up a1 (by omega))
      have hall : ∀ v ∈ P.1, v.1 < 5 := fun v hv => of_decide_eq_true (List.all_eq_true.mp h1 v hv)
      revert hall p1
      generalize rv.toList = xs
      generalize P.1 = vs
      clear h h1
      intro p1 hall
      induction vs generalizing xs with
      | nil => cases xs with
        | nil => trivial
        | cons _ _ => exact p1.elim
      | cons v vs ih => cases xs with
        | nil => exact p1.elim
        | cons x xs => exact ⟨ck_renV_ok hr hrl (hall v List.mem_cons_self) p1.1, ih xs p1.2 (fun w hw => hall w (List.mem_cons_of_mem _ hw))⟩
    · intro z hz
      rcases List.mem_append.mp hz with hz | hz
      · obtain ⟨y, hy, rfl⟩ := List.mem_map.mp hz
        have hy2 := List.all_eq_true.mp h2 y hy
        unfold ck_okm at hy2
        rw [Bool.and_eq_true, Bool.not_eq_true', beq_eq_false_iff_ne, Bool.or_eq_true, decide_eq_true_eq, decide_eq_true_eq] at hy2
        rcases p2 y hy with ⟨w, -⟩ | ⟨w0, w1, q, a, oo, v, w2, w3, w4, w5⟩ | ⟨w0, w1, w2, w3, w4, w5, q, a, cA, len, f, w6, w7, w8⟩
        · exact absurd w hy2.1
        · refine Or.inr (Or.inl ⟨w0, w1, q, a, oo, v, w2, w3, w4, ck_renV_ok hr hrl ?_ w5⟩)
          rcases hy2.2 with z | z
          · exact z
          · exfalso
            have w5 := w5.2
            split at w5 <;> omega
        · refine Or.inr (Or.inr ⟨w0, w1, w2, w3, hrl _ w4, ?_, q, a, cA, len, f, w6, w7, ?_⟩)
          · intro j hj
            unfold ck_renV at hj
            dsimp only at hj
            rw [if_pos w0] at hj
            obtain ⟨i, hi, rfl⟩ := List.mem_map.mp hj
            exact hrl _ (w5 i hi)
          · unfold ck_renV
            dsimp only
            rw [if_pos w0, hr _ w4, List.map_map, List.map_congr_left (g := fun j => (n2 j).1) (fun j hj => by show (n3 (ck_ren g N j)).1 = _; rw [hr _ (w5 j hj)])]
            exact w8
      · obtain ⟨hz1, hz2⟩ := List.mem_filter.mp hz
        rcases o3 z hz1 with ⟨w0, w3, ⟨w2, w1, b', L', xs', w4, w5⟩ | ⟨w2, w4⟩⟩ | ⟨z0, z1, q1, a1', o1', v1, z2, z3, z4, z5⟩ | hyy
        · exact Or.inl ⟨w0, by omega, Or.inl ⟨w2, by omega, b', L', xs', w4, by rw [a1 _ w1, a1 _ w3]; exact w5⟩⟩
        · exact Or.inl ⟨w0, by omega, Or.inr ⟨w2, by rw [a1 _ w3]; exact w4⟩⟩
        · rw [Bool.or_eq_true] at hz2
          rcases hz2 with hz2 | hz2
          · exact absurd (eq_of_beq hz2) z0
          · have hnw : (z.1, z.2.1) ∉ wr := fun w => by
              rw [List.contains_iff_mem.mpr w] at hz2
              cases hz2
            obtain ⟨e', x1, x2⟩ := hx.2 q1 a1' _ z.1 z3 z2
            cases e' with
            | inl _ => exact x2.elim
            | inr oo => exact Or.inr (Or.inl ⟨z0, z1, q1, a1', oo, v1, hx.1 _ _ z2, x1, by rw [x2.2 _ hnw]; exact z4, (z5.mv hx).up a1 (by omega)⟩)
        · rw [Bool.or_eq_true] at hz2
          rcases hz2 with hz2 | hz2
          · exact absurd (eq_of_beq hz2) hyy.2.1
          · have hnw : (z.1, z.2.1) ∉ wr := fun w => by
              rw [List.contains_iff_mem.mpr w] at hz2
              cases hz2
            exact ck_mo.up (mem := [z]) (N := N) a1 (by omega) (fun y hy' => by rw [List.mem_singleton.mp hy']; exact Or.inr (Or.inr (ck_mo.mv1 hx hnw hyy))) z List.mem_cons_self
    · intro j y hj hle
      by_cases hjN : j < N
      · rw [List.getElem?_append_left (by rw [hN]; exact hjN)] at hj
        rw [a1 j hjN]
        exact o4 j y hj hle
      · rw [List.getElem?_append_right (by rw [hN]; omega), List.getElem?_drop, hN] at hj
        rw [a2 j (by omega)]
        have e1 : j - N + g.length = g.length + (j - N) := by omega
        rw [e1]
        exact p3 _ y hj hle
  obtain ⟨S', k1, q1, q2⟩ := ck_wles_ok h hso (fun r hrr => by
    obtain ⟨r1, r2, r3⟩ := p4 r hrr
    rw [hr _ r1, hr _ r2]
    exact r3)
  exact ⟨S', n3, k1, q1, q2.2.2.2.2⟩
theorem ck_two_take {α β : Type} {P : α → β → Prop} : ∀ {l : List α} {r : List β} (i : Nat), ck_two P l r → ck_two P (l.take i) (r.take i) ∧ ck_two P (l.drop i) (r.drop i)
  | _, _, 0, h => ⟨trivial, h⟩
  | [], [], _ + 1, _ => ⟨trivial, trivial⟩
  | _ :: _, _ :: _, i + 1, h => by
    obtain ⟨a, b⟩ := ck_two_take i h.2
    exact ⟨⟨h.1, a⟩, b⟩
  | [], _ :: _, _ + 1, h => h.elim
  | _ :: _, [], _ + 1, h => h.elim
theorem ck_two_rev {α β : Type} {P : α → β → Prop} : ∀ {l : List α} {r : List β}, ck_two P l r → ck_two P l.reverse r.reverse
  | [], [], _ => trivial
  | a :: l, b :: r, h => by
    rw [List.reverse_cons, List.reverse_cons]
    exact ck_two.app (ck_two_rev h.2) ⟨h.1, trivial⟩
  | [], _ :: _, h => h.elim
  | _ :: _, [], h => h.elim
theorem ck_two_cat {ws : va_W} {sh : List Nat} {n : ck_N} {N : Nat} : ∀ {l : List ck_V} {r : List Value}, ck_two (ck_vo ws sh sc n N) l r → (r.map fun v => v.category).sum = (l.map ck_cat).sum
  | [], [], _ => rfl
  | a :: l, b :: r, h => by
    rw [List.map_cons, List.map_cons, List.sum_cons, List.sum_cons, ck_two_cat h.2, ck_cat_ok h.1]
  | [], _ :: _, h => h.elim
  | _ :: _, [], h => h.elim
theorem ck_call_ok (X : ck_cx p l e R s m args below meth c cc own D cl tys M sc A) {i t na : Nat} {C : ck_C} {k : ck_S → Bool} (hcs : ck_cs Fc s0 p l e R s m args below meth c Q cc D cl tys M sc A (i, t, na, C)) (h : ck_call (mF M) (mWr M) (mRm M) S na C k = true) (hk : ∀ S, k S = true → ck_g Fc s0 p l e R s m args below meth c Q D cl tys M sc A ws0 sh0 S (pc + 3)) (hdg : decode cc pc = .ok (ck_ik i, 3))
    {n : ck_N} {ws : va_W} {sh : List Nat} {H : Heap} {locs : List Loc} {ls : Array Slot} {vs : List Value} (o : ck_so (mnL M) (mSG M) S n ws sh sc ls vs) (hw : ck_wo tys (mTT M) (mSG M) ws sh) (hx : ck_ex (mWr M) ws0 sh0 ws sh) (hP : va_P D cl ws H) (hD : va_D A ws) (hS : va_S A s.heap H locs)
    (hrec : t ≠ 0 → ∃ v, (vs.take na).reverse[0]? = some v ∧ ck_rf ws sh [t] v) : WG (tM M Fc sc.1) s0 p l e R s m args below meth c ws sh H locs (ck_oc R M + S.2.2.2.2.2.1) (ck_os R M + S.2.2.2.2.2.2) Q (pc, ls, vs) := by
  unfold ck_call at h
  simp only [Bool.and_eq_true, decide_eq_true_eq] at h
  obtain ⟨⟨h1, h2, h3, h4⟩, h5, h6⟩ := h
  split at h6
  · rename_i g hg
    rw [Bool.and_eq_true, decide_eq_true_eq] at h6
    obtain ⟨h7, h8⟩ := h6
    obtain ⟨t1, t2⟩ := ck_two_take na o.2.2.1
    obtain ⟨⟨tl, htl⟩, g2, g3⟩ := ck_mt_ok o hg (ck_two_rev t1) (fun s hs => by rw [List.mem_singleton.mp hs]; exact o.1.1)
    have hlen : (vs.take na).reverse.length = na := by
      have := ck_two.len o.2.2.1
      simp
      omega
    have evs : vs = (vs.take na).reverse.reverse ++ vs.drop na := by rw [List.reverse_reverse, List.take_append_drop]
    rw [h7] at g3
    obtain ⟨lv, hlv, -⟩ := id o.2.1
    have key := hcs pc ls (ck_pl g n) ws sh H locs (ck_oc R M + S.2.2.2.2.2.1) (ck_os R M + S.2.2.2.2.2.2) (vs.take na).reverse (vs.drop na) hdg hlv.1 hlen (by rw [htl]; exact o.1.2) g3 hrec hw hP hD hS
      (ck_ocl X.2.2.2.2.2.2.1.1 h2) (ck_osl X.2.2.2.2.2.2.1.2 h3) (by rw [ck_two_cat t2]; exact h4) ?_
    · rw [← evs] at key
      exact key
    · intro P hP' rv n2 ws' sh' H' locs' e1 hw' hx' hP1 hD1 hS1 hpo
      have h9 := List.all_eq_true.mp h8 P hP'
      rw [Bool.and_eq_true, Bool.and_eq_true] at h9
      obtain ⟨S', n3, q1, q2, q3⟩ := ck_aft_ok h9.2 o t2 g2 h9.1.1 h9.1.2 (fun k hk => e1 k (by rw [h7] at hk; exact hk)) hx' hpo
      have hfin := hk S' q1 n3 ws' sh' H' locs' ls _ q2 hw' (hx.tr (fun z hz => List.contains_iff_mem.mp (List.all_eq_true.mp h5 z hz)) hx') hP1 hD1 hS1
      rw [q3] at hfin
      rw [Nat.add_assoc (ck_oc R M), Nat.add_assoc (ck_os R M)]
      exact hfin
  · cases h6
theorem ck_inv_ok (X : ck_cx p l e R s m args below meth c cc own D cl tys M sc A) (hvl : ∀ x ∈ mvl M, ck_cs Fc s0 p l e R s m args below meth c Q cc D cl tys M sc A x) {i : Nat} {k : ck_S → Bool} (h : ck_inv M i S k = true) (hk : ∀ S, k S = true → ck_g Fc s0 p l e R s m args below meth c Q D cl tys M sc A ws0 sh0 S (pc + 3)) (hdg : decode cc pc = .ok (ck_ik i, 3)) : ck_g Fc s0 p l e R s m args below meth c Q D cl tys M sc A ws0 sh0 S pc := by
  intro n ws sh H locs ls vs o hw hx hP hD hS
  unfold ck_inv at h
  split at h
  · rename_i x hfx
    have hm := List.mem_of_find?_eq_some hfx
    have hfp := List.find?_some hfx
    have ei : x.1 = i := eq_of_beq hfp
    split at h
    · obtain ⟨y, hym, h⟩ := List.any_eq_true.mp h
      rw [Bool.and_eq_true, Bool.and_eq_true, beq_iff_eq, beq_iff_eq] at h
      obtain ⟨e1, e2, h⟩ := h
      exact ck_call_ok X (hvl y hym) h hk (by rw [e1]; exact hdg) o hw hx hP hD hS (fun z => absurd e2 z)
    · rw [Bool.and_eq_true, decide_eq_true_eq] at h
      obtain ⟨h1, h2⟩ := h
      split at h2
      · rename_i r hr
        rw [Bool.and_eq_true] at h2
        obtain ⟨hr2, hall⟩ := h2
        -- the receiver
        have hpos : x.2.2.1 - 1 < S.2.1.length := (List.getElem?_eq_some_iff.mp hr).1
        obtain ⟨v, hv, hvo⟩ : ∃ v, vs[x.2.2.1 - 1]? = some v ∧ ck_vo ws sh sc n S.2.2.2.1.length r v := by
          have h3 := (ck_two_take (x.2.2.1 - 1) o.2.2.1).2
          have e1 : S.2.1.drop (x.2.2.1 - 1) = r :: S.2.1.drop (x.2.2.1 - 1 + 1) := by
            rw [List.drop_eq_getElem_cons hpos]
            congr 1
            exact Option.some.inj ((List.getElem?_eq_getElem hpos).symm.trans hr)
          rw [e1] at h3
          obtain ⟨v, vs', e2, h4, -⟩ := ck_hd h3
          refine ⟨v, ?_, h4⟩
          have e3 := congrArg (fun l : List Value => l[0]?) e2
          simpa [List.getElem?_drop] using e3
        obtain ⟨hl, hv2, q, a, e', t, rfl, hq, ht, htm⟩ := hvo.r (eq_of_beq hr2)
        have h6 := List.all_eq_true.mp hall t htm
        obtain ⟨y, hym, h6⟩ := List.any_eq_true.mp h6
        · rw [Bool.and_eq_true] at h6
          obtain ⟨hyp, h6⟩ := h6
          simp only [Bool.and_eq_true, beq_iff_eq, Bool.not_eq_true', beq_eq_false_iff_ne, ne_eq] at hyp h6
          obtain ⟨hna, ht0, hcall⟩ := h6
          have hcs := hvl y hym
          have ey : y = (i, t, x.2.2.1, y.2.2.2) := by
            rw [← hyp.1, ← hyp.2, ← hna]
          rw [ey] at hcs
          have hrec : ∀ (vs : List Value), vs[x.2.2.1 - 1]? = some (.ref a) → t ≠ 0 → ∃ v, (vs.take x.2.2.1).reverse[0]? = some v ∧ ck_rf ws sh [t] v := by
            intro vs hvs _
            refine ⟨.ref a, ?_, q, a, e', t, rfl, hq, ht, List.mem_singleton.mpr rfl⟩
            have hlt := (List.getElem?_eq_some_iff.mp hvs).1
            have hlen : (vs.take x.2.2.1).length = x.2.2.1 := by simp; omega
            rw [List.getElem?_reverse (by omega), hlen, List.getElem?_take_of_lt (by omega)]
            exact hvs
          by_cases he : r.2.2 = [t]
          · rw [if_pos he] at hcall
            exact ck_call_ok X hcs hcall hk (by exact hdg) o hw hx hP hD hS (hrec vs hv)
          · rw [if_neg he] at hcall
            have o2 := ck_subS_ok o (s0 := r.2.1) (w := (2, r.2.1, [t])) ⟨hl, rfl, by rw [← hv2]; exact ⟨q, a, e', t, rfl, hq, ht, List.mem_singleton.mpr rfl⟩⟩
            exact ck_call_ok X hcs hcall hk (by exact hdg) o2 hw hx hP hD hS (hrec vs hv)
      · cases h2
  · cases h
end
