noncomputable section
/-! patterns are met -/
def ck_pl (g : List Nat) (n : ck_N) : ck_N := fun k => n (g.getD k 0)
theorem ck_pl_pre {g t : List Nat} {n : ck_N} : ∀ k, k < g.length → ck_pl (g ++ t) n k = ck_pl g n k := by
  intro k hk
  simp only [ck_pl, List.getD_eq_getElem?_getD]
  rw [List.getElem?_append_left hk]
theorem ck_tg_ok {ws : va_W} {sh : List Nat} {sc : ck_sc} {n n' : ck_N} {N N' : Nat} {p v : ck_V} {x : Value} (h : ck_tg p v = true) (hv : ck_vo ws sh sc n N v x) (he : n' p.2.1 = n v.2.1) (hl : p.2.1 < N') : ck_vo ws sh sc n' N' p x := by
  unfold ck_tg at h
  unfold ck_vo at hv ⊢
  refine ⟨hl, ?_⟩
  have hv := hv.2
  rw [he]
  split at h
  · rename_i hp
    rw [eq_of_beq h] at hv
    rw [hp]
    exact hv
  · rename_i hp
    rw [eq_of_beq h] at hv
    rw [hp]
    exact hv
  · rename_i hp
    rw [Bool.and_eq_true] at h
    rw [eq_of_beq h.1] at hv
    rw [hp]
    exact ⟨hv.1, hv.2.sub fun t ht => by have := List.all_eq_true.mp h.2 t ht; exact List.contains_iff_mem.mp this⟩
  · rename_i hp
    rw [hp]
    rw [Bool.or_eq_true, Bool.and_eq_true, Bool.or_eq_true] at h
    rcases h with h | ⟨h | h, h2⟩
    · rw [eq_of_beq h] at hv
      exact ⟨hv.1, Or.inl hv.2⟩
    · rw [eq_of_beq h] at hv
      exact ⟨hv.1, Or.inr (hv.2.sub fun t ht => by have := List.all_eq_true.mp h2 t ht; exact List.contains_iff_mem.mp this)⟩
    · rw [eq_of_beq h] at hv
      exact ⟨hv.1, hv.2.imp id (·.sub fun t ht => by have := List.all_eq_true.mp h2 t ht; exact List.contains_iff_mem.mp this)⟩
  · rename_i hp
    rw [eq_of_beq h] at hv
    rw [hp]
    exact hv
  · rename_i hp
    rw [eq_of_beq h] at hv
    rw [hp]
    exact hv
  · cases h
theorem ck_mv_ok {ws : va_W} {sh : List Nat} {sc : ck_sc} {n : ck_N} {N : Nat} {g g1 : List Nat} {p v : ck_V} {x : Value} (h : ck_mv g p v = some g1) (hv : ck_vo ws sh sc n N v x) (hg : ∀ s ∈ g, s < N) :
    (∃ t, g1 = g ++ t) ∧ (∀ s ∈ g1, s < N) ∧ ck_vo ws sh sc (ck_pl g1 n) g1.length p x := by
  unfold ck_mv at h
  split at h
  · rename_i ht
    split at h
    · rename_i hp
      have e := Option.some.inj h
      subst e
      refine ⟨⟨_, rfl⟩, fun s hs => ?_, ck_tg_ok ht hv ?_ ?_⟩
      · rcases List.mem_append.mp hs with q | q
        · exact hg s q
        · rw [List.mem_singleton.mp q]; exact hv.1
      · simp [ck_pl, hp]
      · simp [hp]
    · split at h
      · rename_i hp
        have e := Option.some.inj h
        subst e
        refine ⟨⟨[], by simp⟩, hg, ck_tg_ok ht hv ?_ (List.getElem?_eq_some_iff.mp hp).1⟩
        simp [ck_pl, List.getD_eq_getElem?_getD, hp]
      · cases h
  · cases h
theorem ck_mvs_ok {ws : va_W} {sh : List Nat} {sc : ck_sc} {n : ck_N} {N : Nat} : ∀ {ps vs : List ck_V} {xs : List Value} {g g1 : List Nat}, ck_mvs g ps vs = some g1 → ck_two (ck_vo ws sh sc n N) vs xs → (∀ s ∈ g, s < N) →
    (∃ t, g1 = g ++ t) ∧ (∀ s ∈ g1, s < N) ∧ ck_two (ck_vo ws sh sc (ck_pl g1 n) g1.length) ps xs
  | [], [], [], g, g1, h, _, hg => by
    have e := Option.some.inj h
    subst e
    exact ⟨⟨[], by simp⟩, hg, trivial⟩
  | p :: ps, v :: vs, x :: xs, g, g1, h, hv, hg => by
    rw [ck_mvs] at h
    split at h
    · rename_i g2 h2
      obtain ⟨⟨t, rfl⟩, a2, a3⟩ := ck_mv_ok h2 hv.1 hg
      obtain ⟨⟨u, rfl⟩, b2, b3⟩ := ck_mvs_ok h hv.2 a2
      exact ⟨⟨t ++ u, by rw [List.append_assoc]⟩, b2, a3.up ck_pl_pre (by simp), b3⟩
    · cases h
  | [], [], _ :: _, _, _, _, hv, _ => hv.elim
  | [], _ :: _, _, _, _, h, _, _ => by cases h
  | _ :: _, [], _, _, _, h, _, _ => by cases h
  | _ :: _, _ :: _, [], _, _, _, hv, _ => hv.elim
theorem ck_eq2_ok {F : Nat} {E : ck_E} {R : List ck_R} {n : ck_N} {N : Nat} (hE : ck_eo E n) (hR : ck_ro R n N) {a b : Nat} (h : ck_eq2 F E R a b = true) : (n a).1 = (n b).1 := by
  unfold ck_eq2 at h
  rw [Bool.or_eq_true, Bool.and_eq_true] at h
  rcases h with h | ⟨h1, h2⟩
  · rw [eq_of_beq h]
  · have p1 := ck_ent_ok hE hR F a b _ h1
    have p2 := ck_ent_ok hE hR F b a _ h2
    omega
theorem ck_nl_ok {F : Nat} {E : ck_E} {R : List ck_R} {n : ck_N} {N : Nat} (hE : ck_eo E n) (hR : ck_ro R n N) : ∀ {l l' g g1 : List Nat}, ck_nl F E R g l l' = some g1 → (∀ s ∈ g, s < N) → (∀ s ∈ l', s < N) →
    (∃ t, g1 = g ++ t) ∧ (∀ s ∈ g1, s < N) ∧ (∀ s ∈ l, s < g1.length) ∧ l.map (fun j => (ck_pl g1 n j).1) = l'.map (fun j => (n j).1)
  | [], [], g, g1, h, hg, _ => by
    have e := Option.some.inj h
    subst e
    exact ⟨⟨[], by simp⟩, hg, fun s hs => (by cases hs), rfl⟩
  | x :: xs, y :: ys, g, g1, h, hg, hl => by
    rw [ck_nl] at h
    have hl' : ∀ s ∈ ys, s < N := fun s hs => hl s (List.mem_cons_of_mem _ hs)
    split at h
    · rename_i hx
      obtain ⟨⟨t, rfl⟩, b2, b3, b4⟩ := ck_nl_ok hE hR h (fun s hs => by
        rcases List.mem_append.mp hs with q | q
        · exact hg s q
        · rw [List.mem_singleton.mp q]; exact hl y List.mem_cons_self) hl'
      refine ⟨⟨y :: t, by simp⟩, b2, fun s hs => ?_, ?_⟩
      · rcases List.mem_cons.mp hs with rfl | hs
        · simp [hx]
        · exact b3 s hs
      · rw [List.map_cons, List.map_cons, b4]
        congr 2
        show n _ = n _
        congr 1
        rw [hx, List.getD_eq_getElem?_getD, List.append_assoc, List.getElem?_append_right (Nat.le_refl _)]
        simp
    · split at h
      · rename_i a ha
        split at h
        · rename_i he
          obtain ⟨⟨t, rfl⟩, b2, b3, b4⟩ := ck_nl_ok hE hR h hg hl'
          have hlt := (List.getElem?_eq_some_iff.mp ha).1
          refine ⟨⟨t, rfl⟩, b2, fun s hs => ?_, ?_⟩
          · rcases List.mem_cons.mp hs with rfl | hs
            · rw [List.length_append]; omega
            · exact b3 s hs
          · rw [List.map_cons, List.map_cons, b4]
            congr 1
            rw [← ck_eq2_ok hE hR he]
            show (n _).1 = _
            congr 2
            rw [List.getD_eq_getElem?_getD, List.getElem?_append_left hlt, ha]
            rfl
        · cases h
      · cases h
  | [], _ :: _, _, _, h, _, _ => by cases h
  | _ :: _, [], _, _, h, _, _ => by cases h
theorem ck_ntg_ok {F : Nat} {E : ck_E} {R : List ck_R} {n : ck_N} {N : Nat} (hE : ck_eo E n) (hR : ck_ro R n N) (h0 : (n 0).1 = 0) {tag : Nat} {v : ck_V} {f : Nat → Int32} (h : ck_ntg F E R tag v = true) (hn : ck_nt v.1 f (n v.2.1).1 (v.2.2.map (fun j => (n j).1))) : ck_nt tag f (n v.2.1).1 (v.2.2.map (fun j => (n j).1)) := by
  unfold ck_ntg at h
  rw [Bool.or_eq_true, Bool.and_eq_true, decide_eq_true_eq] at h
  rcases h with h | ⟨⟨hq1, hq2⟩, h⟩
  · rw [eq_of_beq h]
    exact hn
  unfold ck_nt at hn ⊢
  rw [if_pos hq2] at hn
  rw [if_pos hq1]
  rw [Bool.or_eq_true, decide_eq_true_eq, Bool.or_eq_true, Bool.and_eq_true] at h
  revert hn
  generalize hl : v.2.2.map (fun j => (n j).1) = l
  intro hn
  unfold ck_ng at hn ⊢
  split at hn
  · rename_i c o
    obtain ⟨n1, n2, n3, n4, n5, n6, n7⟩ := hn
    refine ⟨n1, n2, n3, n4, n5, fun ht hm => ?_, fun ht => ?_⟩
    · rcases h with h | ⟨h1, h2⟩ | h
      · exact n6 (Nat.le_trans ht h) hm
      · have p := ck_ent_ok hE hR F _ _ _ h2
        rw [h0] at p
        omega
      · simp only [Bool.and_eq_true, beq_iff_eq] at h
        exact n6 (by rw [h.2.1]; decide) hm
    · rcases h with h | ⟨h1, h2⟩ | h
      · exact n7 (Nat.le_trans ht h)
      · rw [eq_of_beq h1] at ht
        exact absurd ht (by decide)
      · simp only [Bool.and_eq_true, beq_iff_eq] at h
        obtain ⟨-, h1, h2, h3⟩ := h
        have p := ck_ent_ok hE hR F _ _ _ h2
        rw [h0] at p
        have hm : 0 < (n v.2.1).1.toNat := by omega
        refine ⟨hm, ?_⟩
        split at h3
        · rename_i a b hab
          rw [hab] at hl
          have p2 := ck_ent_ok hE hR F _ _ _ h3
          rw [h0] at p2
          have eo : (n b).1 = o := by
            have := congrArg (fun z : List Int => z[1]?) hl
            simpa using this
          have nz : ck_cn (fun x => x == 40) f (n v.2.1).1.toNat = 0 := by omega
          obtain ⟨k, hk⟩ : ∃ k, (n v.2.1).1.toNat = k + 1 := ⟨(n v.2.1).1.toNat - 1, by omega⟩
          rw [hk] at nz n4 n6 ⊢
          have n6 := n6 (by rw [h1]; decide) (Nat.succ_pos _)
          rw [Nat.add_sub_cancel] at n6 ⊢
          rcases n4 k (Nat.lt_succ_self _) with z | z | z
          · exact z
          · unfold ck_cn at nz
            rw [z] at nz
            simp at nz
          · exact absurd z n6
        · cases h3
  · exact hn.elim
theorem ck_mms_ok {SG : List Nat} {ws : va_W} {sh : List Nat} {sc : ck_sc} {n : ck_N} {N : Nat} {mem : List ck_M} {F : Nat} {E : ck_E} {R : List ck_R} (hE : ck_eo E n) (hR : ck_ro R n N) (h0 : (n 0).1 = 0) (hm : ck_mo SG ws sh sc n N mem) : ∀ {ps : List ck_M} {g g1 : List Nat}, ck_mms F E R mem g ps = some g1 → (∀ s ∈ g, s < N) →
    (∃ t, g1 = g ++ t) ∧ (∀ s ∈ g1, s < N) ∧ ck_mo SG ws sh sc (ck_pl g1 n) g1.length ps
  | [], g, g1, h, hg => by
    have e := Option.some.inj h
    subst e
    exact ⟨⟨[], by simp⟩, hg, fun x hx => by cases hx⟩
  | p :: ps, g, g1, h, hg => by
    rw [ck_mms] at h
    split at h
    · rename_i h20
      split at h
      · rename_i g2 hf
        obtain ⟨m, hmem, h2⟩ := List.exists_of_findSome?_eq_some hf
        unfold ck_nm at h2
        split at h2
        · rename_i hc
          simp only [Bool.and_eq_true, beq_iff_eq, decide_eq_true_eq] at hc
          obtain ⟨e1, e2, e3, e4, e5⟩ := hc
          rcases hm m hmem with ⟨-, -, ⟨z, -⟩ | ⟨z, -⟩⟩ | ⟨-, -, q, a', o, v, -, -, -, c4⟩ | ⟨c0, c1, c2, c3, c4, c5, q, a', cA, len, f, c6, c7, c8⟩
          · omega
          · omega
          · exfalso
            unfold ck_vo at c4
            have c4 := c4.2
            split at c4 <;> omega
          · obtain ⟨⟨t, rfl⟩, a2, a3, a4⟩ := ck_nl_ok hE hR h2 hg (fun s hs => by
              rcases List.mem_cons.mp hs with rfl | hs
              · exact c4
              · exact c5 s hs)
            obtain ⟨⟨u, rfl⟩, b2, b3⟩ := ck_mms_ok hE hR h0 hm h a2
            rw [List.map_cons, List.map_cons, List.cons.injEq] at a4
            have hlt := a3 p.2.2.2.1 List.mem_cons_self
            have a3' : ∀ j ∈ p.2.2.2.2, j < (g ++ t).length := fun j hj => a3 j (List.mem_cons_of_mem _ hj)
            have hps : (ck_pl (g ++ t ++ u) n p.2.2.2.1).1 = (n m.2.2.2.1).1 := by rw [ck_pl_pre _ hlt]; exact a4.1
            refine ⟨⟨t ++ u, by rw [List.append_assoc]⟩, b2, fun x hx => ?_⟩
            rcases List.mem_cons.mp hx with rfl | hx
            · refine Or.inr (Or.inr ⟨h20, by rw [← e1]; exact c1, by rw [← e1]; exact c2, e3, Nat.lt_of_lt_of_le hlt (by simp), fun j hj => Nat.lt_of_lt_of_le (a3' j hj) (by simp), q, a', cA, len, f, by rw [← e1]; exact c6, c7, ?_⟩)
              rw [hps, List.map_congr_left (g := fun j => (ck_pl (g ++ t) n j).1) (fun j hj => by rw [ck_pl_pre j (a3' j hj)]), a4.2]
              exact ck_ntg_ok hE hR h0 e5 c8
            · exact b3 x hx
        · cases h2
      · cases h
    split at h
    · rename_i m hf
      split at h
      · rename_i g2 h2
        have hmem := List.mem_of_find?_eq_some hf
        have hp := List.find?_some hf
        simp only [Bool.and_eq_true, Bool.not_eq_true', beq_eq_false_iff_ne, ne_eq, beq_iff_eq] at hp
        obtain ⟨e1, e2, e3⟩ := hp
        rcases hm m hmem with ⟨z, -⟩ | ⟨-, hg0, q, a, o, v, c1, c2, c3, c4⟩ | ⟨c0, -⟩
        · exact absurd z e3
        rotate_left
        · exfalso
          unfold ck_mv at h2
          split at h2
          · rename_i ht
            unfold ck_tg at ht
            split at ht <;> first | (cases ht; done) | (simp only [Bool.and_eq_true, Bool.or_eq_true, beq_iff_eq] at ht; omega)
          · cases h2
        obtain ⟨⟨t, rfl⟩, a2, a3⟩ := ck_mv_ok h2 c4 hg
        obtain ⟨⟨u, rfl⟩, b2, b3⟩ := ck_mms_ok hE hR h0 hm h a2
        refine ⟨⟨t ++ u, by rw [List.append_assoc]⟩, b2, fun x hx => ?_⟩
        rcases List.mem_cons.mp hx with rfl | hx
        · exact Or.inr (Or.inl ⟨by rw [← e1]; exact e3, by rw [← e1]; exact hg0, q, a, o, v, by rw [← e1]; exact c1, c2, by rw [← e2]; exact c3, a3.up ck_pl_pre (by simp)⟩)
        · exact b3 x hx
      · cases h
    · cases h
theorem ck_ce_ok {F : Nat} {E : ck_E} {R : List ck_R} {n : ck_N} {N : Nat} (hE : ck_eo E n) (hR : ck_ro R n N) (h0 : (n 0).1 = 0) : ∀ {g : List Nat} {l : ck_E}, ck_ce F E R g l = true → ck_eo l (ck_pl g n)
  | _, [], _ => fun k x hx => by simp at hx
  | [], _ :: _, h => by cases h
  | s :: g, y :: l, h => by
    rw [ck_ce, Bool.and_eq_true, Bool.or_eq_true, Bool.and_eq_true] at h
    intro k x hx hle
    cases k with
    | zero =>
      rw [List.getElem?_cons_zero, Option.some.injEq] at hx
      subst hx
      rcases h.1 with q | ⟨q1, q2⟩
      · exact absurd hle (by have := of_decide_eq_true q; omega)
      · have p1 := ck_ent_ok hE hR F s 0 _ q1
        have p2 := ck_ent_ok hE hR F 0 s _ q2
        rw [h0] at p1 p2
        show _ ≤ (n s).1 ∧ (n s).1 ≤ _
        omega
    | succ k =>
      rw [List.getElem?_cons_succ] at hx
      exact ck_ce_ok hE hR h0 h.2 k x hx hle
theorem ck_ce_len {F : Nat} {E : ck_E} {R : List ck_R} : ∀ {g : List Nat} {l : ck_E}, ck_ce F E R g l = true → l.length ≤ g.length
  | _, [], _ => Nat.zero_le _
  | [], _ :: _, h => by cases h
  | s :: g, y :: l, h => by
    rw [ck_ce, Bool.and_eq_true] at h
    exact Nat.succ_le_succ (ck_ce_len h.2)
theorem ck_cr_ok {F : Nat} {E : ck_E} {R : List ck_R} {n : ck_N} {N : Nat} (hE : ck_eo E n) (hR : ck_ro R n N) {g : List Nat} {rs : List ck_R} (h : ck_cr F E R g rs = true) : ck_ro rs (ck_pl g n) g.length := by
  intro r hr
  have h1 := List.all_eq_true.mp h r hr
  split at h1
  · rename_i a b ha hb
    refine ⟨(List.getElem?_eq_some_iff.mp ha).1, (List.getElem?_eq_some_iff.mp hb).1, ?_⟩
    have := ck_ent_ok hE hR F a b _ h1
    simpa [ck_pl, List.getD_eq_getElem?_getD, ha, hb] using this
  · cases h1
/-- a pattern is met by a valuation, and these values -/
def ck_po (SG : List Nat) (ws : va_W) (sh : List Nat) (sc : ck_sc) (n : ck_N) (N : Nat) (P : ck_P) (xs : List Value) : Prop :=
  ck_two (ck_vo ws sh sc n N) P.1 xs ∧ ck_mo SG ws sh sc n N P.2.1 ∧ ck_eo P.2.2.1 n ∧ ck_ro P.2.2.2 n N
theorem ck_mt_ok {nL : Nat} {SG : List Nat} {S : ck_S} {n : ck_N} {ws : va_W} {sh : List Nat} {sc : ck_sc} {ls : Array Slot} {ss : List Value} (h : ck_so nL SG S n ws sh sc ls ss) {F : Nat} {g0 g : List Nat} {vs : List ck_V} {P : ck_P} {xs : List Value} (hm : ck_mt F S g0 vs P = some g)
    (hv : ck_two (ck_vo ws sh sc n S.2.2.2.1.length) vs xs) (hg : ∀ s ∈ g0, s < S.2.2.2.1.length) :
    (∃ t, g = g0 ++ t) ∧ (∀ s ∈ g, s < S.2.2.2.1.length) ∧ ck_po SG ws sh sc (ck_pl g n) g.length P xs := by
  unfold ck_mt at hm
  split at hm
  · rename_i g1 h1
    obtain ⟨⟨t, rfl⟩, a2, a3⟩ := ck_mvs_ok h1 hv hg
    split at hm
    · rename_i g2 h2
      obtain ⟨⟨u, rfl⟩, b2, b3⟩ := ck_mms_ok h.2.2.2.2.1 h.2.2.2.2.2 h.1.2 h.2.2.2.1 h2 a2
      split at hm
      · rename_i h3
        have e := Option.some.inj hm
        subst e
        rw [Bool.and_eq_true] at h3
        exact ⟨⟨t ++ u, by rw [List.append_assoc]⟩, b2, a3.imp (fun a b hab => hab.up ck_pl_pre (by simp)), b3, ck_ce_ok h.2.2.2.2.1 h.2.2.2.2.2 h.1.2 h3.1, ck_cr_ok h.2.2.2.2.1 h.2.2.2.2.2 h3.2⟩
      · cases hm
    · cases hm
  · cases hm
/-- a sum, a difference .. -/
theorem ck_same_ok {R : List ck_R} {n : ck_N} {N : Nat} (hR : ck_ro R n N) {a k : Nat} {c : Int} (h : ck_same R a c = some k) : k < N ∧ (n k).1 = (n a).1 + c := by
  unfold ck_same at h
  cases hf : R.find? (fun r => r.2.1 == a && (r.2.2 == c && R.any (fun q => q.1 == a && (q.2.1 == r.1 && q.2.2 == -c)))) with
  | none => rw [hf] at h; cases h
  | some r =>
    rw [hf] at h
    have e : r.1 = k := Option.some.inj h
    have hm := List.mem_of_find?_eq_some hf
    have hp := List.find?_some hf
    simp only [Bool.and_eq_true, beq_iff_eq, List.any_eq_true] at hp
    obtain ⟨e1, e2, q, hq, e3, e4, e5⟩ := hp
    have h1 := hR r hm
    have h2 := (hR q hq).2.2
    rw [e3, e4, e5] at h2
    have h3 := h1.2.2
    rw [e1, e2] at h3
    subst e
    exact ⟨h1.1, by omega⟩
theorem ck_binS_ok {nL : Nat} {SG : List Nat} {S S' : ck_S} {n : ck_N} {ws : va_W} {sh : List Nat} {sc : ck_sc} {ls : Array Slot} {ss vs : List Value} {st : List ck_V} (h : ck_so nL SG S n ws sh sc ls ss) (hs : ck_two (ck_vo ws sh sc n S.2.2.2.1.length) st vs)
    {w op tag a b : Nat} (hb : ck_binS w op S st tag a b = some S') (ha : a < S.2.2.2.1.length) (hbl : b < S.2.2.2.1.length) {v : Value} {Z : Int}
    (hz : ∀ x y : Int × Int, ck_in x (n a).1 → ck_in y (n b).1 → ck_in (ck_bin w op x y) Z ∧ (op = 0 → ((ck_bin w op x y).1 = x.1 + y.1 ∧ (ck_bin w op x y).2 = x.2 + y.2) → Z = (n a).1 + (n b).1) ∧ (op = 1 → ((ck_bin w op x y).1 = x.1 - y.2 ∧ (ck_bin w op x y).2 = x.2 - y.1) → Z = (n a).1 - (n b).1) ∧ (op = 6 → (1 ≤ x.1 ∧ y.1 = y.2 ∧ 1 ≤ y.1 ∧ (ck_bin w op x y).1 = x.1 * 2 ^ y.1.toNat ∧ (ck_bin w op x y).2 = x.2 * 2 ^ y.2.toNat) → (n a).1 + 1 ≤ Z))
    (h3 : op = 3 → 0 ≤ (n b).1 → Z ≤ (n b).1) (h4 : op = 4 → 0 ≤ (n a).1 → 0 ≤ (n b).1 → (n a).1 ≤ Z) (hv : ∀ (m : ck_N) (M k : Nat), k < M → (m k).1 = Z → ck_vo ws sh sc m M (tag, k, []) v) :
    ∃ n', ck_so nL SG S' n' ws sh sc ls (v :: vs) ∧ S'.2.2.2.2.2 = S.2.2.2.2.2 ∧ (∀ k, k < S.2.2.2.1.length → n' k = n k) ∧ S.2.2.2.1.length ≤ S'.2.2.2.1.length := by
  unfold ck_binS at hb
  split at hb
  · rename_i x y hx hy
    split at hb
    · rename_i hxy
      have ix := h.2.2.2.2.1 a x hx hxy.1
      have iy := h.2.2.2.2.1 b y hy hxy.2
      obtain ⟨z1, z2, z3, z6⟩ := hz x y ix iy
      dsimp only at hb
      split at hb
      · rename_i k hk
        have e := Option.some.inj hb
        subst e
        split at hk
        · rename_i hc
          obtain ⟨q1, q2⟩ := ck_same_ok h.2.2.2.2.2 hk
          have hzz := z2 hc.1 hc.2.2
          have hbv : (n b).1 = y.1 := by have := iy.1; have := iy.2; have := hc.2.1; omega
          exact ⟨n, h.ss ⟨hv n _ k q1 (by rw [q2, hzz, hbv]), hs⟩, rfl, fun _ _ => rfl, Nat.le_refl _⟩
        · cases hk
      · have e := Option.some.inj hb
        subst e
        refine ⟨ck_nx n S.2.2.2.1.length (Z, .null), h.new hs (hv _ _ _ (Nat.lt_succ_self _) (by rw [ck_nx_eq])) (fun _ => z1) ?_, rfl, ck_nx_lt, by simp [ck_new]⟩
        intro q hq
        obtain ⟨r1, r2, r3⟩ := ck_rel_ok (v := fun k => (ck_nx n S.2.2.2.1.length (Z, .null) k).1) ix iy z2 z3 h3 h4 z6 (by rw [ck_nx_lt a ha]) (by rw [ck_nx_lt b hbl]) (by rw [ck_nx_eq]) q hq
        refine ⟨?_, ?_, r3⟩
        · rcases r1 with e | e | e <;> omega
        · rcases r2 with e | e | e <;> omega
    · cases hb
  · cases hb
end
