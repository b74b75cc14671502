section
variable {p : Program} {l : Launch} {e : Env} {R : Room} {s : State} {m : MethodId} {args : Array Value} {below : List Frame} {meth : Method} {c : Code} {Q : State → Prop} {cc : ByteArray} {own : String} {D : va_G} {cl : List vw_C} {tys : List (ClassId × FieldType)} {M : ck_Me} {sc : ck_sc} {A : Nat → Prop} {ws0 : va_W} {sh0 : List Nat} {Fc : Nat → Nat × fR} {s0 : fS} {k : ck_S → Bool} {S : ck_S} {pc pc' : Nat}
theorem ck_fit_ok {nL : Nat} {SG : List Nat} {n : ck_N} {ws : va_W} {sh : List Nat} {ls : Array Slot} {vs : List Value} (o : ck_so nL SG S n ws sh sc ls vs) {F : Nat} {t : ck_T} {v : ck_V} {x : Value} (h : ck_fit F S t v = true) (hv : ck_vo ws sh sc n S.2.2.2.1.length v x) : ck_fo ws sh t x := by
  unfold ck_fit at h
  unfold ck_fo
  split at h
  · rename_i e
    rw [Bool.and_eq_true, Bool.and_eq_true] at h
    obtain ⟨-, z, rfl, ez⟩ := hv.i (eq_of_beq h.1)
    have p1 := ck_ent_ok o.2.2.2.2.1 o.2.2.2.2.2 F _ _ _ h.2.1
    have p2 := ck_ent_ok o.2.2.2.2.1 o.2.2.2.2.2 F _ _ _ h.2.2
    rw [o.1.2] at p1 p2
    rw [e]
    exact ⟨z, rfl, by rw [ez]; omega, by rw [ez]; omega⟩
  · rename_i e
    obtain ⟨-, z, rfl, ez⟩ := hv.j (eq_of_beq h)
    rw [e]
    exact ⟨z, rfl⟩
  · rename_i e
    rw [Bool.and_eq_true] at h
    obtain ⟨-, -, h2⟩ := hv.r (eq_of_beq h.1)
    rw [e]
    exact h2.sub fun t ht => List.contains_iff_mem.mp (List.all_eq_true.mp h.2 t ht)
  · rename_i e
    rw [e]
    rw [Bool.or_eq_true, Bool.and_eq_true, Bool.or_eq_true] at h
    have hv2 := hv
    unfold ck_vo at hv2
    rcases h with h | ⟨h | h, h3⟩
    · rw [eq_of_beq h] at hv2
      exact Or.inl hv2.2.2
    · obtain ⟨-, -, h2⟩ := hv.r (eq_of_beq h)
      exact Or.inr (h2.sub fun t ht => List.contains_iff_mem.mp (List.all_eq_true.mp h3 t ht))
    · rw [eq_of_beq h] at hv2
      exact hv2.2.2.imp id (·.sub fun t ht => List.contains_iff_mem.mp (List.all_eq_true.mp h3 t ht))
  · cases h
theorem ck_putT_ok {i t : Nat} {x : Nat × Nat × ck_T} (h : ck_putT M i t = some x) : ∃ td, (mTT M)[t]? = some td ∧ td.1 = 0 ∧ (i, td.2.1, x.1, x.2.1) ∈ mpl M ∧ td.2.2.2[x.1]? = some x.2.2 := by
  unfold ck_putT at h
  split at h
  · rename_i td htd
    split at h
    · rename_i h0
      split at h
      · rename_i z hz
        have hm := List.mem_of_find?_eq_some hz
        have hp := List.find?_some hz
        simp only [Bool.and_eq_true, beq_iff_eq] at hp
        cases hy : td.2.2.2[z.2.2.1]? with
        | none => rw [hy] at h; cases h
        | some y =>
          rw [hy] at h
          have e := Option.some.inj h
          subst e
          refine ⟨td, htd, h0, ?_, hy⟩
          rw [← hp.1, ← hp.2]
          exact hm
      · cases h
    · cases h
  · cases h
theorem ck_nar_b {z : Int32} (h0 : 0 ≤ z.toInt) (h1 : z.toInt ≤ 1) : narrow .boolean (.int z) = .int z ∧ fits .boolean (.int z) = true := by
  have e : z = Int32.ofNat z.toInt.toNat := ck_i32 h0
  have hc : z.toInt.toNat = 0 ∨ z.toInt.toNat = 1 := by omega
  rcases hc with q | q <;> (rw [q] at e; subst e; exact ⟨by rfl, by rfl⟩)
/-- the memory behind a putfield -/
theorem ck_put_ok (X : ck_cx p l e R s m args below meth c cc own D cl tys M sc A) (hpl : ∀ x ∈ mpl M, ck_hp s args own cl (meth.name = "<init>") x) {i : Nat} (h : ck_put M i S k = true) (hk : ∀ S, k S = true → ck_g Fc s0 p l e R s m args below meth c Q D cl tys M sc A ws0 sh0 S (pc + 3)) (hdg : decode cc pc = .ok (.putfield i, 3)) : ck_g Fc s0 p l e R s m args below meth c Q D cl tys M sc A ws0 sh0 S pc := by
  intro n ws sh H locs ls vs o hw hx hP hD hS
  obtain ⟨x1, x2, x3, x4, x5, -⟩ := X
  unfold ck_put at h
  split at h
  · rename_i v r st hst
    have o3 := o.2.2.1
    rw [hst] at o3
    obtain ⟨u, vs1, rfl, h2, h3⟩ := ck_hd o3
    obtain ⟨ra, vs2, rfl, h4, h5⟩ := ck_hd h3
    rw [Bool.and_eq_true, Bool.and_eq_true] at h
    obtain ⟨hr2, hall, hcont⟩ := h
    obtain ⟨-, -, q, a, e, t, rfl, hq, ht, htm⟩ := h4.r (eq_of_beq hr2)
    have h6 := List.all_eq_true.mp hall t htm
    split at h6
    · rename_i x hxT
      rw [Bool.and_eq_true, Bool.and_eq_true] at h6
      obtain ⟨hwr, hfit, hty⟩ := h6
      obtain ⟨td, f1, f2, f3, f4⟩ := ck_putT_ok hxT
      obtain ⟨td', g1, g2⟩ := hw.2.1 q a e t hq ht
      have e1 : td' = td := Option.some.inj (g1.symm.trans f1)
      subst e1
      have g2' := g2
      unfold ck_co at g2
      rw [f2] at g2
      obtain ⟨fs, rfl, g3, g4⟩ := g2
      have hfo := ck_fit_ok o hfit h2
      obtain ⟨C, T0, N0, ref, Ts, ty0, l1, l2, l3, l4, l5, l6, l7, l8, l9⟩ := hpl _ f3
      have hlen : x.1 < fs.length := by rw [g3]; exact (List.getElem?_eq_some_iff.mp f4).1
      have hnf : narrow (ty0 x.1) u = u ∧ fits (ty0 x.1) u = true := by
        dsimp only at l9 hty
        split at l9
        · rename_i eb
          rw [eb] at hty
          have hty := eq_of_beq hty
          unfold ck_fo at hfo
          rw [hty] at hfo
          obtain ⟨z, rfl, -⟩ := hfo
          rw [l9]
          exact ⟨rfl, rfl⟩
        · rename_i eb
          rw [eb] at hty
          simp only [Bool.and_eq_true, beq_iff_eq, decide_eq_true_eq] at hty
          unfold ck_fo at hfo
          rw [hty.1] at hfo
          obtain ⟨z, rfl, p1, p2⟩ := hfo
          rw [l9]
          exact ck_nar_b (Int.le_trans hty.2.1 p1) (Int.le_trans p2 hty.2.2)
        · have hrn : u = .null ∨ ∃ b : Nat, u = .ref b := by
            have hty2 : x.2.2.1 = 2 ∨ x.2.2.1 = 3 := by
              revert hty
              split
              · rename_i z1 z2; exact absurd z2 (by assumption)
              · rename_i z1 z2; exact absurd z2 (by assumption)
              · intro hty
                rw [Bool.or_eq_true] at hty
                exact hty.imp eq_of_beq eq_of_beq
            unfold ck_fo at hfo
            rcases hty2 with z | z
            · rw [z] at hfo
              obtain ⟨_, b, _, _, rfl, -⟩ := hfo
              exact Or.inr ⟨b, rfl⟩
            · rw [z] at hfo
              rcases hfo with rfl | ⟨_, b, _, _, rfl, -⟩
              · exact Or.inl rfl
              · exact Or.inr ⟨b, rfl⟩
          rcases l9 with ⟨C', l9⟩ | ⟨t', l9⟩ <;> rw [l9] <;> rcases hrn with rfl | ⟨b, rfl⟩ <;> exact ⟨rfl, rfl⟩
      have hsm : ck_sm (mWr M) t (.inr (td'.2.1, fs)) (.inr (td'.2.1, fs.set x.1 u)) := by
        refine ⟨rfl, fun j hj => ?_⟩
        have hne : x.1 ≠ j := fun z => hj (by rw [← z]; exact List.contains_iff_mem.mp hwr)
        exact List.getElem?_set_ne hne
      have hco : ck_co tys ws sh td' (.inr (td'.2.1, fs.set x.1 u)) := by
        unfold ck_co
        rw [f2]
        refine ⟨_, rfl, by rw [List.length_set]; exact g3, fun j tj hj => ?_⟩
        by_cases ej : x.1 = j
        · subst ej
          rw [f4] at hj
          have := Option.some.inj hj
          subst this
          exact ⟨u, by simp [hlen], hfo⟩
        · obtain ⟨w, w1, w2⟩ := g4 j tj hj
          exact ⟨w, by rw [List.getElem?_set_ne ej]; exact w1, w2⟩
      obtain ⟨hw', hx'⟩ := ck_wo_set (Wr := mWr M) hw hq ht hsm f1 hco
      have go : ∀ (H1 : Heap) (locs1 : List Loc), va_P D cl (ws.set q (a, .inr (td'.2.1, fs.set x.1 u))) H1 → va_D A (ws.set q (a, .inr (td'.2.1, fs.set x.1 u))) → va_S A s.heap H1 locs1 → WG (tM M Fc sc.1) s0 p l e R s m args below meth c (ws.set q (a, .inr (td'.2.1, fs.set x.1 u))) sh H1 locs1 (ck_oc R M + S.2.2.2.2.2.1) (ck_os R M + S.2.2.2.2.2.2) Q ((pc + 3), ls, vs2) := by
        intro H1 locs1 hP1 hD1 hS1
        refine ck_g.at (hk _ hcont) ⟨o.1, o.2.1.mv hx', h5.imp fun _ _ z => z.mv hx', ?_, o.2.2.2.2⟩ hw' (hx.tr (fun _ z => z) hx') hP1 hD1 hS1 rfl
        intro z hz
        rcases List.mem_append.mp hz with hz | hz
        · split at hz
          · rename_i t1 ht1
            split at hz
            · rename_i hsg
              simp only [Bool.and_eq_true, Bool.not_eq_true', beq_eq_false_iff_ne, ne_eq] at hsg
              split at hz
              · rename_i x' hx'T
                have ez := List.mem_singleton.mp hz
                subst ez
                rw [ht1] at htm
                have e2 := List.mem_singleton.mp htm
                subst e2
                rw [hxT] at hx'T
                have e3 := Option.some.inj hx'T
                subst e3
                refine Or.inr (Or.inl ⟨hsg.1.1.1.2, List.contains_iff_mem.mp hsg.1.1.1.1, q, a, (td'.2.1, fs.set x.1 u), u, ht, ?_, ?_, h2.mv hx'⟩)
                · rw [List.getElem?_set_self (List.getElem?_eq_some_iff.mp hq).1]
                · simp [hlen]
              · cases hz
            · cases hz
          · cases hz
        · obtain ⟨hz1, hz2⟩ := List.mem_filter.mp hz
          rcases o.2.2.2.1 z hz1 with q1 | ⟨z0, z1, q1, a1, o1, v1, z2, z3, z4, z5⟩ | ⟨y0, y1, y2, y3, y4, y5, q1, a1, cA1, len1, f1, y6, y7, y8⟩
          · exact Or.inl q1
          rotate_left
          · refine Or.inr (Or.inr ⟨y0, y1, y2, y3, y4, y5, q1, a1, cA1, len1, f1, y6, ?_, y8⟩)
            rw [List.getElem?_set_ne (fun eq => by rw [eq] at hq; rw [hq] at y7; cases y7)]
            exact y7
          · rw [Bool.or_eq_true] at hz2
            rcases hz2 with hz2 | hz2
            · exact absurd (eq_of_beq hz2) z0
            · rw [Bool.not_eq_true', List.any_eq_false] at hz2
              by_cases eq : q = q1
              · subst eq
                rw [hq] at z3
                cases z3
                rw [ht] at z2
                have e2 := Option.some.inj z2
                have hne : x.1 ≠ z.2.1 := by
                  intro en
                  refine hz2 t htm ?_
                  rw [hxT, e2]
                  simp [en]
                refine Or.inr (Or.inl ⟨z0, z1, q, a, (td'.2.1, fs.set x.1 u), v1, by rw [ht, e2], ?_, ?_, z5.mv hx'⟩)
                · rw [List.getElem?_set_self (List.getElem?_eq_some_iff.mp hq).1]
                · dsimp only
                  rw [List.getElem?_set_ne hne]
                  exact z4
              · refine Or.inr (Or.inl ⟨z0, z1, q1, a1, o1, v1, z2, ?_, z4, z5.mv hx'⟩)
                rw [List.getElem?_set_ne eq]
                exact z3
      intro lg hl hg
      have go : ∀ (H1 : Heap) (locs1 : List Loc), va_P D cl (ws.set q (a, .inr (td'.2.1, fs.set x.1 u))) H1 → va_D A (ws.set q (a, .inr (td'.2.1, fs.set x.1 u))) → va_S A s.heap H1 locs1 → W p l e R s m args below meth c H1 locs1 (ck_oc R M + S.2.2.2.2.2.1) (ck_os R M + S.2.2.2.2.2.2) Q (F0 m (pc + 3) ls vs2) :=
        fun H1 locs1 hP1 hD1 hS1 => go H1 locs1 hP1 hD1 hS1 lg hl (hg.nx x2 hdg ⟨u, a, _, q, _, x.1, x.2.1, fs, rfl, hq, f3, hlen, rfl⟩)
      rcases l7 with ⟨lk, lf | ⟨lf, li, lo⟩⟩ | ⟨lf, host, lk⟩
      · exact va_put x1 x2 l1 l2 ty0 l3 l4 x3 x4 hP hD hS q hq l5 x.1 l6 lk l8 lf (l3 _ l6) hnf.1 hnf.2 hlen hdg go
      · exact va_putF x1 x2 l1 l2 ty0 l3 l4 x3 x4 hP hD hS q hq l5 x.1 l6 lk l8 lf li lo (l3 _ l6) hnf.1 hnf.2 hlen hdg go
      · exact va_putN x1 x2 l1 l2 ty0 l3 l4 x3 x4 hP hD hS q hq l5 x.1 l6 lk l8 lf (l3 _ l6) hnf.1 hnf.2 hlen hdg go
    · cases h6
  · cases h
end
