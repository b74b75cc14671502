section
variable {p : Program} {l : Launch} {e : Env} {R : Room} {s : State} {m : MethodId} {args : Array Value} {below : List Frame} {meth : Method} {c : Code} {Q : State → Prop} {cc : ByteArray} {own : String} {D : va_G} {cl : List vw_C} {tys : List (ClassId × FieldType)} {M : ck_Me} {sc : ck_sc} {A : Nat → Prop} {ws0 : va_W} {sh0 : List Nat} {Fc : Nat → Nat × fR} {s0 : fS} {k : ck_S → Bool} {S : ck_S} {pc pc' : Nat}
theorem ck_g.at {S S' : ck_S} {pc : Nat} {n : ck_N} {ws : va_W} {sh : List Nat} {H : Heap} {locs : List Loc} {ls : Array Slot} {vs : List Value} (h : ck_g Fc s0 p l e R s m args below meth c Q D cl tys M sc A ws0 sh0 S' pc) (o : ck_so (mnL M) (mSG M) S' n ws sh sc ls vs) (hw : ck_wo tys (mTT M) (mSG M) ws sh) (hx : ck_ex (mWr M) ws0 sh0 ws sh) (hP : va_P D cl ws H) (hD : va_D A ws) (hS : va_S A s.heap H locs)
    (ec : S'.2.2.2.2.2 = S.2.2.2.2.2) : WG (tM M Fc sc.1) s0 p l e R s m args below meth c ws sh H locs (ck_oc R M + S.2.2.2.2.2.1) (ck_os R M + S.2.2.2.2.2.2) Q (pc, ls, vs) := by
  have := h n ws sh H locs ls vs o hw hx hP hD hS
  rw [ec] at this
  exact this
theorem ck_tgt_ok {pc : Nat} {off : Int} {k : Nat → Bool} (h : ck_tgt pc off k = true) : ∃ t : Nat, (pc : Int) + off = (t : Int) ∧ k t = true := by
  unfold ck_tgt at h
  rw [Bool.and_eq_true] at h
  have h1 := of_decide_eq_true h.1
  exact ⟨((pc : Int) + off).toNat, by omega, h.2⟩
theorem ck_cmI {cd : ClassFile.Cond} {x y : Int32} : ck_cm cd x.toInt y.toInt ↔ (match cd with | .eq => x = y | .ne => ¬ x = y | .lt => x < y | .ge => y ≤ x | .gt => y < x | .le => x ≤ y) := by
  cases cd
  · exact Int32.toInt_inj
  · exact not_congr Int32.toInt_inj
  · exact Int32.lt_iff_toInt_lt.symm
  · exact Int32.le_iff_toInt_le.symm
  · exact Int32.lt_iff_toInt_lt.symm
  · exact Int32.le_iff_toInt_le.symm
theorem ck_row_icmp {T : fT} (hexec : p.tables.exec = Jvm.exec) (hb : c.code = cc) {cd : ClassFile.Cond} {off : Int} {tgt : Nat} {x y : Int32} {ws : va_W} {sh : List Nat} {H : Heap} {locs : List Loc} {ls : Array Slot} {cells slots : Nat} {rest : List Value} (hdg : decode cc pc = .ok (.if_icmp cd off, 3)) (ht : (pc : Int) + off = (tgt : Int))
    (kt : ck_cm cd x.toInt y.toInt → WG T s0 p l e R s m args below meth c ws sh H locs cells slots Q (tgt, ls, rest)) (kf : ¬ ck_cm cd x.toInt y.toInt → WG T s0 p l e R s m args below meth c ws sh H locs cells slots Q (pc + 3, ls, rest)) : WG T s0 p l e R s m args below meth c ws sh H locs cells slots Q (pc, ls, (.int y :: .int x :: rest)) := by
  intro lg hl hg
  have kt' : ck_cm cd x.toInt y.toInt → W p l e R s m args below meth c H locs cells slots Q (F0 m tgt ls rest) := fun h => kt h lg hl (hg.nx hb hdg ⟨x, y, rest, rfl, Or.inl ⟨h, tgt, ht, rfl⟩⟩)
  have kf' : ¬ ck_cm cd x.toInt y.toInt → W p l e R s m args below meth c H locs cells slots Q (F0 m (pc + 3) ls rest) := fun h => kf h lg hl (hg.nx hb hdg ⟨x, y, rest, rfl, Or.inr ⟨h, rfl⟩⟩)
  have e := @ck_cmI cd x y
  cases cd
  · exact lv_icmp_eq hexec hb hdg ht (fun h => kt' (e.mpr h)) (fun h => kf' (fun z => h (e.mp z)))
  · exact lv_icmp_ne hexec hb hdg ht (fun h => kt' (e.mpr h)) (fun h => kf' (fun z => e.mp z h))
  · exact lv_icmp_lt hexec hb hdg ht (fun h => kt' (e.mpr h)) (fun h => kf' (fun z => h (e.mp z)))
  · exact lv_icmp_ge hexec hb hdg ht (fun h => kt' (e.mpr h)) (fun h => kf' (fun z => h (e.mp z)))
  · exact lv_icmp_gt hexec hb hdg ht (fun h => kt' (e.mpr h)) (fun h => kf' (fun z => h (e.mp z)))
  · exact lv_icmp_le hexec hb hdg ht (fun h => kt' (e.mpr h)) (fun h => kf' (fun z => h (e.mp z)))
theorem ck_row_if {T : fT} (hexec : p.tables.exec = Jvm.exec) (hb : c.code = cc) {cd : ClassFile.Cond} {off : Int} {tgt : Nat} {x : Int32} {ws : va_W} {sh : List Nat} {H : Heap} {locs : List Loc} {ls : Array Slot} {cells slots : Nat} {rest : List Value} (hdg : decode cc pc = .ok (.ifCond cd off, 3)) (ht : (pc : Int) + off = (tgt : Int))
    (kt : ck_cm cd x.toInt 0 → WG T s0 p l e R s m args below meth c ws sh H locs cells slots Q (tgt, ls, rest)) (kf : ¬ ck_cm cd x.toInt 0 → WG T s0 p l e R s m args below meth c ws sh H locs cells slots Q (pc + 3, ls, rest)) : WG T s0 p l e R s m args below meth c ws sh H locs cells slots Q (pc, ls, (.int x :: rest)) := by
  intro lg hl hg
  have kt' : ck_cm cd x.toInt 0 → W p l e R s m args below meth c H locs cells slots Q (F0 m tgt ls rest) := fun h => kt h lg hl (hg.nx hb hdg ⟨x, rest, rfl, Or.inl ⟨h, tgt, ht, rfl⟩⟩)
  have kf' : ¬ ck_cm cd x.toInt 0 → W p l e R s m args below meth c H locs cells slots Q (F0 m (pc + 3) ls rest) := fun h => kf h lg hl (hg.nx hb hdg ⟨x, rest, rfl, Or.inr ⟨h, rfl⟩⟩)
  have e := @ck_cmI cd x 0
  rw [Int32.toInt_zero] at e
  cases cd
  · exact lv_if_eq hexec hb hdg ht (fun h => kt' (e.mpr h)) (fun h => kf' (fun z => h (e.mp z)))
  · exact lv_if_ne hexec hb hdg ht (fun h => kt' (e.mpr h)) (fun h => kf' (fun z => e.mp z h))
  · exact lv_if_lt hexec hb hdg ht (fun h => kt' (e.mpr h)) (fun h => kf' (fun z => h (e.mp z)))
  · exact lv_if_ge hexec hb hdg ht (fun h => kt' (e.mpr h)) (fun h => kf' (fun z => h (e.mp z)))
  · exact lv_if_gt hexec hb hdg ht (fun h => kt' (e.mpr h)) (fun h => kf' (fun z => h (e.mp z)))
  · exact lv_if_le hexec hb hdg ht (fun h => kt' (e.mpr h)) (fun h => kf' (fun z => h (e.mp z)))
theorem ck_lg {x y : Int64} : (lg_cmp x y).toInt = if x.toInt < y.toInt then -1 else if x.toInt = y.toInt then 0 else 1 := by
  unfold lg_cmp
  split
  · rename_i h
    have h1 : y.toInt < x.toInt := Int64.lt_iff_toInt_lt.mp h
    rw [if_neg (by omega), if_neg (by omega)]
    decide
  · rename_i h
    have h1 : ¬ y.toInt < x.toInt := fun z => h (Int64.lt_iff_toInt_lt.mpr z)
    split
    · rename_i h2
      rw [h2, if_neg (by omega), if_pos rfl]
      decide
    · rename_i h2
      have h3 : ¬ x.toInt = y.toInt := fun z => h2 (Int64.toInt_inj.mp z)
      rw [if_pos (by omega)]
      decide
theorem ck_cm_lg {cd : ClassFile.Cond} {x y : Int64} : ck_cm cd (lg_cmp x y).toInt 0 ↔ ck_cm cd x.toInt y.toInt := by
  rw [ck_lg]
  cases cd <;> simp only [ck_cm] <;> split <;> (try split) <;> omega
theorem ck_iv_ok {nL : Nat} {SG : List Nat} {n : ck_N} {ws : va_W} {sh : List Nat} {ls : Array Slot} {vs : List Value} (h : ck_so nL SG S n ws sh sc ls vs) {a : Nat} {lo hi : Int} {k : ck_S → Bool} (hk : ck_iv a lo hi S k = true) (h1 : lo ≤ (n a).1) (h2 : (n a).1 ≤ hi) :
    ∃ S' : ck_S, k S' = true ∧ ck_so nL SG S' n ws sh sc ls vs ∧ ck_kn S S' := by
  unfold ck_iv at hk
  split at hk
  · rename_i x hx
    split at hk
    · rename_i hle
      have hb := h.2.2.2.2.1 a x hx hle
      have hlo : ck_max x.1 lo ≤ (n a).1 := ck_max_le.mpr ⟨hb.1, h1⟩
      have hhi : (n a).1 ≤ ck_min x.2 hi := ck_le_min.mpr ⟨hb.2, h2⟩
      rw [if_neg (by omega)] at hk
      have hl : (S.2.2.2.1.set a (ck_max x.1 lo, ck_min x.2 hi)).length = S.2.2.2.1.length := by simp
      refine ⟨_, hk, ⟨?_, ?_, ?_, ?_, ?_, ?_⟩, rfl, rfl, rfl, hl, rfl⟩
      · dsimp only; rw [hl]; exact h.1
      · dsimp only; rw [hl]; exact h.2.1
      · dsimp only; rw [hl]; exact h.2.2.1
      · dsimp only; rw [hl]; exact h.2.2.2.1
      · intro j z hz hzl
        dsimp only at hz
        rw [List.getElem?_set] at hz
        by_cases e : a = j
        · subst e
          rw [if_pos rfl] at hz
          simp only [(List.getElem?_eq_some_iff.mp hx).1, if_true, Option.some.injEq] at hz
          subst hz
          exact ⟨hlo, hhi⟩
        · rw [if_neg e] at hz
          exact h.2.2.2.2.1 j z hz hzl
      · dsimp only; rw [hl]; exact h.2.2.2.2.2
    · cases hk
  · cases hk
/-- other types for a sym -/
theorem ck_sub_ok {ws : va_W} {sh : List Nat} {n : ck_N} {N s0 : Nat} {w : ck_V} (hw : ck_vo ws sh sc n N w (n s0).2) {v : ck_V} {x : Value} (h : ck_vo ws sh sc n N v x) : ck_vo ws sh sc n N (ck_sub s0 w v) x := by
  unfold ck_sub
  split
  · rename_i hc
    have e : x = (n s0).2 := by
      have h2 := h
      unfold ck_vo at h2
      rcases hc.2 with q | q
      · rw [q] at h2
        rw [h2.2.1, hc.1]
      · rw [q] at h2
        rw [h2.2.1, hc.1]
    rw [e]
    exact hw
  · exact h
theorem ck_subS_ok {nL : Nat} {SG : List Nat} {n : ck_N} {ws : va_W} {sh : List Nat} {ls : Array Slot} {vs : List Value} (h : ck_so nL SG S n ws sh sc ls vs) {s0 : Nat} {w : ck_V} (hw : ck_vo ws sh sc n S.2.2.2.1.length w (n s0).2) : ck_so nL SG (ck_subS s0 w S) n ws sh sc ls vs := by
  obtain ⟨lv, l1, l2⟩ := h.2.1
  refine ⟨h.1, ⟨lv, l1, l2.map (P' := fun (x : Nat × ck_V) (y : Nat × Value) => x.1 = y.1 ∧ ck_vo ws sh sc n S.2.2.2.1.length x.2 y.2) _ fun a b hab => ⟨hab.1, ck_sub_ok hw hab.2⟩⟩, h.2.2.1.map _ fun a b hab => ck_sub_ok hw hab, ?_, h.2.2.2.2⟩
  intro x hx
  obtain ⟨y, hy, rfl⟩ := List.mem_map.mp hx
  rcases h.2.2.2.1 y hy with q | ⟨h0, h1, q, a, o, v, h2, h3, h4, h5⟩ | hn
  · rw [if_pos q.1]
    exact Or.inl q
  · rw [if_neg h0]
    exact Or.inr (Or.inl ⟨h0, h1, q, a, o, v, h2, h3, h4, ck_sub_ok hw h5⟩)
  · have e : ck_sub s0 w y.2.2 = y.2.2 := if_neg (fun z => by have := hn.1; have := z.2; omega)
    rw [if_neg hn.2.1, e]
    exact Or.inr (Or.inr hn)
/-- the switch's cases -/
theorem ck_sw_ok {a : Nat} {S : ck_S} {pc : Nat} {k : ck_cont} : ∀ {os : List Int} {lo : Int}, ck_sw a lo S pc k os = true → ∀ (j : Nat) (off : Int), os[j]? = some off → ck_iv a (lo + j) (lo + j) S (fun S => ck_tgt pc off (k S)) = true
  | [], _, _, j, off, h => by simp at h
  | o :: os, lo, h, j, off, hj => by
    rw [ck_sw, Bool.and_eq_true] at h
    cases j with
    | zero =>
      rw [List.getElem?_cons_zero, Option.some.injEq] at hj
      subst hj
      simpa using h.1
    | succ j =>
      rw [List.getElem?_cons_succ] at hj
      have := ck_sw_ok h.2 j off hj
      have e : lo + 1 + (j : Int) = lo + ((j + 1 : Nat) : Int) := by omega
      rw [e] at this
      exact this
theorem ck_nul_ok {kt kf : ck_S → Bool} (h : ck_nul S kt kf = true) {nL : Nat} {SG : List Nat} {n : ck_N} {ws : va_W} {sh : List Nat} {ls : Array Slot} {vs : List Value} (o : ck_so nL SG S n ws sh sc ls vs) : ∃ (v : Value) (vs' : List Value) (S' : ck_S), vs = v :: vs' ∧ ck_so nL SG S' n ws sh sc ls vs' ∧ S'.2.2.2.2.2 = S.2.2.2.2.2 ∧ ((v = .null ∧ kt S' = true) ∨ ((∃ a : Nat, v = .ref a) ∧ kf S' = true)) := by
  unfold ck_nul at h
  split at h
  · rename_i r st hst
    have o3 := o.2.2.1
    rw [hst] at o3
    obtain ⟨v, vs', rfl, h2, h3⟩ := ck_hd o3
    have os : ck_so nL SG (ck_ss S st) n ws sh sc ls vs' := o.ss h3
    refine ⟨v, vs', ?_⟩
    split at h
    · rename_i e
      obtain ⟨-, -, q, a, e', t, rfl, -⟩ := h2.r e
      exact ⟨_, rfl, os, rfl, Or.inr ⟨⟨a, rfl⟩, h⟩⟩
    · split at h
      · rename_i e
        have h4 := h2
        unfold ck_vo at h4
        rw [e] at h4
        exact ⟨_, rfl, os, rfl, Or.inl ⟨h4.2.2, h⟩⟩
      · rw [Bool.and_eq_true, Bool.and_eq_true] at h
        have e := eq_of_beq h.1
        have h4 := h2
        unfold ck_vo at h4
        rw [e] at h4
        obtain ⟨hl, hv, h5⟩ := h4
        rcases h5 with h5 | h5
        · exact ⟨_, rfl, ck_subS_ok os (w := (4, r.2.1, [])) (s0 := r.2.1) ⟨hl, rfl, by rw [← hv]; exact h5⟩, rfl, Or.inl ⟨h5, h.2.2⟩⟩
        · obtain ⟨q, a, e', t, e1, -⟩ := id h5
          exact ⟨_, rfl, ck_subS_ok os (w := (2, r.2.1, r.2.2)) (s0 := r.2.1) ⟨hl, rfl, by rw [← hv]; exact h5⟩, rfl, Or.inr ⟨⟨a, e1⟩, h.2.1⟩⟩
  · cases h
end
