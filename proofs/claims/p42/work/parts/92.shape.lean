noncomputable section
/-! a world that was made is as the types say -/
def sp_rf (sh : List Nat) (ts : List Nat) (v : mk_V) : Bool := v.1 == 2 && (match sh[v.2.2]? with
  | some u => ts.contains u
  | none => false)
def sp_fit (sh : List Nat) (t : ck_T) (v : mk_V) : Bool := match t.1 with
  | 0 => v.1 == 1 && decide (t.2.1 ≤ v.2.1 ∧ v.2.1 ≤ t.2.2.1)
  | 2 => sp_rf sh t.2.2.2 v
  | 3 => v.1 == 0 || sp_rf sh t.2.2.2 v
  | _ => false
theorem sp_rf_ok {ws : va_W} {sh ts : List Nat} {v : mk_V} {x : Value} (h : sp_rf sh ts v = true) (hv : mk_vo ws v x) : ck_rf ws sh ts x := by
  unfold sp_rf at h
  rw [Bool.and_eq_true] at h
  obtain ⟨a, e, h1, h2⟩ := hv.r (eq_of_beq h.1)
  have h3 := h.2
  split at h3
  · rename_i u hu
    exact ⟨v.2.2, a, e, u, h2, h1, hu, List.contains_iff_mem.mp h3⟩
  · cases h3
theorem sp_fit_ok {ws : va_W} {sh : List Nat} {t : ck_T} {v : mk_V} {x : Value} (h : sp_fit sh t v = true) (hv : mk_vo ws v x) : ck_fo ws sh t x := by
  unfold sp_fit at h
  unfold ck_fo
  split at h
  · rename_i e
    rw [e]
    rw [Bool.and_eq_true, decide_eq_true_eq] at h
    obtain ⟨w, h1, h2⟩ := hv.i (eq_of_beq h.1)
    exact ⟨w, h1, by omega, by omega⟩
  · rename_i e
    rw [e]
    exact sp_rf_ok h hv
  · rename_i e
    rw [e]
    rw [Bool.or_eq_true] at h
    rcases h with h | h
    · have h0 := eq_of_beq h
      unfold mk_vo at hv
      rw [h0] at hv
      exact Or.inl hv
    · exact Or.inr (sp_rf_ok h hv)
  · cases h
def sp_cell (sh : List Nat) (td : ck_D) (c : mk_C) : Bool := match td.1 with
  | 0 => c.1 == 0 && (c.2.1 == td.2.1 && (c.2.2.1 == td.2.2.2.length && (List.range c.2.2.1).all (fun k => match td.2.2.2[k]?, c.2.2.2[k]? with
    | some t, some v => sp_fit sh t v
    | _, _ => false)))
  | 1 => c.1 == 1 && (c.2.1 == td.2.2.1 && (c.2.2.1 == td.2.1 && td.2.2.2.all (fun t => t.1 == 0 && (sp_fit sh t (1, 0, 0) && c.2.2.2.all (sp_fit sh t)))))
  | 2 => c.1 == 2 && (c.2.1 == td.2.2.1 && c.2.2.1 == td.2.1)
  | 3 => c.1 == 3 && (c.2.1 == td.2.2.1 && (c.2.2.1 == td.2.1 && td.2.2.2.all (fun t => (List.range c.2.2.1).all (fun i => sp_fit sh t (mk_at c i)))))
  | 4 => c.1 == 4 && (c.2.1 == td.2.2.1 && c.2.2.1 == td.2.1)
  | 5 => c.1 == 5 && (c.2.1 == td.2.2.1 && (c.2.2.1 == td.2.1 && td.2.2.2.all (fun t => (List.range c.2.2.1).all (fun i => sp_fit sh t (mk_at c i)))))
  | _ => false
theorem sp_cell_ok {tys : List (ClassId × FieldType)} {ws : va_W} {sh : List Nat} {td : ck_D} {c : mk_C} {e : va_E} (h : sp_cell sh td c = true) (hc : mk_co tys ws c e) : ck_co tys ws sh td e := by
  unfold sp_cell at h
  unfold ck_co
  split at h
  · rename_i e0
    rw [e0]
    simp only [Bool.and_eq_true, beq_iff_eq] at h
    obtain ⟨h1, h2, h3, h4⟩ := h
    unfold mk_co at hc
    rw [h1] at hc
    obtain ⟨vs, rfl, g1, g2, g3⟩ := hc
    refine ⟨vs, by rw [h2], by rw [g1, h3], fun k t ht => ?_⟩
    have hk : k < c.2.2.1 := by rw [h3]; exact (List.getElem?_eq_some_iff.mp ht).1
    have h5 := List.all_eq_true.mp h4 k (List.mem_range.mpr hk)
    rw [ht] at h5
    cases hv : c.2.2.2[k]? with
    | none => rw [hv] at h5; cases h5
    | some v =>
      rw [hv] at h5
      obtain ⟨x, x1, x2⟩ := ck_two_at g3 k v hv
      exact ⟨x, x1, sp_fit_ok h5 x2⟩
  · rename_i e0
    rw [e0]
    simp only [Bool.and_eq_true, beq_iff_eq] at h
    obtain ⟨h1, h2, h3, h4⟩ := h
    unfold mk_co at hc
    rw [h1] at hc
    obtain ⟨cA, f, g1, rfl, g3⟩ := hc
    refine ⟨cA, f, by rw [← h2]; exact g1, by rw [h3], fun t ht => ?_⟩
    have h5 := List.all_eq_true.mp h4 t (List.mem_of_getElem? ht)
    simp only [Bool.and_eq_true, beq_iff_eq] at h5
    obtain ⟨k1, k2, k3⟩ := h5
    refine ⟨k1, fun i hi => ?_⟩
    have hfit : sp_fit sh t (mk_at c i) = true := by
      unfold mk_at
      rw [List.getD_eq_getElem?_getD]
      cases hv : c.2.2.2[i]? with
      | none =>
        unfold mk_df
        rw [h1]
        exact k2
      | some v => exact List.all_eq_true.mp k3 v (List.mem_of_getElem? hv)
    have h6 := sp_fit_ok hfit (g3 i)
    unfold ck_fo at h6
    rw [k1] at h6
    obtain ⟨w, hw, w1, w2⟩ := h6
    cases hw
    exact ⟨w1, w2⟩
  · rename_i e0
    rw [e0]
    simp only [Bool.and_eq_true, beq_iff_eq] at h
    obtain ⟨h1, h2, h3⟩ := h
    unfold mk_co at hc
    rw [h1] at hc
    obtain ⟨cA, f, g1, rfl⟩ := hc
    exact ⟨cA, f, by rw [← h2]; exact g1, by rw [h3]⟩
  · rename_i e0
    rw [e0]
    simp only [Bool.and_eq_true, beq_iff_eq] at h
    obtain ⟨h1, h2, h3, h4⟩ := h
    unfold mk_co at hc
    rw [h1] at hc
    obtain ⟨cA, C, f, g1, rfl, g3⟩ := hc
    refine ⟨cA, C, f, by rw [← h2]; exact g1, by rw [h3], fun t ht i hi => ?_⟩
    have h5 := List.all_eq_true.mp (List.all_eq_true.mp h4 t (List.mem_of_getElem? ht)) i (List.mem_range.mpr (by rw [h3]; exact hi))
    exact sp_fit_ok h5 (g3 i)
  · rename_i e0
    rw [e0]
    simp only [Bool.and_eq_true, beq_iff_eq] at h
    obtain ⟨h1, h2, h3⟩ := h
    unfold mk_co at hc
    rw [h1] at hc
    obtain ⟨cA, f, g1, rfl, g3⟩ := hc
    exact ⟨cA, f, by rw [← h2]; exact g1, by rw [h3], fun i _ => by rw [g3 i]; exact ⟨by decide, by decide⟩⟩
  · rename_i e0
    rw [e0]
    simp only [Bool.and_eq_true, beq_iff_eq] at h
    obtain ⟨h1, h2, h3, h4⟩ := h
    unfold mk_co at hc
    rw [h1] at hc
    obtain ⟨cA, f, g1, rfl, g3⟩ := hc
    refine ⟨cA, f, by rw [← h2]; exact g1, by rw [h3], fun t ht i hi => ?_⟩
    have hi' : i < c.2.2.1 := by rw [h3]; exact hi
    have h5 := List.all_eq_true.mp (List.all_eq_true.mp h4 t (List.mem_of_getElem? ht)) i (List.mem_range.mpr hi')
    exact sp_fit_ok h5 (g3 i hi')
  · cases h
def sp_uq (t : Nat) : List Nat → Bool
  | [] => true
  | u :: l => if u = t then !l.contains t else sp_uq t l
theorem sp_uq_ok {t : Nat} : ∀ {l : List Nat}, sp_uq t l = true → ∀ q r : Nat, l[q]? = some t → l[r]? = some t → q = r
  | [], _, q, _, hq, _ => by simp at hq
  | u :: l, h, q, r, hq, hr => by
    rw [sp_uq] at h
    split at h
    · rw [Bool.not_eq_true'] at h
      have hn : t ∉ l := fun z => by
        rw [List.contains_iff_mem.mpr z] at h
        cases h
      have key : ∀ k : Nat, (u :: l)[k]? = some t → k = 0 := fun k hk => by
        cases k with
        | zero => rfl
        | succ k =>
          rw [List.getElem?_cons_succ] at hk
          exact absurd (List.mem_of_getElem? hk) hn
      rw [key q hq, key r hr]
    · rename_i hne
      cases q with
      | zero => exact absurd (Option.some.inj hq) hne
      | succ q =>
        cases r with
        | zero => exact absurd (Option.some.inj hr) hne
        | succ r =>
          rw [List.getElem?_cons_succ] at hq hr
          rw [sp_uq_ok h q r hq hr]
def sp_W (TT : List ck_D) (SG : List Nat) (W : mk_W) (sh : List Nat) : Bool := W.length == sh.length && ((List.range W.length).all (fun i => match W[i]?, sh[i]? with
  | some c, some t => (match TT[t]? with
    | some td => sp_cell sh td c
    | none => false)
  | _, _ => false) && SG.all (fun t => sp_uq t sh))
theorem sp_wo {tys : List (ClassId × FieldType)} {TT : List ck_D} {SG : List Nat} {W : mk_W} {sh : List Nat} {ws : va_W} (h : sp_W TT SG W sh = true) (hw : mk_wo tys ws W) : ck_wo tys TT SG ws sh := by
  unfold sp_W at h
  simp only [Bool.and_eq_true, beq_iff_eq] at h
  obtain ⟨h1, h2, h3⟩ := h
  refine ⟨by rw [← h1, hw.1], fun q a e t hq ht => ?_, fun t ht q r hq hr => sp_uq_ok (List.all_eq_true.mp h3 t ht) q r hq hr⟩
  have hlt : q < W.length := by rw [← hw.1]; exact (List.getElem?_eq_some_iff.mp hq).1
  have h4 := List.all_eq_true.mp h2 q (List.mem_range.mpr hlt)
  have hc : W[q]? = some W[q] := List.getElem?_eq_getElem hlt
  rw [hc, ht] at h4
  dsimp only at h4
  cases htd : TT[t]? with
  | none => rw [htd] at h4; cases h4
  | some td =>
    rw [htd] at h4
    exact ⟨td, rfl, sp_cell_ok h4 (hw.2 q a e _ hq hc)⟩
/-! room by room -/
theorem w_less {s : State} {pl : Platform} {R1 R2 : Room} (h : s.hasRoom pl R1 = true) (h1 : R2.frames = R1.frames) (h2 : R2.locals = R1.locals) (h3 : R2.cells ≤ R1.cells) (h4 : R2.slots ≤ R1.slots) : s.hasRoom pl R2 = true := by
  unfold State.hasRoom at h ⊢
  rw [h1, h2]
  simp only [Bool.and_eq_true, decide_eq_true_eq] at h ⊢
  obtain ⟨⟨⟨g1, g2⟩, g3⟩, g4⟩ := h
  exact ⟨⟨⟨g1, by omega⟩, by omega⟩, g4⟩
theorem w_room {p : Program} {l : Launch} {e : Env} {R1 R2 : Room} {s : State} {m : MethodId} {args : Array Value} {below : List Frame} {meth : Method} {c : Code} {H : Heap} {locs : List Loc} {cells slots : Nat} {Q : State → Prop} {g : JFrame} (h : s.hasRoom e.platform R2 = true) (kk : W p l e R2 s m args below meth c H locs cells slots Q g) : W p l e R1 s m args below meth c H locs cells slots Q g :=
  fun T hT X => kk T hT { X with room := h }
theorem w_has {p : Program} {l : Launch} {e : Env} {R : Room} {s : State} {m : MethodId} {args : Array Value} {below : List Frame} {meth : Method} {c : Code} {H : Heap} {locs : List Loc} {cells slots : Nat} {Q : State → Prop} {g : JFrame} (kk : s.hasRoom e.platform R = true → W p l e R s m args below meth c H locs cells slots Q g) : W p l e R s m args below meth c H locs cells slots Q g :=
  fun T hT X => kk X.room T hT X
/-! the run, begun at any place -/
section
variable {p : Program} {l : Launch} {e : Env} {R : Room} {s : State} {m : MethodId} {args : Array Value} {below : List Frame} {meth : Method} {c : Code} {Q : State → Prop} {cc : ByteArray} {own : String} {D : va_G} {cl : List vw_C} {tys : List (ClassId × FieldType)} {M : ck_Me} {sc : ck_sc} {A : Nat → Prop} {ws0 : va_W} {sh0 : List Nat} {Fc : Nat → Nat × fR} {s0 : fS} {kr : Nat → ck_S → Bool} {sp : ck_spc} {code : ck_cd} {ivs : List (Nat × ck_I)} {nE : Nat} {n1 : ck_N}
theorem ck_run2_ok (hnE : 0 < nE) (X : ck_cx p l e R s m args below meth c cc own D cl tys M sc A) (hfl : ∀ x ∈ mfl M, ck_hg s args own cl x) (hpl : ∀ x ∈ mpl M, ck_hp s args own cl (meth.name = "<init>") x) (hnl : ∀ x ∈ mnw M, ck_hn s args own cl (mTT M) x) (hkl : ∀ x ∈ mkl M, ck_hk s args own x) (hil : ∀ x ∈ mil M, ck_hi s args own cl x) (hxl : ∀ x ∈ mxl M, ck_hx s args own cl x) (hal : ∀ x ∈ mal M, ck_ha s tys cl x)
    (hgl : ∀ i ∈ mgl M, ck_hs s args own sc i) (hvl : ∀ (b : Nat → Int), ∀ x ∈ mvl M, ck_cs Fc s0 p l e R s m args below meth c Q cc D cl tys M (sc.1, sc.2.1, b) A x) (hcode : ∀ x ∈ code, decode cc x.1 = .ok (x.2.1, x.2.2))
    (hret : ∀ (b : Nat → Int), (∀ k, k < nE → b (1000 + k) = (n1 k).1) → ∀ (kd : Nat) (S : ck_S), kr kd S = true → ck_rst kd S → ∀ pc, decode cc pc = .ok (ck_ri kd, 1) → ck_g Fc s0 p l e R s m args below meth c Q D cl tys M (sc.1, sc.2.1, b) A ws0 sh0 S pc)
    (hsp : ∀ x ∈ sp, ∀ (S : ck_S) (L : List ck_S), x.2.2 S = some L → ∀ b : Nat → Int, (∀ k, k < nE → b (1000 + k) = (n1 k).1) → (∀ S' ∈ L, ck_g Fc s0 p l e R s m args below meth c Q D cl tys M (sc.1, sc.2.1, b) A ws0 sh0 S' x.2.1) → ck_g Fc s0 p l e R s m args below meth c Q D cl tys M (sc.1, sc.2.1, b) A ws0 sh0 S x.1)
    {f f0 : Nat} {S0 : ck_S} {pc0 : Nat} (hall : ivs.all (ck_one M kr sp code ivs nE f) = true) (h0 : ck_go M kr sp code ivs nE none f0 code S0 pc0 = true) {b : Nat → Int} (hb : ∀ k, k < nE → b (1000 + k) = (n1 k).1) : ck_g Fc s0 p l e R s m args below meth c Q D cl tys M (sc.1, sc.2.1, b) A ws0 sh0 S0 pc0 := by
  have hiv : ∀ x ∈ ivs, ck_okI nE x.2 = true := fun x hx => by
    have h1 := List.all_eq_true.mp hall x hx
    unfold ck_one at h1
    rw [Bool.and_eq_true] at h1
    exact h1.1
  have key : ∀ r : Nat × Nat × Nat, ∀ x ∈ ivs, ∀ n : ck_N, ck_rk x.2.2 (fun j => (n (ck_k x.2.2 j).2.1).1) = r → (∀ k, k < nE → (n k).1 = (n1 k).1) → ck_pi Fc s0 p l e R s m args below meth c Q D cl tys M sc A ws0 sh0 x n := by
    refine ck_lx_ind fun r ih => ?_
    intro x hx n hr hn ws sh H locs ls vs o hw hx1 hP hD hS
    have h1 := List.all_eq_true.mp hall x hx
    unfold ck_one at h1
    rw [Bool.and_eq_true] at h1
    obtain ⟨hok, h1⟩ := h1
    obtain ⟨b', hb'⟩ : ∃ b' : Nat → Int, b' = fun j => if j < 1000 then (n (ck_k x.2.2 j).2.1).1 else (n1 (j - 1000)).1 := ⟨_, rfl⟩
    have q1 : ∀ k, k < nE → b' (1000 + k) = (n1 k).1 := fun k _ => by
      rw [hb']
      dsimp only
      rw [if_neg (by omega)]
      have e9 : 1000 + k - 1000 = k := by omega
      rw [e9]
    have q2 : ∀ j, j < 1000 → b' j = (n (ck_k x.2.2 j).2.1).1 := fun j hj => by
      rw [hb']
      exact if_pos hj
    have erk : ck_rk x.2.2 b' = r := by
      rw [← hr]
      unfold ck_rk
      rw [q2 0 (by omega), q2 1 (by omega), q2 2 (by omega)]
    unfold ck_okI at hok
    simp only [Bool.and_eq_true, decide_eq_true_eq] at hok
    obtain ⟨k1, k2, k3⟩ := hok
    have hz : ∀ y ∈ x.2.1.2.2.1, y.1 ≠ 0 := fun y hy => by
      have := List.all_eq_true.mp k1 y hy
      rw [Bool.not_eq_true', beq_eq_false_iff_ne] at this
      exact this
    have hgo : ∀ (suf : ck_cd) (S : ck_S) (pc : Nat), (∀ x ∈ suf, x ∈ code) → ck_go M kr sp code ivs nE (some x.2.2) f suf S pc = true → ck_g Fc s0 p l e R s m args below meth c Q D cl tys M (sc.1, sc.2.1, b') A ws0 sh0 S pc := fun suf S pc hsu hk =>
      ck_go_ok (n1 := n1) (b := b') hnE X hfl hpl hnl hkl hil hxl hal hgl hvl hcode hret hsp hiv q1 (cur := some x.2.2) (fun x' hx' n' hlt hn' => ih _ (by rw [← erk]; exact hlt _ rfl) x' hx' n' rfl hn') f suf S pc hsu hk
    have hg := ck_do_ok (S := ck_si nE x.2) (b := b') hnE X hfl hpl hnl hkl hil hxl hal hgl hvl hcode hret hsp q1 hgo (fun _ h => h) h1
    refine hg n ws sh H locs ls vs ⟨o.1, ?_, o.2.2.1.imp (fun a c hac => hac.sc rfl rfl), ?_, o.2.2.2.2⟩ hw hx1 hP hD hS
    · obtain ⟨lv, u1, u2⟩ := o.2.1
      exact ⟨lv, u1, u2.imp fun a c hac => ⟨hac.1, hac.2.sc rfl rfl⟩⟩
    · intro z hzm
      rcases List.mem_append.mp hzm with hzm | hzm
      · exact (ck_mo.sc (sc := sc) (sc' := (sc.1, sc.2.1, b')) rfl rfl hz o.2.2.2.1) z hzm
      · rcases List.mem_append.mp hzm with hzm | hzm
        · obtain ⟨k, hk, rfl⟩ := List.mem_map.mp hzm
          have hk := List.mem_range.mp hk
          exact Or.inl ⟨rfl, Nat.lt_of_lt_of_le hk k2, Or.inr ⟨rfl, by rw [hn k hk]; exact (q1 k hk).symm⟩⟩
        · have hl := List.all_eq_true.mp k3 z hzm
          rw [decide_eq_true_eq] at hl
          simp only [ck_rb, List.mem_cons, List.not_mem_nil, or_false] at hzm
          rcases hzm with rfl | rfl | rfl
          · exact Or.inl ⟨rfl, hl, Or.inr ⟨rfl, (q2 0 (by omega)).symm⟩⟩
          · exact Or.inl ⟨rfl, hl, Or.inr ⟨rfl, (q2 1 (by omega)).symm⟩⟩
          · exact Or.inl ⟨rfl, hl, Or.inr ⟨rfl, (q2 2 (by omega)).symm⟩⟩
  exact ck_go_ok (n1 := n1) (b := b) hnE X hfl hpl hnl hkl hil hxl hal hgl hvl hcode hret hsp hiv hb (cur := none) (fun x hx n _ hn => key _ x hx n rfl hn) f0 code S0 pc0 (fun _ h => h) h0
end
end
