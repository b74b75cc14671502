noncomputable section
/-! a world that was made is as the types say -/
def sp_rf (sh : List Nat) (ts : List Nat) (v : mk_V) : Bool := v.1 == 2 && (match sh[v.2.2]? with
  | some u => ts.contains u
  | none => false)
def sp_fit (sh : List Nat) (t : ck_T) (v : mk_V) : Bool := match t.1 with
  | 0 => v.1 == 1 && decide (t.2.1 ≤ v.2.1 ∧ v.2.1 ≤ t.2.2.1)
  | 2 => sp_rf sh t.2.2.2 v
  | 3 => v.1 == 0 || sp_rf sh t.2.2.2 v
  | _ => false
theorem sp_rf_ok {ws : va_W} {sh ts : List Nat} {v : mk_V} {x : Value} (h : sp_rf sh ts v = true) (hv : mk_vo ws v x) : ck_rf ws sh ts x := by
  unfold sp_rf at h
  rw [Bool.and_eq_true] at h
  obtain ⟨a, e, h1, h2⟩ := hv.r (eq_of_beq h.1)
  have h3 := h.2
  split at h3
  · rename_i u hu
    exact ⟨v.2.2, a, e, u, h2, h1, hu, List.contains_iff_mem.mp h3⟩
  · cases h3
theorem sp_fit_ok {ws : va_W} {sh : List Nat} {t : ck_T} {v : mk_V} {x : Value} (h : sp_fit sh t v = true) (hv : mk_vo ws v x) : ck_fo ws sh t x := by
  unfold sp_fit at h
  unfold ck_fo
  split at h
  · rename_i e
    rw [e]
    rw [Bool.and_eq_true, decide_eq_true_eq] at h
    obtain ⟨w, h1, h2⟩ := hv.i (eq_of_beq h.1)
    exact ⟨w, h1, by omega, by omega⟩
  · rename_i e
    rw [e]
    exact sp_rf_ok h hv
  · rename_i e
    rw [e]
    rw [Bool.or_eq_true] at h
    rcases h with h | h
    · have h0 := eq_of_beq h
      unfold mk_vo at hv
      rw [h0] at hv
      exact Or.inl hv
    · exact Or.inr (sp_rf_ok h hv)
  · cases h
def sp_cell (sh : List Nat) (td : ck_D) (c : mk_C) : Bool := match td.1 with
  | 0 => c.1 == 0 && (c.2.1 == td.2.1 && (c.2.2.1 == td.2.2.2.length && (List.range c.2.2.1).all (fun k => match td.2.2.2[k]?, c.2.2.2[k]? with
    | some t, some v => sp_fit sh t v
    | _, _ => false)))
  | 1 => c.1 == 1 && (c.2.1 == td.2.2.1 && (c.2.2.1 == td.2.1 && td.2.2.2.all (fun t => t.1 == 0 && (sp_fit sh t (1, 0, 0) && c.2.2.2.all (sp_fit sh t)))))
  | 2 => c.1 == 2 && (c.2.1 == td.2.2.1 && c.2.2.1 == td.2.1)
  | 3 => c.1 == 3 && (c.2.1 == td.2.2.1 && (c.2.2.1 == td.2.1 && td.2.2.2.all (fun t => (List.range c.2.2.1).all (fun i => sp_fit sh t (mk_at c i)))))
  | 4 => c.1 == 4 && (c.2.1 == td.2.2.1 && c.2.2.1 == td.2.1)
  | 5 => c.1 == 5 && (c.2.1 == td.2.2.1 && (c.2.2.1 == td.2.1 && td.2.2.2.all (fun t => (List.range c.2.2.1).all (fun i => sp_fit sh t (mk_at c i)))))
  | _ => false
theorem sp_cell_ok {tys : List (ClassId × FieldType)} {ws : va_W} {sh : List Nat} {td : ck_D} {c : mk_C} {e : va_E} (h : sp_cell sh td c = true) (hc : mk_co tys ws c e) : ck_co tys ws sh td e := by
  unfold sp_cell at h
  unfold ck_co
  split at h
  · rename_i e0
    rw [e0]
    simp only [Bool.and_eq_true, beq_iff_eq] at h
    obtain ⟨h1, h2, h3, h4⟩ := h
    unfold mk_co at hc
    rw [h1] at hc
    obtain ⟨vs, rfl, g1, g2, g3⟩ := hc
    refine ⟨vs, by rw [h2], by rw [g1, h3], fun k t ht => ?_⟩
    have hk : k < c.2.2.1 := by rw [h3]; exact (List.getElem?_eq_some_iff.mp ht).1
    have h5 := List.all_eq_true.mp h4 k (List.mem_range.mpr hk)
    rw [ht] at h5
    cases hv : c.2.2.2[k]? with
    | none => rw [hv] at h5; cases h5
    | some v =>
      rw [hv] at h5
      obtain ⟨x, x1, x2⟩ := ck_two_at g3 k v hv
      exact ⟨x, x1, sp_fit_ok h5 x2⟩
  · rename_i e0
    rw [e0]
    simp only [Bool.and_eq_true, beq_iff_eq] at h
    obtain ⟨h1, h2, h3, h4⟩ := h
    unfold mk_co at hc
    rw [h1] at hc
    obtain ⟨cA, f, g1, rfl, g3⟩ := hc
    refine ⟨cA, f, by rw [← h2]; exact g1, by rw [h3], fun t ht => ?_⟩
    have h5 := List.all_eq_true.mp h4 t (List.mem_of_getElem? ht)
    simp only [Bool.and_eq_true, beq_iff_eq] at h5
    obtain ⟨k1, k2, k3⟩ := h5
    refine ⟨k1, fun i hi => ?_⟩
    have hfit : sp_fit sh t (mk_at c i) = true := by
      unfold mk_at
      rw [List.getD_eq_getElem?_getD]
      cases hv : c.2.2.2[i]? with
      | none =>
        unfold mk_df
        rw [h1]
        exact k2
      | some v => exact List.all_eq_true.mp k3 v (List.mem_of_getElem? hv)
    have h6 := sp_fit_ok hfit (g3 i)
    unfold ck_fo at h6
    rw [k1] at h6
    obtain ⟨w, hw, w1, w2⟩ := h6
    cases hw
    exact ⟨w1, w2⟩
  · rename_i e0
    rw [e0]
    simp only [Bool.and_eq_true, beq_iff_eq] at h
    obtain ⟨h1, h2, h3⟩ := h
    unfold mk_co at hc
    rw [h1] at hc
    obtain ⟨cA, f, g1, rfl⟩ := hc
    exact ⟨cA, f, by rw [← h2]; exact g1, by rw [h3]⟩
  · rename_i e0
    rw [e0]
    simp only [Bool.and_eq_true, beq_iff_eq] at h
    obtain ⟨h1, h2, h3, h4⟩ := h
    unfold mk_co at hc
    rw [h1] at hc
    obtain ⟨cA, C, f, g1, rfl, g3⟩ := hc
    refine ⟨cA, C, f, by rw [← h2]; exact g1, by rw [h3], fun t ht i hi => ?_⟩
    have h5 := List.all_eq_true.mp (List.all_eq_true.mp h4 t (List.mem_of_getElem? ht)) i (List.mem_range.mpr (by rw [h3]; exact hi))
    exact sp_fit_ok h5 (g3 i)
  · rename_i e0
    rw [e0]
    simp only [Bool.and_eq_true, beq_iff_eq] at h
    obtain ⟨h1, h2, h3⟩ := h
    unfold mk_co at hc
    rw [h1] at hc
    obtain ⟨cA, f, g1, rfl, g3⟩ := hc
    exact ⟨cA, f, by rw [← h2]; exact g1, by rw [h3], fun i _ => by rw [g3 i]; exact ⟨by decide, by decide⟩⟩
  · rename_i e0
    rw [e0]
    simp only [Bool.and_eq_true, beq_iff_eq] at h
    obtain ⟨h1, h2, h3, h4⟩ := h
    unfold mk_co at hc
    rw [h1] at hc
    obtain ⟨cA, f, g1, rfl, g3⟩ := hc
    refine ⟨cA, f, by rw [← h2]; exact g1, by rw [h3], fun t ht i hi => ?_⟩
    have hi' : i < c.2.2.1 := by rw [h3]; exact hi
    have h5 := List.all_eq_true.mp (List.all_eq_true.mp h4 t (List.mem_of_getElem? ht)) i (List.mem_range.mpr hi')
    exact sp_fit_ok h5 (g3 i hi')
  · cases h
def sp_uq (t : Nat) : List Nat → Bool
  | [] => true
  | u :: l => if u = t then !l.contains t else sp_uq t l
theorem sp_uq_ok {t : Nat} : ∀ {l : List Nat}, sp_uq t l = true → ∀ q r : Nat, l[q]? = some t → l[r]? = some t → q = r
  | [], _, q, _, hq, _ => by simp at hq
  | u :: l, h, q, r, hq, hr => by
    rw [sp_uq] at h
    split at h
    · rw [Bool.not_eq_true'] at h
      have hn : t ∉ l := fun z => by
        rw [List.contains_iff_mem.mpr z] at h
        cases h
      have key : ∀ k : Nat, (u :: l)[k]? = some t → k = 0 := fun k hk => by
        cases k with
        | zero => rfl
        | succ k =>
          rw [List.getElem?_cons_succ] at hk
          exact absurd (List.mem_of_getElem? hk) hn
      rw [key q hq, key r hr]
    · rename_i hne
      cases q with
      | zero => exact absurd (Option.some.inj hq) hne
      | succ q =>
        cases r with
        | zero => exact absurd (Option.some.inj hr) hne
        | succ r =>
          rw [List.getElem?_cons_succ] at hq hr
          rw [sp_uq_ok h q r hq hr]
def sp_W (TT : List ck_D) (SG : List Nat) (W : mk_W) (sh : List Nat) : Bool := W.length == sh.length && ((List.range W.length).all (fun i => match W[i]?, sh[i]? with
  | some c, some t => (match TT[t]? with
    | some td => sp_cell sh td c
    | none => false)
  | _, _ => false) && SG.all (fun t => sp_uq t sh))
theorem sp_wo {tys : List (ClassId × FieldType)} {TT : List ck_D} {SG : List Nat} {W : mk_W} {sh : List Nat} {ws : va_W} (h : sp_W TT SG W sh = true) (hw : mk_wo tys ws W) : ck_wo tys TT SG ws sh := by
  unfold sp_W at h
  simp only [Bool.and_eq_true, beq_iff_eq] at h
  obtain ⟨h1, h2, h3⟩ := h
  refine ⟨by rw [← h1, hw.1], fun q a e t hq ht => ?_, fun t ht q r hq hr => sp_uq_ok (List.all_eq_true.mp h3 t ht) q r hq hr⟩
  have hlt : q < W.length := by rw [← hw.1]; exact (List.getElem?_eq_some_iff.mp hq).1
  have h4 := List.all_eq_true.mp h2 q (List.mem_range.mpr hlt)
  have hc : W[q]? = some W[q] := List.getElem?_eq_getElem hlt
  rw [hc, ht] at h4
  dsimp only at h4
  cases htd : TT[t]? with
  | none => rw [htd] at h4; cases h4
  | some td =>
    rw [htd] at h4
    exact ⟨td, rfl, sp_cell_ok h4 (hw.2 q a e _ hq hc)⟩
/-! room by room -/
theorem w_less {s : State} {pl : Platform} {R1 R2 : Room} (h : s.hasRoom pl R1 = true) (h1 : R2.frames = R1.frames) (h2 : R2.locals = R1.locals) (h3 : R2.cells ≤ R1.cells) (h4 : R2.slots ≤ R1.slots) : s.hasRoom pl R2 = true := by
  unfold State.hasRoom at h ⊢
  rw [h1, h2]
  simp only [Bool.and_eq_true, decide_eq_true_eq] at h ⊢
  obtain ⟨⟨⟨g1, g2⟩, g3⟩, g4⟩ := h
  exact ⟨⟨⟨g1, by omega⟩, by omega⟩, g4⟩
theorem w_room {p : Program} {l : Launch} {e : Env} {R1 R2 : Room} {s : State} {m : MethodId} {args : Array Value} {below : List Frame} {meth : Method} {c : Code} {H : Heap} {locs : List Loc} {cells slots : Nat} {Q : State → Prop} {g : JFrame} (h : s.hasRoom e.platform R2 = true) (kk : W p l e R2 s m args below meth c H locs cells slots Q g) : W p l e R1 s m args below meth c H locs cells slots Q g :=
  fun T hT X => kk T hT { X with room := h }
theorem w_has {p : Program} {l : Launch} {e : Env} {R : Room} {s : State} {m : MethodId} {args : Array Value} {below : List Frame} {meth : Method} {c : Code} {H : Heap} {locs : List Loc} {cells slots : Nat} {Q : State → Prop} {g : JFrame} (kk : s.hasRoom e.platform R = true → W p l e R s m args below meth c H locs cells slots Q g) : W p l e R s m args below meth c H locs cells slots Q g :=
  fun T hT X => kk X.room T hT X
/-! the run, begun at any place -/
section
variable {p : Program} {l : Launch} {e : Env} {R : Room} {s : State} {m : MethodId} {args : Array Value} {below : List Frame} {meth : Method} {c : Code} {Q : State → Prop} {cc : ByteArray} {own : String} {D : va_G} {cl : List vw_C} {tys : List (ClassId × FieldType)} {M : ck_Me} {sc : ck_sc} {A : Nat → Prop} {ws0 : va_W} {sh0 : List Nat} {Fc : Nat → Nat × fR} {s0 : fS} {kr : Nat → ck_S → Bool} {sp : ck_spc} {code : ck_cd} {ivs : List (Nat × ck_I)} {nE : Nat} {n1 : ck_N}
theorem ck_run2_ok (hnE : 0 < nE) (X : ck_cx p l e R s m args below meth c cc own D cl tys M sc A) (hfl : ∀ x ∈ mfl M, ck_hg s args own cl x) (hpl : ∀ x ∈ mpl M, ck_hp s args own cl (meth.name = "<init>") x) (hnl : ∀ x ∈ mnw M, ck_hn s args own cl (mTT M) x) (hkl : ∀ x ∈ mkl M, ck_hk s args own x) (hil : ∀ x ∈ mil M, ck_hi s args own cl x) (hxl : ∀ x ∈ mxl M, ck_hx s args own cl x) (hal : ∀ x ∈ mal M, ck_ha s tys cl x)
    (hgl : ∀ i ∈ mgl M, ck_hs s args own sc i) (hvl : ∀ (b : Nat → Int), ∀ x ∈ mvl M, ck_cs Fc s0 p l e R s m args below meth c Q cc D cl tys M (sc.1, sc.2.1, b) A x) (hcode : ∀ x ∈ code, decode cc x.1 = .ok (x.2.1, x.2.2))
    (hret : ∀ (b : Nat → Int), (∀ k, k < nE → b (1000 + k) = (n1 k).1) → ∀ (kd : Nat) (S : ck_S), kr kd S = true → ck_rst kd S → ∀ pc, decode cc pc = .ok (ck_ri kd, 1) → ck_g Fc s0 p l e R s m args below meth c Q D cl tys M (sc.1, sc.2.1, b) A ws0 sh0 S pc)
    (hsp : ∀ x ∈ sp, ∀ (S : ck_S) (L : List ck_S), x.2.2 S = some L → ∀ b : Nat → Int, (∀ k, k < nE → b (1000 + k) = (n1 k).1) → (∀ S' ∈ L, ck_g Fc s0 p l e R s m args below meth c Q D cl tys M (sc.1, sc.2.1, b) A ws0 sh0 S' x.2.1) → ck_g Fc s0 p l e R s m args below meth c Q D cl tys M (sc.1, sc.2.1, b) A ws0 sh0 S x.1)
    {f f0 : Nat} {S0 : ck_S} {pc0 : Nat} (hall : ivs.all (ck_one M kr sp code ivs nE f) = true) (h0 : ck_go M kr sp code ivs nE none f0 code S0 pc0 = true) {b : Nat → Int} (hb : ∀ k, k < nE → b (1000 + k) = (n1 k).1) : ck_g Fc s0 p l e R s m args below meth c Q D cl tys M (sc.1, sc.2.1, b) A ws0 sh0 S0 pc0 := by
  have hiv : ∀ x ∈ ivs, ck_okI nE x.2 = true := fun x hx => by
    have h1 := List.all_eq_true.mp hall x hx
    unfold ck_one at h1
    rw [Bool.and_eq_true] at h1
    exact h1.1
  have key : ∀ r : Nat × Nat × Nat, ∀ x ∈ ivs, ∀ n : ck_N, ck_rk x.2.2 (fun j => (n (ck_k x.2.2 j).2.1).1) = r → (∀ k, k < nE → (n k).1 = (n1 k).1) → ck_pi Fc s0 p l e R s m args below meth c Q D cl tys M sc A ws0 sh0 x n := by
    refine ck_lx_ind fun r ih => ?_
    intro x hx n hr hn ws sh H locs ls vs o hw hx1 hP hD hS
    have h1 := List.all_eq_true.mp hall x hx
    unfold ck_one at h1
    rw [Bool.and_eq_true] at h1
    obtain ⟨hok, h1⟩ := h1
    obtain ⟨b', hb'⟩ : ∃ b' : Nat → Int, b' = fun j => if j < 1000 then (n (ck_k x.2.2 j).2.1).1 else (n1 (j - 1000)).1 := ⟨_, rfl⟩
    have q1 : ∀ k, k < nE → b' (1000 + k) = (n1 k).1 := fun k _ => by
      rw [hb']
      dsimp only
      rw [if_neg (by omega)]
      have e9 : 1000 + k - 1000 = k := by omega
      rw [e9]
    have q2 : ∀ j, j < 1000 → b' j = (n (ck_k x.2.2 j).2.1).1 := fun j hj => by
      rw [hb']
      exact if_pos hj
    have erk : ck_rk x.2.2 b' = r := by
      rw [← hr]
      unfold ck_rk
      rw [q2 0 (by omega), q2 1 (by omega), q2 2 (by omega)]
    unfold ck_okI at hok
    simp only [Bool.and_eq_true, decide_eq_true_eq] at hok
    obtain ⟨k1, k2, k3⟩ := hok
    have hz : ∀ y ∈ x.2.1.2.2.1, y.1 ≠ 0 := fun y hy => by
      have := List.all_eq_true.mp k1 y hy
      rw [Bool.not_eq_true', beq_eq_false_iff_ne] at this
      exact this
    have hgo : ∀ (suf : ck_cd) (S : ck_S) (pc : Nat), (∀ x ∈ suf, x ∈ code) → ck_go M kr sp code ivs nE (some x.2.2) f suf S pc = true → ck_g Fc s0 p l e R s m args below meth c Q D cl tys M (sc.1, sc.2.1, b') A ws0 sh0 S pc := fun suf S pc hsu hk =>
      ck_go_ok (n1 := n1) (b := b') hnE X hfl hpl hnl hkl hil hxl hal hgl hvl hcode hret hsp hiv q1 (cur := some x.2.2) (fun x' hx' n' hlt hn' => ih _ (by rw [← erk]; exact hlt _ rfl) x' hx' n' rfl hn') f suf S pc hsu hk
    have hg := ck_do_ok (S := ck_si nE x.2) (b := b') hnE X hfl hpl hnl hkl hil hxl hal hgl hvl hcode hret hsp q1 hgo (fun _ h => h) h1
    refine hg n ws sh H locs ls vs ⟨o.1, ?_, o.2.2.1.imp (fun a c hac => hac.sc rfl rfl), ?_, o.2.2.2.2⟩ hw hx1 hP hD hS
    · obtain ⟨lv, u1, u2⟩ := o.2.1
      exact ⟨lv, u1, u2.imp fun a c hac => ⟨hac.1, hac.2.sc rfl rfl⟩⟩
    · intro z hzm
      rcases List.mem_append.mp hzm with hzm | hzm
      · exact (ck_mo.sc (sc := sc) (sc' := (sc.1, sc.2.1, b')) rfl rfl hz o.2.2.2.1) z hzm
      · rcases List.mem_append.mp hzm with hzm | hzm
        · obtain ⟨k, hk, rfl⟩ := List.mem_map.mp hzm
          have hk := List.mem_range.mp hk
          exact Or.inl ⟨rfl, Nat.lt_of_lt_of_le hk k2, Or.inr ⟨rfl, by rw [hn k hk]; exact (q1 k hk).symm⟩⟩
        · have hl := List.all_eq_true.mp k3 z hzm
          rw [decide_eq_true_eq] at hl
          simp only [ck_rb, List.mem_cons, List.not_mem_nil, or_false] at hzm
          rcases hzm with rfl | rfl | rfl
          · exact Or.inl ⟨rfl, hl, Or.inr ⟨rfl, (q2 0 (by omega)).symm⟩⟩
          · exact Or.inl ⟨rfl, hl, Or.inr ⟨rfl, (q2 1 (by omega)).symm⟩⟩
          · exact Or.inl ⟨rfl, hl, Or.inr ⟨rfl, (q2 2 (by omega)).symm⟩⟩
  exact ck_go_ok (n1 := n1) (b := b) hnE X hfl hpl hnl hkl hil hxl hal hgl hvl hcode hret hsp hiv hb (cur := none) (fun x hx n _ hn => key _ x hx n rfl hn) f0 code S0 pc0 (fun _ h => h) h0
end
end
noncomputable section
/-! what a trace comes to: a method's instructions over what a world holds by address -/
abbrev fH : Type := Nat → Option va_E
def hof (ws : va_W) : fH := fun a => (ws.find? (fun x => x.1 == a)).map Prod.snd
def hset (h : fH) (p : Nat) (e : va_E) : fH := fun a => if a = p then some e else h a
def iv : Value → Int32
  | .int x => x
  | _ => 0
def jv : Value → Int64
  | .long x => x
  | _ => 0
def rv_ : Value → Nat
  | .ref a => a
  | _ => 0
def eI : Option va_E → Nat → Int32
  | some (.inl (_, _, .inl f)), i => f i
  | _, _ => 0
def eJ : Option va_E → Nat → Int64
  | some (.inl (_, _, .inr (.inl f))), i => f i
  | none, i => fw_v i
  | _, _ => 0
def eR : Option va_E → Nat → Value
  | some (.inl (_, _, .inr (.inr (.inr (.inr f))))), i => va_rf (f i)
  | _, _ => .null
def eL : Option va_E → Nat
  | some (.inl (_, y)) => y.1
  | _ => 6
def kfd (fl : List (Nat × Nat × Nat)) (i ci : Nat) : Nat := match fl.find? (fun x => x.1 == i && x.2.1 == ci) with
  | some x => x.2.2
  | none => 1000
def eG (fl : List (Nat × Nat × Nat)) (i : Nat) : Option va_E → Value
  | some (.inr (ci, fs)) => fs.getD (kfd fl i ci) .null
  | _ => .null
def kpd (pl : List (Nat × Nat × Nat × Nat)) (i ci : Nat) : Nat := match pl.find? (fun x => x.1 == i && x.2.1 == ci) with
  | some x => x.2.2.1
  | none => 1000
def sG (pl : List (Nat × Nat × Nat × Nat)) (i : Nat) (u : Value) : Option va_E → va_E
  | some (.inr (ci, fs)) => .inr (ci, fs.set (kpd pl i ci) u)
  | some e => e
  | none => .inr (0, [])
def sI (i : Nat) (v : Int32) : Option va_E → va_E
  | some (.inl (c, n, .inl f)) => .inl (c, n, .inl (upd f i v))
  | some e => e
  | none => .inr (0, [])
def sJ (i : Nat) (v : Int64) : Option va_E → va_E
  | some (.inl (c, n, .inr (.inl f))) => .inl (c, n, .inr (.inl (vp_updL f i v)))
  | some e => e
  | none => .inr (0, [])
def sR (i : Nat) (v : Value) : Option va_E → va_E
  | some (.inl (c, n, .inr (.inr (.inr (.inr f))))) => .inl (c, n, .inr (.inr (.inr (.inr (va_up f i (match v with
    | .ref a => some a
    | _ => none))))))
  | some e => e
  | none => .inr (0, [])
def kci (il : List (Nat × Nat × Nat)) (i ci : Nat) : Nat := match il.find? (fun x => x.1 == i && x.2.1 == ci) with
  | some x => x.2.2
  | none => 0
def eT (il : List (Nat × Nat × Nat)) (i : Nat) : Option va_E → Int32
  | some (.inr (ci, _)) => Int32.ofNat (kci il i ci)
  | _ => 0
/-- locals: place, whether a long, value -/
abbrev fL_ : Type := List (Nat × Bool × Value)
def lk : fL_ → Nat → Option Value
  | [], _ => none
  | x :: l, i => bif x.1 == i then some x.2.2 else lk l i
def lkb : fL_ → Nat → Option (Bool × Value)
  | [], _ => none
  | x :: l, i => bif x.1 == i then some x.2 else lkb l i
def ls1 (l : fL_) (i : Nat) (v : Value) : fL_ := (i, false, v) :: l.filter (fun q => !(q.1 == i) && !(q.1 + 1 == i && q.2.1))
def ls2 (l : fL_) (i : Nat) (v : Value) : fL_ := (i, true, v) :: l.filter (fun q => !(q.1 == i) && (!(q.1 == i + 1) && !(q.1 + 1 == i && q.2.1)))
/-- the calls: key, arity, what they do -/
abbrev fP (W : Type) : Type := List (Nat × Nat × (List Value → W → Option Value → W → Prop))
/-- a world: what it holds; how it is written; how an object comes to it -/
abbrev fO (W : Type) : Type := (W → fH) × (W → Nat → va_E → (W → Prop) → Prop) × (W → Nat → va_E → Nat → (W → Prop) → Prop)
def f_tg (pc : Nat) (off : Int) : Nat := ((pc : Int) + off).toNat
def wT {W : Type} (k : Nat → fL_ → List Value → W → Prop) (pc : Nat) (lg : fL_) (r : List Value) (w : W) (x : Int32) : Int → List Int → Prop
  | _, [] => True
  | lo, o :: os => (x.toInt = lo → k (f_tg pc o) lg r w) ∧ wT k pc lg r w x (lo + 1) os
def wcall {W : Type} (_ : fO W) (Sp : fP W) (k : Nat → fL_ → List Value → W → Prop) (key pc : Nat) (lg : fL_) (vs : List Value) (w : W) : Prop := match Sp.find? (fun x => x.1 == key) with
  | some x => ∀ (rv : Option Value) (w' : W), x.2.2 (vs.take x.2.1).reverse w rv w' → k (pc + 3) lg (rv.toList ++ vs.drop x.2.1) w'
  | none => False
def wstep {W : Type} (O : fO W) (T : fT) (Sp : fP W) (Post : Option Value → W → Prop) (k : Nat → fL_ → List Value → W → Prop) (ins : Instr) (len pc : Nat) (lg : fL_) (vs : List Value) (w : W) : Prop := match ins, vs with
  | .iconst v, _ => k (pc + len) lg (.int (Int32.ofInt v) :: vs) w
  | .bipush v, _ => match decide (-128 ≤ v ∧ v < 128) with
    | true => k (pc + len) lg (.int (Int32.ofInt v) :: vs) w
    | false => False
  | .sipush v, _ => match decide (-32768 ≤ v ∧ v < 32768) with
    | true => k (pc + len) lg (.int (Int32.ofInt v) :: vs) w
    | false => False
  | .lconst v, _ => k (pc + len) lg (.long (Int64.ofNat (v : Nat)) :: vs) w
  | .ldc i, _ => match T.2.2.2.1.find? (fun x => x.1 == i && x.2.1 == 0) with
    | some x => k (pc + len) lg (.int (Int32.ofInt x.2.2) :: vs) w
    | none => False
  | .ldc_w i, _ => match T.2.2.2.1.find? (fun x => x.1 == i && x.2.1 == 0) with
    | some x => k (pc + len) lg (.int (Int32.ofInt x.2.2) :: vs) w
    | none => False
  | .ldc2_w i, _ => match T.2.2.2.1.find? (fun x => x.1 == i && x.2.1 == 1) with
    | some x => k (pc + len) lg (.long (Int64.ofInt x.2.2) :: vs) w
    | none => False
  | .iload_n i, _ => match lk lg i with
    | some v => k (pc + len) lg (v :: vs) w
    | none => False
  | .iload i, _ => match lk lg i with
    | some v => k (pc + len) lg (v :: vs) w
    | none => False
  | .lload_n i, _ => match lk lg i with
    | some v => k (pc + len) lg (v :: vs) w
    | none => False
  | .lload i, _ => match lk lg i with
    | some v => k (pc + len) lg (v :: vs) w
    | none => False
  | .aload_n i, _ => match lk lg i with
    | some v => k (pc + len) lg (v :: vs) w
    | none => False
  | .aload i, _ => match lk lg i with
    | some v => k (pc + len) lg (v :: vs) w
    | none => False
  | .istore_n i, v :: r => k (pc + len) (ls1 lg i v) r w
  | .istore i, v :: r => k (pc + len) (ls1 lg i v) r w
  | .astore_n i, v :: r => k (pc + len) (ls1 lg i v) r w
  | .astore i, v :: r => k (pc + len) (ls1 lg i v) r w
  | .lstore_n i, v :: r => k (pc + len) (ls2 lg i v) r w
  | .lstore i, v :: r => k (pc + len) (ls2 lg i v) r w
  | .iinc i c, _ => match lk lg i with
    | some v => k (pc + len) (ls1 lg i (.int (iv v + Int32.ofInt c))) vs w
    | none => False
  | .iadd, y :: x :: r => k (pc + 1) lg (.int (iv x + iv y) :: r) w
  | .isub, y :: x :: r => k (pc + 1) lg (.int (iv x - iv y) :: r) w
  | .imul, y :: x :: r => k (pc + 1) lg (.int (iv x * iv y) :: r) w
  | .iand, y :: x :: r => k (pc + 1) lg (.int (iv x &&& iv y) :: r) w
  | .ior, y :: x :: r => k (pc + 1) lg (.int (iv x ||| iv y) :: r) w
  | .ixor, y :: x :: r => k (pc + 1) lg (.int (iv x ^^^ iv y) :: r) w
  | .ishl, y :: x :: r => k (pc + 1) lg (.int (iv x <<< (iv y &&& 31)) :: r) w
  | .ishr, y :: x :: r => k (pc + 1) lg (.int (iv x >>> (iv y &&& 31)) :: r) w
  | .iushr, y :: x :: r => k (pc + 1) lg (.int ((iv x).toUInt32 >>> ((iv y).toUInt32 &&& Int32.toUInt32 31)).toInt32 :: r) w
  | .idiv, y :: x :: r => k (pc + 1) lg (.int (iv x / iv y) :: r) w
  | .irem, y :: x :: r => k (pc + 1) lg (.int (iv x % iv y) :: r) w
  | .ladd, y :: x :: r => k (pc + 1) lg (.long (jv x + jv y) :: r) w
  | .lsub, y :: x :: r => k (pc + 1) lg (.long (jv x - jv y) :: r) w
  | .lmul, y :: x :: r => k (pc + 1) lg (.long (jv x * jv y) :: r) w
  | .land, y :: x :: r => k (pc + 1) lg (.long (jv x &&& jv y) :: r) w
  | .lor, y :: x :: r => k (pc + 1) lg (.long (jv x ||| jv y) :: r) w
  | .lxor, y :: x :: r => k (pc + 1) lg (.long (jv x ^^^ jv y) :: r) w
  | .lushr, y :: x :: r => k (pc + 1) lg (.long ((jv x).toUInt64 >>> ((iv y).toInt64.toUInt64 &&& Int64.toUInt64 63)).toInt64 :: r) w
  | .lshr, y :: x :: r => k (pc + 1) lg (.long (jv x >>> ((iv y).toInt64 &&& 63)) :: r) w
  | .lshl, y :: x :: r => k (pc + 1) lg (.long (jv x <<< ((iv y).toInt64 &&& 63)) :: r) w
  | .ineg, x :: r => k (pc + 1) lg (.int (-(iv x)) :: r) w
  | .i2l, x :: r => k (pc + 1) lg (.long (iv x).toInt64 :: r) w
  | .l2i, x :: r => k (pc + 1) lg (.int (jv x).toInt32 :: r) w
  | .i2b, x :: r => k (pc + 1) lg (.int (iv x).toInt8.toInt32 :: r) w
  | .i2s, x :: r => k (pc + 1) lg (.int (iv x).toInt16.toInt32 :: r) w
  | .lcmp, y :: x :: r => k (pc + 1) lg (.int (lg_cmp (jv x) (jv y)) :: r) w
  | .aconst_null, _ => k (pc + 1) lg (.null :: vs) w
  | .dup, v :: r => k (pc + 1) lg (v :: v :: r) w
  | .pop, _ :: r => k (pc + 1) lg r w
  | .pop2, _ :: r => k (pc + 1) lg r w
  | .dup2, v :: u :: r => k (pc + 1) lg (v :: u :: v :: u :: r) w
  | .goto off, _ => k (f_tg pc off) lg vs w
  | .ifCond cd off, x :: r => (ck_cm cd (iv x).toInt 0 → k (f_tg pc off) lg r w) ∧ (¬ ck_cm cd (iv x).toInt 0 → k (pc + 3) lg r w)
  | .if_icmp cd off, y :: x :: r => (ck_cm cd (iv x).toInt (iv y).toInt → k (f_tg pc off) lg r w) ∧ (¬ ck_cm cd (iv x).toInt (iv y).toInt → k (pc + 3) lg r w)
  | .ifnull off, v :: r => (v = .null → k (f_tg pc off) lg r w) ∧ (¬ v = .null → k (pc + 3) lg r w)
  | .ifnonnull off, v :: r => (¬ v = .null → k (f_tg pc off) lg r w) ∧ (v = .null → k (pc + 3) lg r w)
  | .tableswitch d lo hi os, x :: r => ((iv x).toInt < lo ∨ hi < (iv x).toInt → k (f_tg pc d) lg r w) ∧ (lo ≤ (iv x).toInt → (iv x).toInt ≤ hi → wT k pc lg r w (iv x) lo os.toList)
  | .getfield i, p :: r => k (pc + 3) lg (eG T.1 i (O.1 w (rv_ p)) :: r) w
  | .putfield i, u :: p :: r => O.2.1 w (rv_ p) (sG T.2.1 i u (O.1 w (rv_ p))) (k (pc + 3) lg r)
  | .getstatic _, _ => ∀ p, O.1 w p = none → k (pc + 3) lg (.ref p :: vs) w
  | .iaload, x :: p :: r => match T.2.2.2.2.2.2 with
    | none => k (pc + 1) lg (.int (eI (O.1 w (rv_ p)) (iv x).toNatClampNeg) :: r) w
    | some sb => rv_ p = sb.1 ∧ k (pc + 1) lg (.int (sb.2.2 (iv x).toNatClampNeg) :: r) w
  | .laload, x :: p :: r => k (pc + 1) lg (.long (eJ (O.1 w (rv_ p)) (iv x).toNatClampNeg) :: r) w
  | .baload, x :: p :: r => k (pc + 1) lg (.int (eI (O.1 w (rv_ p)) (iv x).toNatClampNeg) :: r) w
  | .aaload, x :: p :: r => k (pc + 1) lg (eR (O.1 w (rv_ p)) (iv x).toNatClampNeg :: r) w
  | .iastore, v :: x :: p :: r => O.2.1 w (rv_ p) (sI (iv x).toNatClampNeg (iv v) (O.1 w (rv_ p))) (k (pc + 1) lg r)
  | .lastore, v :: x :: p :: r => O.2.1 w (rv_ p) (sJ (iv x).toNatClampNeg (jv v) (O.1 w (rv_ p))) (k (pc + 1) lg r)
  | .bastore, v :: x :: p :: r => O.2.1 w (rv_ p) (sI (iv x).toNatClampNeg (vp_nar .boolean (iv v)) (O.1 w (rv_ p))) (k (pc + 1) lg r)
  | .aastore, v :: x :: p :: r => O.2.1 w (rv_ p) (sR (iv x).toNatClampNeg v (O.1 w (rv_ p))) (k (pc + 1) lg r)
  | .arraylength, p :: r => match T.2.2.2.2.2.2 with
    | none => k (pc + 1) lg (.int (Int32.ofNat (eL (O.1 w (rv_ p)))) :: r) w
    | some sb => rv_ p = sb.1 ∧ k (pc + 1) lg (.int (Int32.ofNat sb.2.1) :: r) w
  | .new i, _ => ∀ (q : Nat) (ty : Nat → FieldType), O.1 w q = none → match T.2.2.1.find? (fun x => x.1 == i) with
    | some x => O.2.2 w q (.inr (x.2.1, (List.range x.2.2.2).map fun j => defaultValue (ty j))) x.2.2.1 (k (pc + 3) lg (.ref q :: vs))
    | none => False
  | .instanceof i, p :: r => k (pc + 3) lg (.int (eT T.2.2.2.2.1 i (O.1 w (rv_ p))) :: r) w
  | .checkcast _, _ => k (pc + 3) lg vs w
  | .invokevirtual i, _ => wcall O Sp k (3 * i) pc lg vs w
  | .invokestatic i, _ => wcall O Sp k (3 * i + 1) pc lg vs w
  | .invokespecial i, _ => wcall O Sp k (3 * i + 2) pc lg vs w
  | .return_, [] => Post none w
  | .ireturn, [v] => Post (some v) w
  | .lreturn, [v] => Post (some v) w
  | .areturn, [v] => Post (some v) w
  | _, _ => False
/-- a step by a function for each instruction: the dispatch brings nothing else along -/
abbrev wi_st (W : Type) : Type := fO W → fT → fP W → (Option Value → W → Prop) → (Nat → fL_ → List Value → W → Prop) → Nat → Nat → fL_ → List Value → W → Prop
def wi_iconst {W : Type} (v : Int) (_ : fO W) (_ : fT) (_ : fP W) (_ : Option Value → W → Prop) (k : Nat → fL_ → List Value → W → Prop) (len : Nat) (pc : Nat) (lg : fL_) (vs : List Value) (w : W) : Prop := k (pc + len) lg (.int (Int32.ofInt v) :: vs) w
def wi_bipush {W : Type} (v : Int) (_ : fO W) (_ : fT) (_ : fP W) (_ : Option Value → W → Prop) (k : Nat → fL_ → List Value → W → Prop) (len : Nat) (pc : Nat) (lg : fL_) (vs : List Value) (w : W) : Prop := match decide (-128 ≤ v ∧ v < 128) with
    | true => k (pc + len) lg (.int (Int32.ofInt v) :: vs) w
    | false => False
def wi_sipush {W : Type} (v : Int) (_ : fO W) (_ : fT) (_ : fP W) (_ : Option Value → W → Prop) (k : Nat → fL_ → List Value → W → Prop) (len : Nat) (pc : Nat) (lg : fL_) (vs : List Value) (w : W) : Prop := match decide (-32768 ≤ v ∧ v < 32768) with
    | true => k (pc + len) lg (.int (Int32.ofInt v) :: vs) w
    | false => False
def wi_lconst {W : Type} (v : Fin 2) (_ : fO W) (_ : fT) (_ : fP W) (_ : Option Value → W → Prop) (k : Nat → fL_ → List Value → W → Prop) (len : Nat) (pc : Nat) (lg : fL_) (vs : List Value) (w : W) : Prop := k (pc + len) lg (.long (Int64.ofNat (v : Nat)) :: vs) w
def wi_ldc {W : Type} (i : Nat) (_ : fO W) (T : fT) (_ : fP W) (_ : Option Value → W → Prop) (k : Nat → fL_ → List Value → W → Prop) (len : Nat) (pc : Nat) (lg : fL_) (vs : List Value) (w : W) : Prop := match T.2.2.2.1.find? (fun x => x.1 == i && x.2.1 == 0) with
    | some x => k (pc + len) lg (.int (Int32.ofInt x.2.2) :: vs) w
    | none => False
def wi_ldc_w {W : Type} (i : Nat) (_ : fO W) (T : fT) (_ : fP W) (_ : Option Value → W → Prop) (k : Nat → fL_ → List Value → W → Prop) (len : Nat) (pc : Nat) (lg : fL_) (vs : List Value) (w : W) : Prop := match T.2.2.2.1.find? (fun x => x.1 == i && x.2.1 == 0) with
    | some x => k (pc + len) lg (.int (Int32.ofInt x.2.2) :: vs) w
    | none => False
def wi_ldc2_w {W : Type} (i : Nat) (_ : fO W) (T : fT) (_ : fP W) (_ : Option Value → W → Prop) (k : Nat → fL_ → List Value → W → Prop) (len : Nat) (pc : Nat) (lg : fL_) (vs : List Value) (w : W) : Prop := match T.2.2.2.1.find? (fun x => x.1 == i && x.2.1 == 1) with
    | some x => k (pc + len) lg (.long (Int64.ofInt x.2.2) :: vs) w
    | none => False
def wi_iload_n {W : Type} (i : Fin 4) (_ : fO W) (_ : fT) (_ : fP W) (_ : Option Value → W → Prop) (k : Nat → fL_ → List Value → W → Prop) (len : Nat) (pc : Nat) (lg : fL_) (vs : List Value) (w : W) : Prop := match lk lg i with
    | some v => k (pc + len) lg (v :: vs) w
    | none => False
def wi_iload {W : Type} (i : Nat) (_ : fO W) (_ : fT) (_ : fP W) (_ : Option Value → W → Prop) (k : Nat → fL_ → List Value → W → Prop) (len : Nat) (pc : Nat) (lg : fL_) (vs : List Value) (w : W) : Prop := match lk lg i with
    | some v => k (pc + len) lg (v :: vs) w
    | none => False
def wi_lload_n {W : Type} (i : Fin 4) (_ : fO W) (_ : fT) (_ : fP W) (_ : Option Value → W → Prop) (k : Nat → fL_ → List Value → W → Prop) (len : Nat) (pc : Nat) (lg : fL_) (vs : List Value) (w : W) : Prop := match lk lg i with
    | some v => k (pc + len) lg (v :: vs) w
    | none => False
def wi_lload {W : Type} (i : Nat) (_ : fO W) (_ : fT) (_ : fP W) (_ : Option Value → W → Prop) (k : Nat → fL_ → List Value → W → Prop) (len : Nat) (pc : Nat) (lg : fL_) (vs : List Value) (w : W) : Prop := match lk lg i with
    | some v => k (pc + len) lg (v :: vs) w
    | none => False
def wi_aload_n {W : Type} (i : Fin 4) (_ : fO W) (_ : fT) (_ : fP W) (_ : Option Value → W → Prop) (k : Nat → fL_ → List Value → W → Prop) (len : Nat) (pc : Nat) (lg : fL_) (vs : List Value) (w : W) : Prop := match lk lg i with
    | some v => k (pc + len) lg (v :: vs) w
    | none => False
def wi_aload {W : Type} (i : Nat) (_ : fO W) (_ : fT) (_ : fP W) (_ : Option Value → W → Prop) (k : Nat → fL_ → List Value → W → Prop) (len : Nat) (pc : Nat) (lg : fL_) (vs : List Value) (w : W) : Prop := match lk lg i with
    | some v => k (pc + len) lg (v :: vs) w
    | none => False
def wi_istore_n {W : Type} (i : Fin 4) (_ : fO W) (_ : fT) (_ : fP W) (_ : Option Value → W → Prop) (k : Nat → fL_ → List Value → W → Prop) (len : Nat) (pc : Nat) (lg : fL_) (vs : List Value) (w : W) : Prop := match vs with
  | v :: r => k (pc + len) (ls1 lg i v) r w
  | _ => False
def wi_istore {W : Type} (i : Nat) (_ : fO W) (_ : fT) (_ : fP W) (_ : Option Value → W → Prop) (k : Nat → fL_ → List Value → W → Prop) (len : Nat) (pc : Nat) (lg : fL_) (vs : List Value) (w : W) : Prop := match vs with
  | v :: r => k (pc + len) (ls1 lg i v) r w
  | _ => False
def wi_astore_n {W : Type} (i : Fin 4) (_ : fO W) (_ : fT) (_ : fP W) (_ : Option Value → W → Prop) (k : Nat → fL_ → List Value → W → Prop) (len : Nat) (pc : Nat) (lg : fL_) (vs : List Value) (w : W) : Prop := match vs with
  | v :: r => k (pc + len) (ls1 lg i v) r w
  | _ => False
def wi_astore {W : Type} (i : Nat) (_ : fO W) (_ : fT) (_ : fP W) (_ : Option Value → W → Prop) (k : Nat → fL_ → List Value → W → Prop) (len : Nat) (pc : Nat) (lg : fL_) (vs : List Value) (w : W) : Prop := match vs with
  | v :: r => k (pc + len) (ls1 lg i v) r w
  | _ => False
def wi_lstore_n {W : Type} (i : Fin 4) (_ : fO W) (_ : fT) (_ : fP W) (_ : Option Value → W → Prop) (k : Nat → fL_ → List Value → W → Prop) (len : Nat) (pc : Nat) (lg : fL_) (vs : List Value) (w : W) : Prop := match vs with
  | v :: r => k (pc + len) (ls2 lg i v) r w
  | _ => False
def wi_lstore {W : Type} (i : Nat) (_ : fO W) (_ : fT) (_ : fP W) (_ : Option Value → W → Prop) (k : Nat → fL_ → List Value → W → Prop) (len : Nat) (pc : Nat) (lg : fL_) (vs : List Value) (w : W) : Prop := match vs with
  | v :: r => k (pc + len) (ls2 lg i v) r w
  | _ => False
def wi_iinc {W : Type} (i : Nat) (c : Int) (_ : fO W) (_ : fT) (_ : fP W) (_ : Option Value → W → Prop) (k : Nat → fL_ → List Value → W → Prop) (len : Nat) (pc : Nat) (lg : fL_) (vs : List Value) (w : W) : Prop := match lk lg i with
    | some v => k (pc + len) (ls1 lg i (.int (iv v + Int32.ofInt c))) vs w
    | none => False
def wi_iadd {W : Type}  (_ : fO W) (_ : fT) (_ : fP W) (_ : Option Value → W → Prop) (k : Nat → fL_ → List Value → W → Prop) (_ : Nat) (pc : Nat) (lg : fL_) (vs : List Value) (w : W) : Prop := match vs with
  | y :: x :: r => k (pc + 1) lg (.int (iv x + iv y) :: r) w
  | _ => False
def wi_isub {W : Type}  (_ : fO W) (_ : fT) (_ : fP W) (_ : Option Value → W → Prop) (k : Nat → fL_ → List Value → W → Prop) (_ : Nat) (pc : Nat) (lg : fL_) (vs : List Value) (w : W) : Prop := match vs with
  | y :: x :: r => k (pc + 1) lg (.int (iv x - iv y) :: r) w
  | _ => False
def wi_imul {W : Type}  (_ : fO W) (_ : fT) (_ : fP W) (_ : Option Value → W → Prop) (k : Nat → fL_ → List Value → W → Prop) (_ : Nat) (pc : Nat) (lg : fL_) (vs : List Value) (w : W) : Prop := match vs with
  | y :: x :: r => k (pc + 1) lg (.int (iv x * iv y) :: r) w
  | _ => False
def wi_iand {W : Type}  (_ : fO W) (_ : fT) (_ : fP W) (_ : Option Value → W → Prop) (k : Nat → fL_ → List Value → W → Prop) (_ : Nat) (pc : Nat) (lg : fL_) (vs : List Value) (w : W) : Prop := match vs with
  | y :: x :: r => k (pc + 1) lg (.int (iv x &&& iv y) :: r) w
  | _ => False
def wi_ior {W : Type}  (_ : fO W) (_ : fT) (_ : fP W) (_ : Option Value → W → Prop) (k : Nat → fL_ → List Value → W → Prop) (_ : Nat) (pc : Nat) (lg : fL_) (vs : List Value) (w : W) : Prop := match vs with
  | y :: x :: r => k (pc + 1) lg (.int (iv x ||| iv y) :: r) w
  | _ => False
def wi_ixor {W : Type}  (_ : fO W) (_ : fT) (_ : fP W) (_ : Option Value → W → Prop) (k : Nat → fL_ → List Value → W → Prop) (_ : Nat) (pc : Nat) (lg : fL_) (vs : List Value) (w : W) : Prop := match vs with
  | y :: x :: r => k (pc + 1) lg (.int (iv x ^^^ iv y) :: r) w
  | _ => False
def wi_ishl {W : Type}  (_ : fO W) (_ : fT) (_ : fP W) (_ : Option Value → W → Prop) (k : Nat → fL_ → List Value → W → Prop) (_ : Nat) (pc : Nat) (lg : fL_) (vs : List Value) (w : W) : Prop := match vs with
  | y :: x :: r => k (pc + 1) lg (.int (iv x <<< (iv y &&& 31)) :: r) w
  | _ => False
def wi_ishr {W : Type}  (_ : fO W) (_ : fT) (_ : fP W) (_ : Option Value → W → Prop) (k : Nat → fL_ → List Value → W → Prop) (_ : Nat) (pc : Nat) (lg : fL_) (vs : List Value) (w : W) : Prop := match vs with
  | y :: x :: r => k (pc + 1) lg (.int (iv x >>> (iv y &&& 31)) :: r) w
  | _ => False
def wi_iushr {W : Type}  (_ : fO W) (_ : fT) (_ : fP W) (_ : Option Value → W → Prop) (k : Nat → fL_ → List Value → W → Prop) (_ : Nat) (pc : Nat) (lg : fL_) (vs : List Value) (w : W) : Prop := match vs with
  | y :: x :: r => k (pc + 1) lg (.int ((iv x).toUInt32 >>> ((iv y).toUInt32 &&& Int32.toUInt32 31)).toInt32 :: r) w
  | _ => False
def wi_idiv {W : Type}  (_ : fO W) (_ : fT) (_ : fP W) (_ : Option Value → W → Prop) (k : Nat → fL_ → List Value → W → Prop) (_ : Nat) (pc : Nat) (lg : fL_) (vs : List Value) (w : W) : Prop := match vs with
  | y :: x :: r => k (pc + 1) lg (.int (iv x / iv y) :: r) w
  | _ => False
def wi_irem {W : Type}  (_ : fO W) (_ : fT) (_ : fP W) (_ : Option Value → W → Prop) (k : Nat → fL_ → List Value → W → Prop) (_ : Nat) (pc : Nat) (lg : fL_) (vs : List Value) (w : W) : Prop := match vs with
  | y :: x :: r => k (pc + 1) lg (.int (iv x % iv y) :: r) w
  | _ => False
def wi_ladd {W : Type}  (_ : fO W) (_ : fT) (_ : fP W) (_ : Option Value → W → Prop) (k : Nat → fL_ → List Value → W → Prop) (_ : Nat) (pc : Nat) (lg : fL_) (vs : List Value) (w : W) : Prop := match vs with
  | y :: x :: r => k (pc + 1) lg (.long (jv x + jv y) :: r) w
  | _ => False
def wi_lsub {W : Type}  (_ : fO W) (_ : fT) (_ : fP W) (_ : Option Value → W → Prop) (k : Nat → fL_ → List Value → W → Prop) (_ : Nat) (pc : Nat) (lg : fL_) (vs : List Value) (w : W) : Prop := match vs with
  | y :: x :: r => k (pc + 1) lg (.long (jv x - jv y) :: r) w
  | _ => False
def wi_lmul {W : Type}  (_ : fO W) (_ : fT) (_ : fP W) (_ : Option Value → W → Prop) (k : Nat → fL_ → List Value → W → Prop) (_ : Nat) (pc : Nat) (lg : fL_) (vs : List Value) (w : W) : Prop := match vs with
  | y :: x :: r => k (pc + 1) lg (.long (jv x * jv y) :: r) w
  | _ => False
def wi_land {W : Type}  (_ : fO W) (_ : fT) (_ : fP W) (_ : Option Value → W → Prop) (k : Nat → fL_ → List Value → W → Prop) (_ : Nat) (pc : Nat) (lg : fL_) (vs : List Value) (w : W) : Prop := match vs with
  | y :: x :: r => k (pc + 1) lg (.long (jv x &&& jv y) :: r) w
  | _ => False
def wi_lor {W : Type}  (_ : fO W) (_ : fT) (_ : fP W) (_ : Option Value → W → Prop) (k : Nat → fL_ → List Value → W → Prop) (_ : Nat) (pc : Nat) (lg : fL_) (vs : List Value) (w : W) : Prop := match vs with
  | y :: x :: r => k (pc + 1) lg (.long (jv x ||| jv y) :: r) w
  | _ => False
def wi_lxor {W : Type}  (_ : fO W) (_ : fT) (_ : fP W) (_ : Option Value → W → Prop) (k : Nat → fL_ → List Value → W → Prop) (_ : Nat) (pc : Nat) (lg : fL_) (vs : List Value) (w : W) : Prop := match vs with
  | y :: x :: r => k (pc + 1) lg (.long (jv x ^^^ jv y) :: r) w
  | _ => False
def wi_lushr {W : Type}  (_ : fO W) (_ : fT) (_ : fP W) (_ : Option Value → W → Prop) (k : Nat → fL_ → List Value → W → Prop) (_ : Nat) (pc : Nat) (lg : fL_) (vs : List Value) (w : W) : Prop := match vs with
  | y :: x :: r => k (pc + 1) lg (.long ((jv x).toUInt64 >>> ((iv y).toInt64.toUInt64 &&& Int64.toUInt64 63)).toInt64 :: r) w
  | _ => False
def wi_lshr {W : Type}  (_ : fO W) (_ : fT) (_ : fP W) (_ : Option Value → W → Prop) (k : Nat → fL_ → List Value → W → Prop) (_ : Nat) (pc : Nat) (lg : fL_) (vs : List Value) (w : W) : Prop := match vs with
  | y :: x :: r => k (pc + 1) lg (.long (jv x >>> ((iv y).toInt64 &&& 63)) :: r) w
  | _ => False
def wi_lshl {W : Type}  (_ : fO W) (_ : fT) (_ : fP W) (_ : Option Value → W → Prop) (k : Nat → fL_ → List Value → W → Prop) (_ : Nat) (pc : Nat) (lg : fL_) (vs : List Value) (w : W) : Prop := match vs with
  | y :: x :: r => k (pc + 1) lg (.long (jv x <<< ((iv y).toInt64 &&& 63)) :: r) w
  | _ => False
def wi_ineg {W : Type}  (_ : fO W) (_ : fT) (_ : fP W) (_ : Option Value → W → Prop) (k : Nat → fL_ → List Value → W → Prop) (_ : Nat) (pc : Nat) (lg : fL_) (vs : List Value) (w : W) : Prop := match vs with
  | x :: r => k (pc + 1) lg (.int (-(iv x)) :: r) w
  | _ => False
def wi_i2l {W : Type}  (_ : fO W) (_ : fT) (_ : fP W) (_ : Option Value → W → Prop) (k : Nat → fL_ → List Value → W → Prop) (_ : Nat) (pc : Nat) (lg : fL_) (vs : List Value) (w : W) : Prop := match vs with
  | x :: r => k (pc + 1) lg (.long (iv x).toInt64 :: r) w
  | _ => False
def wi_l2i {W : Type}  (_ : fO W) (_ : fT) (_ : fP W) (_ : Option Value → W → Prop) (k : Nat → fL_ → List Value → W → Prop) (_ : Nat) (pc : Nat) (lg : fL_) (vs : List Value) (w : W) : Prop := match vs with
  | x :: r => k (pc + 1) lg (.int (jv x).toInt32 :: r) w
  | _ => False
def wi_i2b {W : Type}  (_ : fO W) (_ : fT) (_ : fP W) (_ : Option Value → W → Prop) (k : Nat → fL_ → List Value → W → Prop) (_ : Nat) (pc : Nat) (lg : fL_) (vs : List Value) (w : W) : Prop := match vs with
  | x :: r => k (pc + 1) lg (.int (iv x).toInt8.toInt32 :: r) w
  | _ => False
def wi_i2s {W : Type}  (_ : fO W) (_ : fT) (_ : fP W) (_ : Option Value → W → Prop) (k : Nat → fL_ → List Value → W → Prop) (_ : Nat) (pc : Nat) (lg : fL_) (vs : List Value) (w : W) : Prop := match vs with
  | x :: r => k (pc + 1) lg (.int (iv x).toInt16.toInt32 :: r) w
  | _ => False
def wi_lcmp {W : Type}  (_ : fO W) (_ : fT) (_ : fP W) (_ : Option Value → W → Prop) (k : Nat → fL_ → List Value → W → Prop) (_ : Nat) (pc : Nat) (lg : fL_) (vs : List Value) (w : W) : Prop := match vs with
  | y :: x :: r => k (pc + 1) lg (.int (lg_cmp (jv x) (jv y)) :: r) w
  | _ => False
def wi_aconst_null {W : Type}  (_ : fO W) (_ : fT) (_ : fP W) (_ : Option Value → W → Prop) (k : Nat → fL_ → List Value → W → Prop) (_ : Nat) (pc : Nat) (lg : fL_) (vs : List Value) (w : W) : Prop := k (pc + 1) lg (.null :: vs) w
def wi_dup {W : Type}  (_ : fO W) (_ : fT) (_ : fP W) (_ : Option Value → W → Prop) (k : Nat → fL_ → List Value → W → Prop) (_ : Nat) (pc : Nat) (lg : fL_) (vs : List Value) (w : W) : Prop := match vs with
  | v :: r => k (pc + 1) lg (v :: v :: r) w
  | _ => False
def wi_pop {W : Type}  (_ : fO W) (_ : fT) (_ : fP W) (_ : Option Value → W → Prop) (k : Nat → fL_ → List Value → W → Prop) (_ : Nat) (pc : Nat) (lg : fL_) (vs : List Value) (w : W) : Prop := match vs with
  | _ :: r => k (pc + 1) lg r w
  | _ => False
def wi_pop2 {W : Type}  (_ : fO W) (_ : fT) (_ : fP W) (_ : Option Value → W → Prop) (k : Nat → fL_ → List Value → W → Prop) (_ : Nat) (pc : Nat) (lg : fL_) (vs : List Value) (w : W) : Prop := match vs with
  | _ :: r => k (pc + 1) lg r w
  | _ => False
def wi_dup2 {W : Type}  (_ : fO W) (_ : fT) (_ : fP W) (_ : Option Value → W → Prop) (k : Nat → fL_ → List Value → W → Prop) (_ : Nat) (pc : Nat) (lg : fL_) (vs : List Value) (w : W) : Prop := match vs with
  | v :: u :: r => k (pc + 1) lg (v :: u :: v :: u :: r) w
  | _ => False
def wi_goto {W : Type} (off : Int) (_ : fO W) (_ : fT) (_ : fP W) (_ : Option Value → W → Prop) (k : Nat → fL_ → List Value → W → Prop) (_ : Nat) (pc : Nat) (lg : fL_) (vs : List Value) (w : W) : Prop := k (f_tg pc off) lg vs w
def wi_ifCond {W : Type} (cd : ClassFile.Cond) (off : Int) (_ : fO W) (_ : fT) (_ : fP W) (_ : Option Value → W → Prop) (k : Nat → fL_ → List Value → W → Prop) (_ : Nat) (pc : Nat) (lg : fL_) (vs : List Value) (w : W) : Prop := match vs with
  | x :: r => (ck_cm cd (iv x).toInt 0 → k (f_tg pc off) lg r w) ∧ (¬ ck_cm cd (iv x).toInt 0 → k (pc + 3) lg r w)
  | _ => False
def wi_if_icmp {W : Type} (cd : ClassFile.Cond) (off : Int) (_ : fO W) (_ : fT) (_ : fP W) (_ : Option Value → W → Prop) (k : Nat → fL_ → List Value → W → Prop) (_ : Nat) (pc : Nat) (lg : fL_) (vs : List Value) (w : W) : Prop := match vs with
  | y :: x :: r => (ck_cm cd (iv x).toInt (iv y).toInt → k (f_tg pc off) lg r w) ∧ (¬ ck_cm cd (iv x).toInt (iv y).toInt → k (pc + 3) lg r w)
  | _ => False
def wi_ifnull {W : Type} (off : Int) (_ : fO W) (_ : fT) (_ : fP W) (_ : Option Value → W → Prop) (k : Nat → fL_ → List Value → W → Prop) (_ : Nat) (pc : Nat) (lg : fL_) (vs : List Value) (w : W) : Prop := match vs with
  | v :: r => (v = .null → k (f_tg pc off) lg r w) ∧ (¬ v = .null → k (pc + 3) lg r w)
  | _ => False
def wi_ifnonnull {W : Type} (off : Int) (_ : fO W) (_ : fT) (_ : fP W) (_ : Option Value → W → Prop) (k : Nat → fL_ → List Value → W → Prop) (_ : Nat) (pc : Nat) (lg : fL_) (vs : List Value) (w : W) : Prop := match vs with
  | v :: r => (¬ v = .null → k (f_tg pc off) lg r w) ∧ (v = .null → k (pc + 3) lg r w)
  | _ => False
def wi_tableswitch {W : Type} (d : Int) (lo : Int) (hi : Int) (os : Array Int) (_ : fO W) (_ : fT) (_ : fP W) (_ : Option Value → W → Prop) (k : Nat → fL_ → List Value → W → Prop) (_ : Nat) (pc : Nat) (lg : fL_) (vs : List Value) (w : W) : Prop := match vs with
  | x :: r => ((iv x).toInt < lo ∨ hi < (iv x).toInt → k (f_tg pc d) lg r w) ∧ (lo ≤ (iv x).toInt → (iv x).toInt ≤ hi → wT k pc lg r w (iv x) lo os.toList)
  | _ => False
def wi_getfield {W : Type} (i : Nat) (O : fO W) (T : fT) (_ : fP W) (_ : Option Value → W → Prop) (k : Nat → fL_ → List Value → W → Prop) (_ : Nat) (pc : Nat) (lg : fL_) (vs : List Value) (w : W) : Prop := match vs with
  | p :: r => k (pc + 3) lg (eG T.1 i (O.1 w (rv_ p)) :: r) w
  | _ => False
def wi_putfield {W : Type} (i : Nat) (O : fO W) (T : fT) (_ : fP W) (_ : Option Value → W → Prop) (k : Nat → fL_ → List Value → W → Prop) (_ : Nat) (pc : Nat) (lg : fL_) (vs : List Value) (w : W) : Prop := match vs with
  | u :: p :: r => O.2.1 w (rv_ p) (sG T.2.1 i u (O.1 w (rv_ p))) (k (pc + 3) lg r)
  | _ => False
def wi_getstatic {W : Type} (_ : Nat) (O : fO W) (_ : fT) (_ : fP W) (_ : Option Value → W → Prop) (k : Nat → fL_ → List Value → W → Prop) (_ : Nat) (pc : Nat) (lg : fL_) (vs : List Value) (w : W) : Prop := ∀ p, O.1 w p = none → k (pc + 3) lg (.ref p :: vs) w
def wi_iaload {W : Type}  (O : fO W) (T : fT) (_ : fP W) (_ : Option Value → W → Prop) (k : Nat → fL_ → List Value → W → Prop) (_ : Nat) (pc : Nat) (lg : fL_) (vs : List Value) (w : W) : Prop := match vs with
  | x :: p :: r => match T.2.2.2.2.2.2 with
    | none => k (pc + 1) lg (.int (eI (O.1 w (rv_ p)) (iv x).toNatClampNeg) :: r) w
    | some sb => rv_ p = sb.1 ∧ k (pc + 1) lg (.int (sb.2.2 (iv x).toNatClampNeg) :: r) w
  | _ => False
def wi_laload {W : Type}  (O : fO W) (_ : fT) (_ : fP W) (_ : Option Value → W → Prop) (k : Nat → fL_ → List Value → W → Prop) (_ : Nat) (pc : Nat) (lg : fL_) (vs : List Value) (w : W) : Prop := match vs with
  | x :: p :: r => k (pc + 1) lg (.long (eJ (O.1 w (rv_ p)) (iv x).toNatClampNeg) :: r) w
  | _ => False
def wi_baload {W : Type}  (O : fO W) (_ : fT) (_ : fP W) (_ : Option Value → W → Prop) (k : Nat → fL_ → List Value → W → Prop) (_ : Nat) (pc : Nat) (lg : fL_) (vs : List Value) (w : W) : Prop := match vs with
  | x :: p :: r => k (pc + 1) lg (.int (eI (O.1 w (rv_ p)) (iv x).toNatClampNeg) :: r) w
  | _ => False
def wi_aaload {W : Type}  (O : fO W) (_ : fT) (_ : fP W) (_ : Option Value → W → Prop) (k : Nat → fL_ → List Value → W → Prop) (_ : Nat) (pc : Nat) (lg : fL_) (vs : List Value) (w : W) : Prop := match vs with
  | x :: p :: r => k (pc + 1) lg (eR (O.1 w (rv_ p)) (iv x).toNatClampNeg :: r) w
  | _ => False
def wi_iastore {W : Type}  (O : fO W) (_ : fT) (_ : fP W) (_ : Option Value → W → Prop) (k : Nat → fL_ → List Value → W → Prop) (_ : Nat) (pc : Nat) (lg : fL_) (vs : List Value) (w : W) : Prop := match vs with
  | v :: x :: p :: r => O.2.1 w (rv_ p) (sI (iv x).toNatClampNeg (iv v) (O.1 w (rv_ p))) (k (pc + 1) lg r)
  | _ => False
def wi_lastore {W : Type}  (O : fO W) (_ : fT) (_ : fP W) (_ : Option Value → W → Prop) (k : Nat → fL_ → List Value → W → Prop) (_ : Nat) (pc : Nat) (lg : fL_) (vs : List Value) (w : W) : Prop := match vs with
  | v :: x :: p :: r => O.2.1 w (rv_ p) (sJ (iv x).toNatClampNeg (jv v) (O.1 w (rv_ p))) (k (pc + 1) lg r)
  | _ => False
def wi_bastore {W : Type}  (O : fO W) (_ : fT) (_ : fP W) (_ : Option Value → W → Prop) (k : Nat → fL_ → List Value → W → Prop) (_ : Nat) (pc : Nat) (lg : fL_) (vs : List Value) (w : W) : Prop := match vs with
  | v :: x :: p :: r => O.2.1 w (rv_ p) (sI (iv x).toNatClampNeg (vp_nar .boolean (iv v)) (O.1 w (rv_ p))) (k (pc + 1) lg r)
  | _ => False
def wi_aastore {W : Type}  (O : fO W) (_ : fT) (_ : fP W) (_ : Option Value → W → Prop) (k : Nat → fL_ → List Value → W → Prop) (_ : Nat) (pc : Nat) (lg : fL_) (vs : List Value) (w : W) : Prop := match vs with
  | v :: x :: p :: r => O.2.1 w (rv_ p) (sR (iv x).toNatClampNeg v (O.1 w (rv_ p))) (k (pc + 1) lg r)
  | _ => False
def wi_arraylength {W : Type}  (O : fO W) (T : fT) (_ : fP W) (_ : Option Value → W → Prop) (k : Nat → fL_ → List Value → W → Prop) (_ : Nat) (pc : Nat) (lg : fL_) (vs : List Value) (w : W) : Prop := match vs with
  | p :: r => match T.2.2.2.2.2.2 with
    | none => k (pc + 1) lg (.int (Int32.ofNat (eL (O.1 w (rv_ p)))) :: r) w
    | some sb => rv_ p = sb.1 ∧ k (pc + 1) lg (.int (Int32.ofNat sb.2.1) :: r) w
  | _ => False
def wi_new {W : Type} (i : Nat) (O : fO W) (T : fT) (_ : fP W) (_ : Option Value → W → Prop) (k : Nat → fL_ → List Value → W → Prop) (_ : Nat) (pc : Nat) (lg : fL_) (vs : List Value) (w : W) : Prop := ∀ (q : Nat) (ty : Nat → FieldType), O.1 w q = none → match T.2.2.1.find? (fun x => x.1 == i) with
    | some x => O.2.2 w q (.inr (x.2.1, (List.range x.2.2.2).map fun j => defaultValue (ty j))) x.2.2.1 (k (pc + 3) lg (.ref q :: vs))
    | none => False
def wi_instanceof {W : Type} (i : Nat) (O : fO W) (T : fT) (_ : fP W) (_ : Option Value → W → Prop) (k : Nat → fL_ → List Value → W → Prop) (_ : Nat) (pc : Nat) (lg : fL_) (vs : List Value) (w : W) : Prop := match vs with
  | p :: r => k (pc + 3) lg (.int (eT T.2.2.2.2.1 i (O.1 w (rv_ p))) :: r) w
  | _ => False
def wi_checkcast {W : Type} (_ : Nat) (_ : fO W) (_ : fT) (_ : fP W) (_ : Option Value → W → Prop) (k : Nat → fL_ → List Value → W → Prop) (_ : Nat) (pc : Nat) (lg : fL_) (vs : List Value) (w : W) : Prop := k (pc + 3) lg vs w
def wi_invokevirtual {W : Type} (i : Nat) (O : fO W) (_ : fT) (Sp : fP W) (_ : Option Value → W → Prop) (k : Nat → fL_ → List Value → W → Prop) (_ : Nat) (pc : Nat) (lg : fL_) (vs : List Value) (w : W) : Prop := wcall O Sp k (3 * i) pc lg vs w
def wi_invokestatic {W : Type} (i : Nat) (O : fO W) (_ : fT) (Sp : fP W) (_ : Option Value → W → Prop) (k : Nat → fL_ → List Value → W → Prop) (_ : Nat) (pc : Nat) (lg : fL_) (vs : List Value) (w : W) : Prop := wcall O Sp k (3 * i + 1) pc lg vs w
def wi_invokespecial {W : Type} (i : Nat) (O : fO W) (_ : fT) (Sp : fP W) (_ : Option Value → W → Prop) (k : Nat → fL_ → List Value → W → Prop) (_ : Nat) (pc : Nat) (lg : fL_) (vs : List Value) (w : W) : Prop := wcall O Sp k (3 * i + 2) pc lg vs w
def wi_return {W : Type}  (_ : fO W) (_ : fT) (_ : fP W) (Post : Option Value → W → Prop) (_ : Nat → fL_ → List Value → W → Prop) (_ : Nat) (_ : Nat) (_ : fL_) (vs : List Value) (w : W) : Prop := match vs with
  | [] => Post none w
  | _ => False
def wi_ireturn {W : Type}  (_ : fO W) (_ : fT) (_ : fP W) (Post : Option Value → W → Prop) (_ : Nat → fL_ → List Value → W → Prop) (_ : Nat) (_ : Nat) (_ : fL_) (vs : List Value) (w : W) : Prop := match vs with
  | [v] => Post (some v) w
  | _ => False
def wi_lreturn {W : Type}  (_ : fO W) (_ : fT) (_ : fP W) (Post : Option Value → W → Prop) (_ : Nat → fL_ → List Value → W → Prop) (_ : Nat) (_ : Nat) (_ : fL_) (vs : List Value) (w : W) : Prop := match vs with
  | [v] => Post (some v) w
  | _ => False
def wi_areturn {W : Type}  (_ : fO W) (_ : fT) (_ : fP W) (Post : Option Value → W → Prop) (_ : Nat → fL_ → List Value → W → Prop) (_ : Nat) (_ : Nat) (_ : fL_) (vs : List Value) (w : W) : Prop := match vs with
  | [v] => Post (some v) w
  | _ => False
def wi_dp {W : Type} (ins : Instr) : wi_st W := match ins with
  | .iconst v => wi_iconst v
  | .bipush v => wi_bipush v
  | .sipush v => wi_sipush v
  | .lconst v => wi_lconst v
  | .ldc i => wi_ldc i
  | .ldc_w i => wi_ldc_w i
  | .ldc2_w i => wi_ldc2_w i
  | .iload_n i => wi_iload_n i
  | .iload i => wi_iload i
  | .lload_n i => wi_lload_n i
  | .lload i => wi_lload i
  | .aload_n i => wi_aload_n i
  | .aload i => wi_aload i
  | .istore_n i => wi_istore_n i
  | .istore i => wi_istore i
  | .astore_n i => wi_astore_n i
  | .astore i => wi_astore i
  | .lstore_n i => wi_lstore_n i
  | .lstore i => wi_lstore i
  | .iinc i c => wi_iinc i c
  | .iadd => wi_iadd
  | .isub => wi_isub
  | .imul => wi_imul
  | .iand => wi_iand
  | .ior => wi_ior
  | .ixor => wi_ixor
  | .ishl => wi_ishl
  | .ishr => wi_ishr
  | .iushr => wi_iushr
  | .idiv => wi_idiv
  | .irem => wi_irem
  | .ladd => wi_ladd
  | .lsub => wi_lsub
  | .lmul => wi_lmul
  | .land => wi_land
  | .lor => wi_lor
  | .lxor => wi_lxor
  | .lushr => wi_lushr
  | .lshr => wi_lshr
  | .lshl => wi_lshl
  | .ineg => wi_ineg
  | .i2l => wi_i2l
  | .l2i => wi_l2i
  | .i2b => wi_i2b
  | .i2s => wi_i2s
  | .lcmp => wi_lcmp
  | .aconst_null => wi_aconst_null
  | .dup => wi_dup
  | .pop => wi_pop
  | .pop2 => wi_pop2
  | .dup2 => wi_dup2
  | .goto off => wi_goto off
  | .ifCond cd off => wi_ifCond cd off
  | .if_icmp cd off => wi_if_icmp cd off
  | .ifnull off => wi_ifnull off
  | .ifnonnull off => wi_ifnonnull off
  | .tableswitch d lo hi os => wi_tableswitch d lo hi os
  | .getfield i => wi_getfield i
  | .putfield i => wi_putfield i
  | .getstatic u0 => wi_getstatic u0
  | .iaload => wi_iaload
  | .laload => wi_laload
  | .baload => wi_baload
  | .aaload => wi_aaload
  | .iastore => wi_iastore
  | .lastore => wi_lastore
  | .bastore => wi_bastore
  | .aastore => wi_aastore
  | .arraylength => wi_arraylength
  | .new i => wi_new i
  | .instanceof i => wi_instanceof i
  | .checkcast u0 => wi_checkcast u0
  | .invokevirtual i => wi_invokevirtual i
  | .invokestatic i => wi_invokestatic i
  | .invokespecial i => wi_invokespecial i
  | .return_ => wi_return
  | .ireturn => wi_ireturn
  | .lreturn => wi_lreturn
  | .areturn => wi_areturn
  | _ => fun _ _ _ _ _ _ _ _ _ _ => False
def wstepG {W : Type} (O : fO W) (T : fT) (Sp : fP W) (Post : Option Value → W → Prop) (k : Nat → fL_ → List Value → W → Prop) (ins : Instr) (len pc : Nat) (lg : fL_) (vs : List Value) (w : W) : Prop := wi_dp ins O T Sp Post k len pc lg vs w
theorem wstepG_eq {W : Type} {O : fO W} {T : fT} {Sp : fP W} {Post : Option Value → W → Prop} {k : Nat → fL_ → List Value → W → Prop} {ins : Instr} {len pc : Nat} {lg : fL_} {vs : List Value} {w : W} : wstepG O T Sp Post k ins len pc lg vs w = wstep O T Sp Post k ins len pc lg vs w := by
  cases ins with
  | iconst v => rfl
  | bipush v => rfl
  | sipush v => rfl
  | lconst v => rfl
  | ldc i => rfl
  | ldc_w i => rfl
  | ldc2_w i => rfl
  | iload_n i => rfl
  | iload i => rfl
  | lload_n i => rfl
  | lload i => rfl
  | aload_n i => rfl
  | aload i => rfl
  | istore_n i => rcases vs with _ | ⟨_, r⟩ <;> rfl
  | istore i => rcases vs with _ | ⟨_, r⟩ <;> rfl
  | astore_n i => rcases vs with _ | ⟨_, r⟩ <;> rfl
  | astore i => rcases vs with _ | ⟨_, r⟩ <;> rfl
  | lstore_n i => rcases vs with _ | ⟨_, r⟩ <;> rfl
  | lstore i => rcases vs with _ | ⟨_, r⟩ <;> rfl
  | iinc i c => rfl
  | iadd => rcases vs with _ | ⟨_, _ | ⟨_, r⟩⟩ <;> rfl
  | isub => rcases vs with _ | ⟨_, _ | ⟨_, r⟩⟩ <;> rfl
  | imul => rcases vs with _ | ⟨_, _ | ⟨_, r⟩⟩ <;> rfl
  | iand => rcases vs with _ | ⟨_, _ | ⟨_, r⟩⟩ <;> rfl
  | ior => rcases vs with _ | ⟨_, _ | ⟨_, r⟩⟩ <;> rfl
  | ixor => rcases vs with _ | ⟨_, _ | ⟨_, r⟩⟩ <;> rfl
  | ishl => rcases vs with _ | ⟨_, _ | ⟨_, r⟩⟩ <;> rfl
  | ishr => rcases vs with _ | ⟨_, _ | ⟨_, r⟩⟩ <;> rfl
  | iushr => rcases vs with _ | ⟨_, _ | ⟨_, r⟩⟩ <;> rfl
  | idiv => rcases vs with _ | ⟨_, _ | ⟨_, r⟩⟩ <;> rfl
  | irem => rcases vs with _ | ⟨_, _ | ⟨_, r⟩⟩ <;> rfl
  | ladd => rcases vs with _ | ⟨_, _ | ⟨_, r⟩⟩ <;> rfl
  | lsub => rcases vs with _ | ⟨_, _ | ⟨_, r⟩⟩ <;> rfl
  | lmul => rcases vs with _ | ⟨_, _ | ⟨_, r⟩⟩ <;> rfl
  | land => rcases vs with _ | ⟨_, _ | ⟨_, r⟩⟩ <;> rfl
  | lor => rcases vs with _ | ⟨_, _ | ⟨_, r⟩⟩ <;> rfl
  | lxor => rcases vs with _ | ⟨_, _ | ⟨_, r⟩⟩ <;> rfl
  | lushr => rcases vs with _ | ⟨_, _ | ⟨_, r⟩⟩ <;> rfl
  | lshr => rcases vs with _ | ⟨_, _ | ⟨_, r⟩⟩ <;> rfl
  | lshl => rcases vs with _ | ⟨_, _ | ⟨_, r⟩⟩ <;> rfl
  | ineg => rcases vs with _ | ⟨_, r⟩ <;> rfl
  | i2l => rcases vs with _ | ⟨_, r⟩ <;> rfl
  | l2i => rcases vs with _ | ⟨_, r⟩ <;> rfl
  | i2b => rcases vs with _ | ⟨_, r⟩ <;> rfl
  | i2s => rcases vs with _ | ⟨_, r⟩ <;> rfl
  | lcmp => rcases vs with _ | ⟨_, _ | ⟨_, r⟩⟩ <;> rfl
  | aconst_null => rfl
  | dup => rcases vs with _ | ⟨_, r⟩ <;> rfl
  | pop => rcases vs with _ | ⟨_, r⟩ <;> rfl
  | pop2 => rcases vs with _ | ⟨_, r⟩ <;> rfl
  | dup2 => rcases vs with _ | ⟨_, _ | ⟨_, r⟩⟩ <;> rfl
  | goto off => rfl
  | ifCond cd off => rcases vs with _ | ⟨_, r⟩ <;> rfl
  | if_icmp cd off => rcases vs with _ | ⟨_, _ | ⟨_, r⟩⟩ <;> rfl
  | ifnull off => rcases vs with _ | ⟨_, r⟩ <;> rfl
  | ifnonnull off => rcases vs with _ | ⟨_, r⟩ <;> rfl
  | tableswitch d lo hi os => rcases vs with _ | ⟨_, r⟩ <;> rfl
  | getfield i => rcases vs with _ | ⟨_, r⟩ <;> rfl
  | putfield i => rcases vs with _ | ⟨_, _ | ⟨_, r⟩⟩ <;> rfl
  | getstatic u0 => rfl
  | iaload => rcases vs with _ | ⟨_, _ | ⟨_, r⟩⟩ <;> rfl
  | laload => rcases vs with _ | ⟨_, _ | ⟨_, r⟩⟩ <;> rfl
  | baload => rcases vs with _ | ⟨_, _ | ⟨_, r⟩⟩ <;> rfl
  | aaload => rcases vs with _ | ⟨_, _ | ⟨_, r⟩⟩ <;> rfl
  | iastore => rcases vs with _ | ⟨_, _ | ⟨_, _ | ⟨_, r⟩⟩⟩ <;> rfl
  | lastore => rcases vs with _ | ⟨_, _ | ⟨_, _ | ⟨_, r⟩⟩⟩ <;> rfl
  | bastore => rcases vs with _ | ⟨_, _ | ⟨_, _ | ⟨_, r⟩⟩⟩ <;> rfl
  | aastore => rcases vs with _ | ⟨_, _ | ⟨_, _ | ⟨_, r⟩⟩⟩ <;> rfl
  | arraylength => rcases vs with _ | ⟨_, r⟩ <;> rfl
  | new i => rfl
  | instanceof i => rcases vs with _ | ⟨_, r⟩ <;> rfl
  | checkcast u0 => rfl
  | invokevirtual i => rfl
  | invokestatic i => rfl
  | invokespecial i => rfl
  | return_ => rcases vs with _ | ⟨_, _⟩ <;> rfl
  | ireturn => rcases vs with _ | ⟨_, _ | ⟨_, _⟩⟩ <;> rfl
  | lreturn => rcases vs with _ | ⟨_, _ | ⟨_, _⟩⟩ <;> rfl
  | areturn => rcases vs with _ | ⟨_, _ | ⟨_, _⟩⟩ <;> rfl
  | _ => rfl
/-- a place of the code, with its number as it stands there -/
def ck_fndN : ck_cd → Nat → Option (Nat × Instr × Nat × ck_cd)
  | [], _ => none
  | y :: t, pc => bif Nat.beq y.1 pc then some (y.1, y.2.1, y.2.2, t) else ck_fndN t pc
def ck_sfxN (code suf : ck_cd) (pc : Nat) : Option (Nat × Instr × Nat × ck_cd) := match suf with
  | y :: t => bif Nat.beq y.1 pc then some (y.1, y.2.1, y.2.2, t) else ck_fndN code pc
  | [] => ck_fndN code pc
theorem ck_fndN_ok {pc : Nat} : ∀ {code : ck_cd} {y : Nat × Instr × Nat × ck_cd}, ck_fndN code pc = some y → y.1 = pc ∧ ck_fnd code pc = some y.2
  | [], _, h => by
    rw [ck_fndN] at h
    cases h
  | x :: t, y, h => by
    rw [ck_fndN] at h
    rw [ck_fnd_c]
    cases hb : Nat.beq x.1 pc with
    | true =>
      rw [hb] at h
      have h : some (x.1, x.2.1, x.2.2, t) = some y := h
      have e := Option.some.inj h
      subst e
      exact ⟨Nat.eq_of_beq_eq_true hb, rfl⟩
    | false =>
      rw [hb] at h
      have h : ck_fndN t pc = some y := h
      exact ck_fndN_ok h
theorem ck_sfxN_ok {code suf : ck_cd} {pc : Nat} {y : Nat × Instr × Nat × ck_cd} (h : ck_sfxN code suf pc = some y) : y.1 = pc ∧ ck_sfx code suf pc = some y.2 := by
  cases suf with
  | nil => exact ck_fndN_ok h
  | cons x t =>
    have h : (bif Nat.beq x.1 pc then some (x.1, x.2.1, x.2.2, t) else ck_fndN code pc) = some y := h
    cases hb : Nat.beq x.1 pc with
    | true =>
      rw [hb] at h
      have h : some (x.1, x.2.1, x.2.2, t) = some y := h
      have e := Option.some.inj h
      subst e
      have hp := Nat.eq_of_beq_eq_true hb
      exact ⟨hp, if_pos hp⟩
    | false =>
      rw [hb] at h
      have h : ck_fndN code pc = some y := h
      have hp : ¬ x.1 = pc := fun z => by
        have e : Nat.beq x.1 pc = true := by
          rw [Nat.beq_eq]
          exact z
        rw [e] at hb
        cases hb
      obtain ⟨h1, h2⟩ := ck_fndN_ok h
      exact ⟨h1, (if_neg hp).trans h2⟩
/-- loops' heads -/
abbrev fI (W : Type) : Type := List (Nat × (fL_ → List Value → W → Prop))
def wl {W : Type} (O : fO W) (T : fT) (Sp : fP W) (Post : Option Value → W → Prop) (code : ck_cd) (hd : fI W) : Nat → ck_cd → Nat → fL_ → List Value → W → Prop
  | 0, _, _, _, _, _ => False
  | f + 1, suf, pc, lg, vs, w => match hd.find? (fun x => Nat.beq x.1 pc) with
    | some x => x.2 lg vs w
    | none => match ck_sfxN code suf pc with
      | some y => wstepG O T Sp Post (wl O T Sp Post code hd f y.2.2.2) y.2.1 y.2.2.1 y.1 lg vs w
      | none => False
/-- from a head on -/
def wh {W : Type} (O : fO W) (T : fT) (Sp : fP W) (Post : Option Value → W → Prop) (code : ck_cd) (hd : fI W) (f pc : Nat) (lg : fL_) (vs : List Value) (w : W) : Prop := match ck_fndN code pc with
  | some y => wstepG O T Sp Post (wl O T Sp Post code hd f y.2.2.2) y.2.1 y.2.2.1 y.1 lg vs w
  | none => False
def f_sub : fL_ → fL_ → Prop
  | [], _ => True
  | x :: l, lg => lkb lg x.1 = some x.2 ∧ f_sub l lg
end
noncomputable section
/-! what is said of a trace holds of it -/
theorem lk_mem : ∀ {l : fL_} {i : Nat} {v : Value}, lk l i = some v → ∃ x ∈ l, x.1 = i ∧ x.2.2 = v
  | [], _, _, h => by cases h
  | x :: l, i, v, h => by
    unfold lk at h
    cases hx : x.1 == i with
    | true =>
      rw [hx] at h
      exact ⟨x, List.mem_cons_self, eq_of_beq hx, Option.some.inj h⟩
    | false =>
      rw [hx] at h
      obtain ⟨y, h1, h2⟩ := lk_mem (l := l) h
      exact ⟨y, List.mem_cons_of_mem _ h1, h2⟩
theorem lkb_mem : ∀ {l : fL_} {i : Nat} {v : Bool × Value}, lkb l i = some v → ∃ x ∈ l, x.1 = i ∧ x.2 = v
  | [], _, _, h => by cases h
  | x :: l, i, v, h => by
    unfold lkb at h
    cases hx : x.1 == i with
    | true =>
      rw [hx] at h
      exact ⟨x, List.mem_cons_self, eq_of_beq hx, Option.some.inj h⟩
    | false =>
      rw [hx] at h
      obtain ⟨y, h1, h2⟩ := lkb_mem (l := l) h
      exact ⟨y, List.mem_cons_of_mem _ h1, h2⟩
def f_rel (l : fL_) (lg : List (Nat × Value)) : Prop := ∀ x ∈ l, (x.1, x.2.2) ∈ lg ∧ (x.2.1 = false → x.2.2.category = 1)
theorem f_rel.sub {l l2 : fL_} {lg : List (Nat × Value)} (h : f_rel l2 lg) (hs : f_sub l l2) : f_rel l lg := by
  induction l with
  | nil => exact fun x hx => absurd hx List.not_mem_nil
  | cons y l ih =>
    intro x hx
    rcases List.mem_cons.mp hx with rfl | hx
    · obtain ⟨z, z1, z2, z3⟩ := lkb_mem hs.1
      have := h z z1
      rw [z2, z3] at this
      exact this
    · exact ih hs.2 x hx
theorem f_rel.st1 {l : fL_} {lg : List (Nat × Value)} (h : f_rel l lg) {i : Nat} {v : Value} (hc : v.category = 1) : f_rel (ls1 l i v) (f_st1 lg i v) := by
  intro x hx
  rcases List.mem_cons.mp hx with rfl | hx
  · exact ⟨List.mem_cons_self, fun _ => hc⟩
  · obtain ⟨h1, h2⟩ := List.mem_filter.mp hx
    obtain ⟨h3, h4⟩ := h x h1
    refine ⟨List.mem_cons_of_mem _ (List.mem_filter.mpr ⟨h3, ?_⟩), h4⟩
    rw [Bool.and_eq_true] at h2 ⊢
    refine ⟨h2.1, ?_⟩
    cases hb : x.2.1 with
    | false =>
      rw [h4 hb]
      simp
    | true =>
      have h5 := h2.2
      rw [hb, Bool.and_true, Bool.not_eq_true'] at h5
      rw [h5]
      rfl
theorem f_rel.st2 {l : fL_} {lg : List (Nat × Value)} (h : f_rel l lg) {i : Nat} {v : Value} : f_rel (ls2 l i v) (f_st2 lg i v) := by
  intro x hx
  rcases List.mem_cons.mp hx with rfl | hx
  · exact ⟨List.mem_cons_self, fun z => by cases z⟩
  · obtain ⟨h1, h2⟩ := List.mem_filter.mp hx
    obtain ⟨h3, h4⟩ := h x h1
    refine ⟨List.mem_cons_of_mem _ (List.mem_filter.mpr ⟨h3, ?_⟩), h4⟩
    rw [Bool.and_eq_true, Bool.and_eq_true] at h2 ⊢
    refine ⟨h2.1, h2.2.1, ?_⟩
    cases hb : x.2.1 with
    | false =>
      rw [h4 hb]
      simp
    | true =>
      have h5 := h2.2.2
      rw [hb, Bool.and_true, Bool.not_eq_true'] at h5
      rw [h5]
      rfl
/-- the tables name each thing once -/
def f_ok5 (a : List (Nat × Nat × Nat)) (b c : List (Nat × Nat × Nat × Nat)) (d : List (Nat × Nat × Int)) (e : List (Nat × Nat × Nat)) : Bool := a.all (fun x => a.find? (fun y => y.1 == x.1 && y.2.1 == x.2.1) == some x) && (b.all (fun x => b.find? (fun y => y.1 == x.1 && y.2.1 == x.2.1) == some x) && (c.all (fun x => c.find? (fun y => y.1 == x.1) == some x) &&
  (d.all (fun x => d.find? (fun y => y.1 == x.1 && y.2.1 == x.2.1) == some x) && e.all (fun x => e.find? (fun y => y.1 == x.1 && y.2.1 == x.2.1) == some x))))
def f_ok (T : fT) : Bool := f_ok5 T.1 T.2.1 T.2.2.1 T.2.2.2.1 T.2.2.2.2.1
theorem hof_at {ws : va_W} (hd : f_dj ws) {q p : Nat} {e : va_E} (h : ws[q]? = some (p, e)) : hof ws p = some e := by
  unfold hof
  cases hf : ws.find? (fun x => x.1 == p) with
  | none =>
    have := List.find?_eq_none.mp hf (p, e) (List.mem_of_getElem? h)
    simp at this
  | some y =>
    have hm := List.mem_of_find?_eq_some hf
    have hp := List.find?_some hf
    obtain ⟨j, hj⟩ := List.getElem?_of_mem hm
    have e1 := hd j q y (p, e) hj h (eq_of_beq hp)
    subst e1
    rw [hj] at h
    have e2 := Option.some.inj h
    rw [e2]
    rfl
theorem hof_out {ws : va_W} {p : Nat} (h : f_out ws p) : hof ws p = none := by
  unfold hof
  cases hf : ws.find? (fun x => x.1 == p) with
  | none => rfl
  | some y =>
    have hm := List.mem_of_find?_eq_some hf
    have hp := List.find?_some hf
    obtain ⟨j, hj⟩ := List.getElem?_of_mem hm
    have hp : y.1 = p := eq_of_beq hp
    exact absurd (by rw [hj, ← hp]) (h j y.2)
theorem hof_some {ws : va_W} {p : Nat} {e : va_E} (h : hof ws p = some e) : ∃ q : Nat, ws[q]? = some (p, e) := by
  unfold hof at h
  cases hf : ws.find? (fun x => x.1 == p) with
  | none => rw [hf] at h; cases h
  | some y =>
    rw [hf] at h
    have hm := List.mem_of_find?_eq_some hf
    have hp := List.find?_some hf
    obtain ⟨j, hj⟩ := List.getElem?_of_mem hm
    have hp : y.1 = p := eq_of_beq hp
    have e1 : y.2 = e := Option.some.inj h
    exact ⟨j, by rw [hj, ← hp, ← e1]⟩
theorem f_dj.set {ws : va_W} (hd : f_dj ws) {q p : Nat} {e e' : va_E} (h : ws[q]? = some (p, e)) : f_dj (ws.set q (p, e')) := by
  have hlt := (List.getElem?_eq_some_iff.mp h).1
  have key : ∀ (i : Nat) (x : Nat × va_E), (ws.set q (p, e'))[i]? = some x → ∃ y, ws[i]? = some y ∧ y.1 = x.1 := by
    intro i x hx
    by_cases e1 : q = i
    · subst e1
      rw [List.getElem?_set_self hlt] at hx
      have e2 := Option.some.inj hx
      exact ⟨_, h, by rw [← e2]⟩
    · rw [List.getElem?_set_ne e1] at hx
      exact ⟨x, hx, rfl⟩
  intro i j x y hx hy hxy
  obtain ⟨x', x1, x2⟩ := key i x hx
  obtain ⟨y', y1, y2⟩ := key j y hy
  exact hd i j x' y' x1 y1 (by rw [x2, y2, hxy])
theorem hof_set {ws : va_W} (hd : f_dj ws) {q p : Nat} {e e' : va_E} (h : ws[q]? = some (p, e)) : hof (ws.set q (p, e')) = hset (hof ws) p e' := by
  have hlt := (List.getElem?_eq_some_iff.mp h).1
  funext a
  unfold hset
  split
  · rename_i ea
    subst ea
    exact hof_at (hd.set h) (List.getElem?_set_self hlt)
  · rename_i ea
    cases ho : hof ws a with
    | none =>
      refine hof_out (fun j u hj => ?_)
      by_cases e1 : q = j
      · subst e1
        rw [List.getElem?_set_self hlt] at hj
        exact ea (congrArg Prod.fst (Option.some.inj hj)).symm
      · rw [List.getElem?_set_ne e1] at hj
        rw [hof_at hd hj] at ho
        cases ho
    | some u =>
      obtain ⟨j, hj⟩ := hof_some ho
      refine hof_at (q := j) (hd.set h) ?_
      rw [List.getElem?_set_ne (fun e1 => ?_)]
      · exact hj
      · subst e1
        rw [h] at hj
        exact ea (congrArg Prod.fst (Option.some.inj hj)).symm
theorem hof_app {ws : va_W} {q : Nat} {e : va_E} (hd : f_dj (ws ++ [(q, e)])) : hof (ws ++ [(q, e)]) = hset (hof ws) q e ∧ hof ws q = none ∧ f_dj ws := by
  have hq : (ws ++ [(q, e)])[ws.length]? = some (q, e) := by simp
  have hl : ∀ (i : Nat) (x : Nat × va_E), ws[i]? = some x → (ws ++ [(q, e)])[i]? = some x := fun i x hx => by
    rw [List.getElem?_append_left (List.getElem?_eq_some_iff.mp hx).1]; exact hx
  have hdj : f_dj ws := fun i j x y hx hy hxy => hd i j x y (hl i x hx) (hl j y hy) hxy
  have hout : hof ws q = none := hof_out (fun j u hj => by
    have e1 := hd j ws.length _ _ (hl j _ hj) hq rfl
    have := (List.getElem?_eq_some_iff.mp hj).1
    omega)
  refine ⟨?_, hout, hdj⟩
  funext a
  unfold hset
  split
  · rename_i ea
    subst ea
    exact hof_at hd hq
  · rename_i ea
    cases ho : hof ws a with
    | none =>
      refine hof_out (fun j u hj => ?_)
      by_cases hlt : j < ws.length
      · rw [List.getElem?_append_left hlt] at hj
        rw [hof_at hdj hj] at ho
        cases ho
      · have hje : j = ws.length := by
          have := (List.getElem?_eq_some_iff.mp hj).1
          simp at this
          omega
        subst hje
        rw [hq] at hj
        exact ea (congrArg Prod.fst (Option.some.inj hj)).symm
    | some u =>
      obtain ⟨j, hj⟩ := hof_some ho
      exact hof_at hd (hl j _ hj)
/-- a world that follows the machine's -/
def f_wr {W : Type} (O : fO W) (Rw : W → va_W → List Nat → Prop) : Prop :=
  (∀ (w : W) (ws : va_W) (sh : List Nat), Rw w ws sh → O.1 w = hof ws ∧ f_dj ws) ∧
  (∀ (w : W) (ws : va_W) (sh : List Nat) (p q : Nat) (e e' : va_E) (K : W → Prop), Rw w ws sh → ws[q]? = some (p, e) → O.2.1 w p e' K → ∃ w', Rw w' (ws.set q (p, e')) sh ∧ K w') ∧
  ∀ (w : W) (ws : va_W) (sh : List Nat) (q t : Nat) (e : va_E) (K : W → Prop), Rw w ws sh → f_dj (ws ++ [(q, e)]) → O.2.2 w q e t K → ∃ w', Rw w' (ws ++ [(q, e)]) (sh ++ [t]) ∧ K w'
def f_sp {W : Type} (T : fT) (Sp : fP W) (Rw : W → va_W → List Nat → Prop) : Prop := ∀ x ∈ Sp, (T.2.2.2.2.2.1 x.1).1 = x.2.1 ∧ ∀ (As : List Value) (w : W) (ws : va_W) (sh : List Nat) (rv : Option Value) (ws' : va_W) (sh' : List Nat), Rw w ws sh → (T.2.2.2.2.2.1 x.1).2 As ws sh rv ws' sh' → ∃ w', Rw w' ws' sh' ∧ x.2.2 As w rv w'
end
section
/-! a step of the trace is a step of what is said of it -/
theorem f_ok_r {T : fT} (h : f_ok T = true) : (∀ x ∈ T.1, T.1.find? (fun y => y.1 == x.1 && y.2.1 == x.2.1) = some x) ∧ (∀ x ∈ T.2.1, T.2.1.find? (fun y => y.1 == x.1 && y.2.1 == x.2.1) = some x) ∧ (∀ x ∈ T.2.2.1, T.2.2.1.find? (fun y => y.1 == x.1) = some x) ∧
    (∀ x ∈ T.2.2.2.1, T.2.2.2.1.find? (fun y => y.1 == x.1 && y.2.1 == x.2.1) = some x) ∧ ∀ x ∈ T.2.2.2.2.1, T.2.2.2.2.1.find? (fun y => y.1 == x.1 && y.2.1 == x.2.1) = some x := by
  unfold f_ok f_ok5 at h
  rw [Bool.and_eq_true, Bool.and_eq_true, Bool.and_eq_true, Bool.and_eq_true] at h
  obtain ⟨h1, h2, h3, h4, h5⟩ := h
  exact ⟨fun x hx => eq_of_beq (List.all_eq_true.mp h1 x hx), fun x hx => eq_of_beq (List.all_eq_true.mp h2 x hx), fun x hx => eq_of_beq (List.all_eq_true.mp h3 x hx), fun x hx => eq_of_beq (List.all_eq_true.mp h4 x hx), fun x hx => eq_of_beq (List.all_eq_true.mp h5 x hx)⟩
theorem f_tg_eq {pc t : Nat} {off : Int} (h : (pc : Int) + off = (t : Int)) : f_tg pc off = t := by
  unfold f_tg
  rw [h]
  rfl
theorem eG_eq {fl : List (Nat × Nat × Nat)} (hf : ∀ x ∈ fl, fl.find? (fun y => y.1 == x.1 && y.2.1 == x.2.1) = some x) {i ci k : Nat} (hm : (i, ci, k) ∈ fl) {fs : List Value} {v : Value} (hv : fs[k]? = some v) : eG fl i (some (.inr (ci, fs))) = v := by
  show fs.getD (kfd fl i ci) .null = v
  have h := hf _ hm
  dsimp only at h
  unfold kfd
  rw [h]
  show fs.getD k .null = v
  rw [List.getD_eq_getElem?_getD, hv]
  rfl
theorem sG_eq {pl : List (Nat × Nat × Nat × Nat)} (hf : ∀ x ∈ pl, pl.find? (fun y => y.1 == x.1 && y.2.1 == x.2.1) = some x) {i ci k d : Nat} (hm : (i, ci, k, d) ∈ pl) {fs : List Value} {u : Value} : sG pl i u (some (.inr (ci, fs))) = .inr (ci, fs.set k u) := by
  show Sum.inr (ci, fs.set (kpd pl i ci) u) = _
  have h := hf _ hm
  dsimp only at h
  unfold kpd
  rw [h]
theorem eT_eq {il : List (Nat × Nat × Nat)} (hf : ∀ x ∈ il, il.find? (fun y => y.1 == x.1 && y.2.1 == x.2.1) = some x) {i ci d : Nat} (hm : (i, ci, d) ∈ il) {fs : List Value} : eT il i (some (.inr (ci, fs))) = Int32.ofNat d := by
  show Int32.ofNat (kci il i ci) = _
  have h := hf _ hm
  dsimp only at h
  unfold kci
  rw [h]
theorem wT_ok {W : Type} {k : Nat → fL_ → List Value → W → Prop} {pc : Nat} {lg : fL_} {r : List Value} {w : W} {x : Int32} {off : Int} : ∀ {l : List Int} {lo : Int} (j : Nat), wT k pc lg r w x lo l → l[j]? = some off → x.toInt = lo + (j : Int) → k (f_tg pc off) lg r w
  | [], _, j, _, hj, _ => by simp at hj
  | o :: os, lo, 0, h, hj, hx => by
    rw [List.getElem?_cons_zero] at hj
    rw [← Option.some.inj hj]
    exact h.1 (by rw [hx]; show lo + 0 = lo; omega)
  | o :: os, lo, j + 1, h, hj, hx => by
    rw [List.getElem?_cons_succ] at hj
    exact wT_ok (l := os) (lo := lo + 1) j h.2 hj (by rw [hx]; omega)
section
variable {W : Type} {O : fO W} {T : fT} {Sp : fP W} {Rw : W → va_W → List Nat → Prop} {Post : Option Value → W → Prop} {k : Nat → fL_ → List Value → W → Prop} {len pc : Nat} {lgS : fL_} {lg : List (Nat × Value)} {vs : List Value} {w : W} {ws : va_W} {sh : List Nat}
theorem w_ld {K : Value → Prop} {i : Nat} {v : Value} (hr : f_rel lgS lg) (hv : ∀ u, (i, u) ∈ lg → u = v) (h : match lk lgS i with
    | some v => K v
    | none => False) : K v := by
  split at h
  · rename_i u hu
    obtain ⟨x, x1, x2, x3⟩ := lk_mem hu
    have h1 := (hr x x1).1
    rw [x2] at h1
    have h2 := hv _ h1
    rw [← h2, x3]
    exact h
  · exact h.elim
theorem w_call {key : Nat} {b : fS} (hO : f_wr O Rw) (hS : f_sp T Sp Rw) (hr : f_rel lgS lg) (hw : Rw w ws sh) (hx : f_call T key (pc, lg, vs, ws, sh) b) (h : wcall O Sp k key pc lgS vs w) : ∃ lg' w', f_rel lg' b.2.1 ∧ Rw w' b.2.2.2.1 b.2.2.2.2 ∧ k b.1 lg' b.2.2.1 w' := by
  obtain ⟨As, rest, rv, ws', sh', hvs, hl, hrel, rfl⟩ := hx
  have hvs : vs = As.reverse ++ rest := hvs
  subst hvs
  unfold wcall at h
  split at h
  · rename_i x hfx
    have hm := List.mem_of_find?_eq_some hfx
    have hp0 := List.find?_some hfx
    have hp : x.1 = key := eq_of_beq hp0
    obtain ⟨ha, hs⟩ := hS x hm
    rw [hp] at ha hs
    obtain ⟨w', hw', hphi⟩ := hs As w ws sh rv ws' sh' hw hrel
    have hlen : As.reverse.length = x.2.1 := by rw [List.length_reverse, hl, ha]
    have h1 : (As.reverse ++ rest).take x.2.1 = As.reverse := by rw [← hlen]; simp
    have h2 : (As.reverse ++ rest).drop x.2.1 = rest := by rw [← hlen]; simp
    have h3 := h rv w'
    rw [h1, h2, List.reverse_reverse] at h3
    exact ⟨lgS, w', hr, hw', h3 hphi⟩
  · exact h.elim
set_option maxHeartbeats 4000000 in
theorem wstep_ok {b : fS} {ins : Instr} (hO : f_wr O Rw) (hT : f_ok T = true) (hS : f_sp T Sp Rw) (hr : f_rel lgS lg) (hw : Rw w ws sh) (hx : fxi T ins len (pc, lg, vs, ws, sh) b) (h : wstep O T Sp Post k ins len pc lgS vs w) : ∃ lg' w', f_rel lg' b.2.1 ∧ Rw w' b.2.2.2.1 b.2.2.2.2 ∧ k b.1 lg' b.2.2.1 w' := by
  obtain ⟨t1, t2, t3, t4, t5⟩ := f_ok_r hT
  obtain ⟨hh1, hdj⟩ := hO.1 w ws sh hw
  have hat : ∀ {q p : Nat} {e : va_E}, ws[q]? = some (p, e) → O.1 w p = some e := fun hq => by rw [hh1]; exact hof_at hdj hq
  unfold fxi at hx
  split at hx
  · subst hx
    exact ⟨lgS, w, hr, hw, h⟩
  · rename_i v
    subst hx
    have h : (match decide (-128 ≤ v ∧ v < 128) with
      | true => k (pc + len) lgS (.int (Int32.ofInt v) :: vs) w
      | false => False) := h
    split at h
    · rename_i hd
      have hd := of_decide_eq_true hd
      have e : (Int8.ofInt v).toInt32 = Int32.ofInt v := Int32.toInt_inj.mp (by rw [Int8.toInt_toInt32, Int8.toInt_ofInt_of_le (by omega) (by omega), Int32.toInt_ofInt_of_le (by omega) (by omega)])
      refine ⟨lgS, w, hr, hw, ?_⟩
      show k (pc + len) lgS (.int (Int8.ofInt v).toInt32 :: vs) w
      rw [e]
      exact h
    · exact h.elim
  · rename_i v
    subst hx
    have h : (match decide (-32768 ≤ v ∧ v < 32768) with
      | true => k (pc + len) lgS (.int (Int32.ofInt v) :: vs) w
      | false => False) := h
    split at h
    · rename_i hd
      have hd := of_decide_eq_true hd
      have e : (Int16.ofInt v).toInt32 = Int32.ofInt v := Int32.toInt_inj.mp (by rw [Int16.toInt_toInt32, Int16.toInt_ofInt_of_le (by omega) (by omega), Int32.toInt_ofInt_of_le (by omega) (by omega)])
      refine ⟨lgS, w, hr, hw, ?_⟩
      show k (pc + len) lgS (.int (Int16.ofInt v).toInt32 :: vs) w
      rw [e]
      exact h
    · exact h.elim
  · subst hx
    exact ⟨lgS, w, hr, hw, h⟩
  · rename_i i
    obtain ⟨v, hm, rfl⟩ := hx
    have h : (match T.2.2.2.1.find? (fun x => x.1 == i && x.2.1 == 0) with
      | some x => k (pc + len) lgS (.int (Int32.ofInt x.2.2) :: vs) w
      | none => False) := h
    have hf := t4 _ hm
    dsimp only at hf
    rw [hf] at h
    have h : k (pc + len) lgS (.int (Int32.ofInt v.toInt) :: vs) w := h
    rw [Int32.ofInt_toInt] at h
    exact ⟨lgS, w, hr, hw, h⟩
  · rename_i i
    obtain ⟨v, hm, rfl⟩ := hx
    have h : (match T.2.2.2.1.find? (fun x => x.1 == i && x.2.1 == 0) with
      | some x => k (pc + len) lgS (.int (Int32.ofInt x.2.2) :: vs) w
      | none => False) := h
    have hf := t4 _ hm
    dsimp only at hf
    rw [hf] at h
    have h : k (pc + len) lgS (.int (Int32.ofInt v.toInt) :: vs) w := h
    rw [Int32.ofInt_toInt] at h
    exact ⟨lgS, w, hr, hw, h⟩
  · rename_i i
    obtain ⟨v, hm, rfl⟩ := hx
    have h : (match T.2.2.2.1.find? (fun x => x.1 == i && x.2.1 == 1) with
      | some x => k (pc + len) lgS (.long (Int64.ofInt x.2.2) :: vs) w
      | none => False) := h
    have hf := t4 _ hm
    dsimp only at hf
    rw [hf] at h
    have h : k (pc + len) lgS (.long (Int64.ofInt v.toInt) :: vs) w := h
    rw [Int64.ofInt_toInt] at h
    exact ⟨lgS, w, hr, hw, h⟩
  · obtain ⟨v, hv, rfl⟩ := hx
    exact ⟨lgS, w, hr, hw, w_ld (K := fun v => k (pc + len) lgS (v :: vs) w) hr hv h⟩
  · obtain ⟨v, hv, rfl⟩ := hx
    exact ⟨lgS, w, hr, hw, w_ld (K := fun v => k (pc + len) lgS (v :: vs) w) hr hv h⟩
  · obtain ⟨v, hv, rfl⟩ := hx
    exact ⟨lgS, w, hr, hw, w_ld (K := fun v => k (pc + len) lgS (v :: vs) w) hr hv h⟩
  · obtain ⟨v, hv, rfl⟩ := hx
    exact ⟨lgS, w, hr, hw, w_ld (K := fun v => k (pc + len) lgS (v :: vs) w) hr hv h⟩
  · obtain ⟨v, hv, rfl⟩ := hx
    exact ⟨lgS, w, hr, hw, w_ld (K := fun v => k (pc + len) lgS (v :: vs) w) hr hv h⟩
  · obtain ⟨v, hv, rfl⟩ := hx
    exact ⟨lgS, w, hr, hw, w_ld (K := fun v => k (pc + len) lgS (v :: vs) w) hr hv h⟩
  · obtain ⟨v, r, hvs, hc, rfl⟩ := hx
    have hvs : vs = v :: r := hvs
    subst hvs
    exact ⟨_, w, hr.st1 hc, hw, h⟩
  · obtain ⟨v, r, hvs, hc, rfl⟩ := hx
    have hvs : vs = v :: r := hvs
    subst hvs
    exact ⟨_, w, hr.st1 hc, hw, h⟩
  · obtain ⟨v, r, hvs, hc, rfl⟩ := hx
    have hvs : vs = v :: r := hvs
    subst hvs
    exact ⟨_, w, hr.st1 hc, hw, h⟩
  · obtain ⟨v, r, hvs, hc, rfl⟩ := hx
    have hvs : vs = v :: r := hvs
    subst hvs
    exact ⟨_, w, hr.st1 hc, hw, h⟩
  · obtain ⟨v, r, hvs, hc, rfl⟩ := hx
    have hvs : vs = v :: r := hvs
    subst hvs
    exact ⟨_, w, hr.st2, hw, h⟩
  · obtain ⟨v, r, hvs, hc, rfl⟩ := hx
    have hvs : vs = v :: r := hvs
    subst hvs
    exact ⟨_, w, hr.st2, hw, h⟩
  · rename_i i c
    obtain ⟨x, hv, rfl⟩ := hx
    have h := w_ld (K := fun v => k (pc + len) (ls1 lgS i (.int (iv v + Int32.ofInt c))) vs w) hr hv h
    exact ⟨_, w, hr.st1 rfl, hw, h⟩
  · obtain ⟨x, y, r, hvs, rfl⟩ := hx
    have hvs : vs = _ := hvs
    subst hvs
    exact ⟨lgS, w, hr, hw, h⟩
  · obtain ⟨x, y, r, hvs, rfl⟩ := hx
    have hvs : vs = _ := hvs
    subst hvs
    exact ⟨lgS, w, hr, hw, h⟩
  · obtain ⟨x, y, r, hvs, rfl⟩ := hx
    have hvs : vs = _ := hvs
    subst hvs
    exact ⟨lgS, w, hr, hw, h⟩
  · obtain ⟨x, y, r, hvs, rfl⟩ := hx
    have hvs : vs = _ := hvs
    subst hvs
    exact ⟨lgS, w, hr, hw, h⟩
  · obtain ⟨x, y, r, hvs, rfl⟩ := hx
    have hvs : vs = _ := hvs
    subst hvs
    exact ⟨lgS, w, hr, hw, h⟩
  · obtain ⟨x, y, r, hvs, rfl⟩ := hx
    have hvs : vs = _ := hvs
    subst hvs
    exact ⟨lgS, w, hr, hw, h⟩
  · obtain ⟨x, y, r, hvs, rfl⟩ := hx
    have hvs : vs = _ := hvs
    subst hvs
    exact ⟨lgS, w, hr, hw, h⟩
  · obtain ⟨x, y, r, hvs, rfl⟩ := hx
    have hvs : vs = _ := hvs
    subst hvs
    exact ⟨lgS, w, hr, hw, h⟩
  · obtain ⟨x, y, r, hvs, rfl⟩ := hx
    have hvs : vs = _ := hvs
    subst hvs
    exact ⟨lgS, w, hr, hw, h⟩
  · obtain ⟨x, y, r, hvs, rfl⟩ := hx
    have hvs : vs = _ := hvs
    subst hvs
    exact ⟨lgS, w, hr, hw, h⟩
  · obtain ⟨x, y, r, hvs, rfl⟩ := hx
    have hvs : vs = _ := hvs
    subst hvs
    exact ⟨lgS, w, hr, hw, h⟩
  · obtain ⟨x, y, r, hvs, rfl⟩ := hx
    have hvs : vs = _ := hvs
    subst hvs
    exact ⟨lgS, w, hr, hw, h⟩
  · obtain ⟨x, y, r, hvs, rfl⟩ := hx
    have hvs : vs = _ := hvs
    subst hvs
    exact ⟨lgS, w, hr, hw, h⟩
  · obtain ⟨x, y, r, hvs, rfl⟩ := hx
    have hvs : vs = _ := hvs
    subst hvs
    exact ⟨lgS, w, hr, hw, h⟩
  · obtain ⟨x, y, r, hvs, rfl⟩ := hx
    have hvs : vs = _ := hvs
    subst hvs
    exact ⟨lgS, w, hr, hw, h⟩
  · obtain ⟨x, y, r, hvs, rfl⟩ := hx
    have hvs : vs = _ := hvs
    subst hvs
    exact ⟨lgS, w, hr, hw, h⟩
  · obtain ⟨x, y, r, hvs, rfl⟩ := hx
    have hvs : vs = _ := hvs
    subst hvs
    exact ⟨lgS, w, hr, hw, h⟩
  · obtain ⟨x, y, r, hvs, rfl⟩ := hx
    have hvs : vs = _ := hvs
    subst hvs
    exact ⟨lgS, w, hr, hw, h⟩
  · obtain ⟨x, y, r, hvs, rfl⟩ := hx
    have hvs : vs = _ := hvs
    subst hvs
    exact ⟨lgS, w, hr, hw, h⟩
  · obtain ⟨x, y, r, hvs, rfl⟩ := hx
    have hvs : vs = _ := hvs
    subst hvs
    exact ⟨lgS, w, hr, hw, h⟩
  · obtain ⟨x, r, hvs, rfl⟩ := hx
    have hvs : vs = _ := hvs
    subst hvs
    exact ⟨lgS, w, hr, hw, h⟩
  · obtain ⟨x, r, hvs, rfl⟩ := hx
    have hvs : vs = _ := hvs
    subst hvs
    exact ⟨lgS, w, hr, hw, h⟩
  · obtain ⟨x, r, hvs, rfl⟩ := hx
    have hvs : vs = _ := hvs
    subst hvs
    exact ⟨lgS, w, hr, hw, h⟩
  · obtain ⟨x, r, hvs, rfl⟩ := hx
    have hvs : vs = _ := hvs
    subst hvs
    exact ⟨lgS, w, hr, hw, h⟩
  · obtain ⟨x, r, hvs, rfl⟩ := hx
    have hvs : vs = _ := hvs
    subst hvs
    exact ⟨lgS, w, hr, hw, h⟩
  · obtain ⟨x, y, r, hvs, rfl⟩ := hx
    have hvs : vs = _ := hvs
    subst hvs
    exact ⟨lgS, w, hr, hw, h⟩
  · subst hx
    exact ⟨lgS, w, hr, hw, h⟩
  · obtain ⟨v, r, hvs, rfl⟩ := hx
    have hvs : vs = _ := hvs
    subst hvs
    exact ⟨lgS, w, hr, hw, h⟩
  · obtain ⟨v, r, hvs, rfl⟩ := hx
    have hvs : vs = _ := hvs
    subst hvs
    exact ⟨lgS, w, hr, hw, h⟩
  · obtain ⟨v, r, hvs, rfl⟩ := hx
    have hvs : vs = _ := hvs
    subst hvs
    exact ⟨lgS, w, hr, hw, h⟩
  · obtain ⟨v, u, r, hvs, rfl⟩ := hx
    have hvs : vs = _ := hvs
    subst hvs
    exact ⟨lgS, w, hr, hw, h⟩
  · rename_i off
    obtain ⟨t, ht, rfl⟩ := hx
    have h : k (f_tg pc off) lgS vs w := h
    rw [f_tg_eq ht] at h
    exact ⟨lgS, w, hr, hw, h⟩
  · obtain ⟨x, r, hvs, hb⟩ := hx
    have hvs : vs = _ := hvs
    subst hvs
    rcases hb with ⟨hc, t, ht, rfl⟩ | ⟨hc, rfl⟩
    · have h := (show _ ∧ _ from h).1 hc
      rw [f_tg_eq ht] at h
      exact ⟨lgS, w, hr, hw, h⟩
    · exact ⟨lgS, w, hr, hw, (show _ ∧ _ from h).2 hc⟩
  · obtain ⟨x, y, r, hvs, hb⟩ := hx
    have hvs : vs = _ := hvs
    subst hvs
    rcases hb with ⟨hc, t, ht, rfl⟩ | ⟨hc, rfl⟩
    · have h := (show _ ∧ _ from h).1 hc
      rw [f_tg_eq ht] at h
      exact ⟨lgS, w, hr, hw, h⟩
    · exact ⟨lgS, w, hr, hw, (show _ ∧ _ from h).2 hc⟩
  · obtain ⟨v, r, hvs, hb⟩ := hx
    have hvs : vs = _ := hvs
    subst hvs
    rcases hb with ⟨hc, t, ht, rfl⟩ | ⟨hc, rfl⟩
    · have h := (show _ ∧ _ from h).1 hc
      rw [f_tg_eq ht] at h
      exact ⟨lgS, w, hr, hw, h⟩
    · exact ⟨lgS, w, hr, hw, (show _ ∧ _ from h).2 hc⟩
  · obtain ⟨v, r, hvs, hb⟩ := hx
    have hvs : vs = _ := hvs
    subst hvs
    rcases hb with ⟨hc, t, ht, rfl⟩ | ⟨hc, rfl⟩
    · have h := (show _ ∧ _ from h).1 hc
      rw [f_tg_eq ht] at h
      exact ⟨lgS, w, hr, hw, h⟩
    · exact ⟨lgS, w, hr, hw, (show _ ∧ _ from h).2 (Classical.not_not.mp hc)⟩
  · rename_i d lo hi os
    obtain ⟨x, r, hvs, off, t, hcs, ht, rfl⟩ := hx
    have hvs : vs = _ := hvs
    subst hvs
    have h : (x.toInt < lo ∨ hi < x.toInt → k (f_tg pc d) lgS r w) ∧ (lo ≤ x.toInt → x.toInt ≤ hi → wT k pc lgS r w x lo os.toList) := h
    rcases hcs with ⟨ho, rfl⟩ | ⟨h1, h2, ho⟩
    · have h := h.1 ho
      rw [f_tg_eq ht] at h
      exact ⟨lgS, w, hr, hw, h⟩
    · have h := wT_ok (x.toInt - lo).toNat (h.2 (by omega) (by omega)) (by rw [Array.getElem?_toList]; exact ho) (by omega)
      rw [f_tg_eq ht] at h
      exact ⟨lgS, w, hr, hw, h⟩
  · rename_i i
    obtain ⟨p, r, q, ci, kk, fs, v, hvs, hq, hm, hv, rfl⟩ := hx
    have hvs : vs = _ := hvs
    subst hvs
    have h : k (pc + 3) lgS (eG T.1 i (O.1 w p) :: r) w := h
    rw [hat hq, eG_eq t1 hm hv] at h
    exact ⟨lgS, w, hr, hw, h⟩
  · rename_i i
    obtain ⟨u, p, r, q, ci, kk, d, fs, hvs, hq, hm, hl, rfl⟩ := hx
    have hvs : vs = _ := hvs
    subst hvs
    have h : O.2.1 w p (sG T.2.1 i u (O.1 w p)) (k (pc + 3) lgS r) := h
    rw [hat hq, sG_eq t2 hm] at h
    obtain ⟨w', hw', h'⟩ := hO.2.1 w ws sh p q _ _ _ hw hq h
    exact ⟨lgS, w', hr, hw', h'⟩
  · obtain ⟨p, ho, -, rfl⟩ := hx
    have h : ∀ p, O.1 w p = none → k (pc + 3) lgS (.ref p :: vs) w := h
    exact ⟨lgS, w, hr, hw, h p (by rw [hh1]; exact hof_out ho)⟩
  · obtain ⟨x, p, r, hvs, hc⟩ := hx
    have hvs : vs = _ := hvs
    subst hvs
    have h : (match T.2.2.2.2.2.2 with
      | none => k (pc + 1) lgS (.int (eI (O.1 w p) x.toNatClampNeg) :: r) w
      | some sb => p = sb.1 ∧ k (pc + 1) lgS (.int (sb.2.2 x.toNatClampNeg) :: r) w) := h
    rcases hc with ⟨hn, q, ln, cA, f, hq, hlt, rfl⟩ | ⟨L, xs, hsb, rfl⟩
    · split at h
      · rw [hat hq] at h
        exact ⟨lgS, w, hr, hw, h⟩
      · rename_i sb hsb
        exact absurd hsb (by rw [h.1] at hn; exact hn sb.2.1 sb.2.2)
    · rw [hsb] at h
      exact ⟨lgS, w, hr, hw, h.2⟩
  · obtain ⟨x, p, r, hvs, hc⟩ := hx
    have hvs : vs = _ := hvs
    subst hvs
    have h : k (pc + 1) lgS (.long (eJ (O.1 w p) x.toNatClampNeg) :: r) w := h
    rcases hc with ⟨q, ln, cA, f, hq, hlt, rfl⟩ | ⟨ho, rfl⟩
    · rw [hat hq] at h
      exact ⟨lgS, w, hr, hw, h⟩
    · rw [hh1, hof_out ho] at h
      exact ⟨lgS, w, hr, hw, h⟩
  · obtain ⟨x, p, r, hvs, q, ln, cA, f, hq, hlt, rfl⟩ := hx
    have hvs : vs = _ := hvs
    subst hvs
    have h : k (pc + 1) lgS (.int (eI (O.1 w p) x.toNatClampNeg) :: r) w := h
    rw [hat hq] at h
    exact ⟨lgS, w, hr, hw, h⟩
  · obtain ⟨x, p, r, hvs, q, ln, cA, f, hq, hlt, rfl⟩ := hx
    have hvs : vs = _ := hvs
    subst hvs
    have h : k (pc + 1) lgS (eR (O.1 w p) x.toNatClampNeg :: r) w := h
    rw [hat hq] at h
    exact ⟨lgS, w, hr, hw, h⟩
  · obtain ⟨v, x, p, r, hvs, q, ln, cA, f, hq, hlt, rfl⟩ := hx
    have hvs : vs = _ := hvs
    subst hvs
    have h : O.2.1 w p (sI x.toNatClampNeg v (O.1 w p)) (k (pc + 1) lgS r) := h
    rw [hat hq] at h
    obtain ⟨w', hw', h'⟩ := hO.2.1 w ws sh p q _ _ _ hw hq h
    exact ⟨lgS, w', hr, hw', h'⟩
  · obtain ⟨v, x, p, r, hvs, q, ln, cA, f, hq, hlt, rfl⟩ := hx
    have hvs : vs = _ := hvs
    subst hvs
    have h : O.2.1 w p (sJ x.toNatClampNeg v (O.1 w p)) (k (pc + 1) lgS r) := h
    rw [hat hq] at h
    obtain ⟨w', hw', h'⟩ := hO.2.1 w ws sh p q _ _ _ hw hq h
    exact ⟨lgS, w', hr, hw', h'⟩
  · obtain ⟨v, x, p, r, hvs, q, ln, cA, f, hq, hlt, rfl⟩ := hx
    have hvs : vs = _ := hvs
    subst hvs
    have h : O.2.1 w p (sI x.toNatClampNeg (vp_nar .boolean v) (O.1 w p)) (k (pc + 1) lgS r) := h
    rw [hat hq] at h
    obtain ⟨w', hw', h'⟩ := hO.2.1 w ws sh p q _ _ _ hw hq h
    exact ⟨lgS, w', hr, hw', h'⟩
  · obtain ⟨v, x, p, r, hvs, q, ln, cA, f, hq, hlt, rfl⟩ := hx
    have hvs : vs = _ := hvs
    subst hvs
    have h : O.2.1 w p (sR x.toNatClampNeg (va_rf v) (O.1 w p)) (k (pc + 1) lgS r) := h
    have e : sR x.toNatClampNeg (va_rf v) (some (.inl (cA, ln, .inr (.inr (.inr (.inr f)))))) = .inl (cA, ln, .inr (.inr (.inr (.inr (va_up f x.toNatClampNeg v))))) := by cases v <;> rfl
    rw [hat hq, e] at h
    obtain ⟨w', hw', h'⟩ := hO.2.1 w ws sh p q _ _ _ hw hq h
    exact ⟨lgS, w', hr, hw', h'⟩
  · obtain ⟨p, r, hvs, hc⟩ := hx
    have hvs : vs = _ := hvs
    subst hvs
    have h : (match T.2.2.2.2.2.2 with
      | none => k (pc + 1) lgS (.int (Int32.ofNat (eL (O.1 w p))) :: r) w
      | some sb => p = sb.1 ∧ k (pc + 1) lgS (.int (Int32.ofNat sb.2.1) :: r) w) := h
    rcases hc with ⟨hn, q, cA, y, hq, rfl⟩ | ⟨L, xs, hsb, rfl⟩ | ⟨hn, ho, rfl⟩
    · split at h
      · rw [hat hq] at h
        exact ⟨lgS, w, hr, hw, h⟩
      · rename_i sb hsb
        exact absurd hsb (by rw [h.1] at hn; exact hn sb.2.1 sb.2.2)
    · rw [hsb] at h
      exact ⟨lgS, w, hr, hw, h.2⟩
    · split at h
      · rw [hh1, hof_out ho] at h
        exact ⟨lgS, w, hr, hw, h⟩
      · rename_i sb hsb
        exact absurd hsb (by rw [h.1] at hn; exact hn sb.2.1 sb.2.2)
  · rename_i i
    obtain ⟨q, ci, t, n, ty, hm, hd, rfl⟩ := hx
    have h : ∀ (q : Nat) (ty : Nat → FieldType), O.1 w q = none → (match T.2.2.1.find? (fun x => x.1 == i) with
      | some x => O.2.2 w q (.inr (x.2.1, (List.range x.2.2.2).map fun j => defaultValue (ty j))) x.2.2.1 (k (pc + 3) lgS (.ref q :: vs))
      | none => False) := h
    have h := h q ty (by rw [hh1]; exact (hof_app hd).2.1)
    have hf := t3 _ hm
    dsimp only at hf
    rw [hf] at h
    obtain ⟨w', hw', h'⟩ := hO.2.2 w ws sh q t _ _ hw hd h
    exact ⟨lgS, w', hr, hw', h'⟩
  · rename_i i
    obtain ⟨p, r, q, ci, d, fs, hvs, hq, hm, rfl⟩ := hx
    have hvs : vs = _ := hvs
    subst hvs
    have h : k (pc + 3) lgS (.int (eT T.2.2.2.2.1 i (O.1 w p)) :: r) w := h
    rw [hat hq, eT_eq t5 hm] at h
    exact ⟨lgS, w, hr, hw, h⟩
  · obtain ⟨v, r, hvs, rfl⟩ := hx
    have hvs : vs = _ := hvs
    subst hvs
    exact ⟨lgS, w, hr, hw, h⟩
  · exact w_call hO hS hr hw hx h
  · exact w_call hO hS hr hw hx h
  · exact w_call hO hS hr hw hx h
  · exact hx.elim
end
end
noncomputable section
/-! a whole trace -/
def fn_ (T : fT) (cc : ByteArray) : Nat → fS → fS → Prop
  | 0, a, b => a = b
  | n + 1, a, b => ∃ c, fx T cc a c ∧ fn_ T cc n c b
theorem fn_snoc {T : fT} {cc : ByteArray} : ∀ {n : Nat} {a b c : fS}, fn_ T cc n a b → fx T cc b c → fn_ T cc (n + 1) a c
  | 0, a, b, c, h, hx => by
    have h : a = b := h
    subst h
    exact ⟨c, hx, rfl⟩
  | n + 1, a, b, c, h, hx => by
    obtain ⟨d, h1, h2⟩ := h
    exact ⟨d, h1, fn_snoc h2 hx⟩
theorem gr_fn {T : fT} {cc : ByteArray} {s0 a : fS} (h : gr T cc s0 a) : ∃ n, fn_ T cc n s0 a :=
  h (fun a => ∃ n, fn_ T cc n s0 a) ⟨0, rfl⟩ (fun _ _ ⟨n, hn⟩ hx => ⟨n + 1, fn_snoc hn hx⟩)
section
variable {W : Type} {O : fO W} {T : fT} {Sp : fP W} {Rw : W → va_W → List Nat → Prop} {Post : Option Value → W → Prop} {cc : ByteArray} {code : ck_cd} {hd : fI W}
theorem wret_ok {k : Nat → fL_ → List Value → W → Prop} {len pc kd : Nat} {lgS : fL_} {rv : Option Value} {w : W} (h : wstep O T Sp Post k (ck_ri kd) len pc lgS rv.toList w) : Post rv w := by
  unfold ck_ri at h
  split at h <;> cases rv <;> first | exact h | exact (show False from h).elim
theorem wgo_ok (hO : f_wr O Rw) (hT : f_ok T = true) (hS : f_sp T Sp Rw) (hcode : ∀ x ∈ code, decode cc x.1 = .ok (x.2.1, x.2.2)) {n : Nat}
    (ih : ∀ m, m < n → ∀ (a fin : fS) (rv : Option Value) (kd : Nat), fn_ T cc m a fin → decode cc fin.1 = .ok (ck_ri kd, 1) → fin.2.2.1 = rv.toList → ∀ (f : Nat) (suf : ck_cd) (lgS : fL_) (w : W), (∀ x ∈ suf, x ∈ code) → f_rel lgS a.2.1 → Rw w a.2.2.2.1 a.2.2.2.2 → wl O T Sp Post code hd f suf a.1 lgS a.2.2.1 w → ∃ wF, Rw wF fin.2.2.2.1 fin.2.2.2.2 ∧ Post rv wF)
    {a fin : fS} {rv : Option Value} {kd : Nat} (hn : fn_ T cc n a fin) (hret : decode cc fin.1 = .ok (ck_ri kd, 1)) (hrv : fin.2.2.1 = rv.toList) {f : Nat} {ins : Instr} {len : Nat} {suf : ck_cd} {lgS : fL_} {w : W} (hm : (a.1, ins, len) ∈ code) (hsuf : ∀ x ∈ suf, x ∈ code) (hr : f_rel lgS a.2.1) (hw : Rw w a.2.2.2.1 a.2.2.2.2)
    (h : wstep O T Sp Post (wl O T Sp Post code hd f suf) ins len a.1 lgS a.2.2.1 w) : ∃ wF, Rw wF fin.2.2.2.1 fin.2.2.2.2 ∧ Post rv wF := by
  have hdc := hcode _ hm
  dsimp only at hdc
  cases n with
  | zero =>
    have e : a = fin := hn
    subst e
    rw [hdc] at hret
    have e1 : ins = ck_ri kd := by injection hret with z; exact congrArg Prod.fst z
    subst e1
    rw [hrv] at h
    exact ⟨w, hw, wret_ok h⟩
  | succ n =>
    obtain ⟨b, ⟨ins', len', hd', hx⟩, hn'⟩ := hn
    rw [hdc] at hd'
    have e1 : (ins, len) = (ins', len') := by injection hd'
    have e2 : ins = ins' := congrArg Prod.fst e1
    have e3 : len = len' := congrArg Prod.snd e1
    subst e2
    subst e3
    obtain ⟨lg', w', r1, r2, r3⟩ := wstep_ok (lg := a.2.1) (ws := a.2.2.2.1) (sh := a.2.2.2.2) hO hT hS hr hw hx h
    exact ih n (Nat.lt_succ_self n) b fin rv kd hn' hret hrv f suf lg' w' hsuf r1 r2 r3
theorem wl_ok (hO : f_wr O Rw) (hT : f_ok T = true) (hS : f_sp T Sp Rw) (hcode : ∀ x ∈ code, decode cc x.1 = .ok (x.2.1, x.2.2))
    (hh : ∀ x ∈ hd, ∀ (lg : fL_) (vs : List Value) (w : W), x.2 lg vs w → ∃ (L : fL_) (f : Nat), f_sub L lg ∧ wh O T Sp Post code hd f x.1 L vs w) :
    ∀ (n : Nat) (a fin : fS) (rv : Option Value) (kd : Nat), fn_ T cc n a fin → decode cc fin.1 = .ok (ck_ri kd, 1) → fin.2.2.1 = rv.toList → ∀ (f : Nat) (suf : ck_cd) (lgS : fL_) (w : W), (∀ x ∈ suf, x ∈ code) → f_rel lgS a.2.1 → Rw w a.2.2.2.1 a.2.2.2.2 → wl O T Sp Post code hd f suf a.1 lgS a.2.2.1 w → ∃ wF, Rw wF fin.2.2.2.1 fin.2.2.2.2 ∧ Post rv wF := by
  intro n
  induction n using Nat.strongRecOn with
  | ind n ih =>
    intro a fin rv kd hn hret hrv f suf lgS w hsuf hr hw h
    cases f with
    | zero => exact h.elim
    | succ f =>
      unfold wl at h
      split at h
      · rename_i x hx
        have hm := List.mem_of_find?_eq_some hx
        have hp0 := List.find?_some hx
        have hp : x.1 = a.1 := Nat.eq_of_beq_eq_true hp0
        obtain ⟨L, f', hL, hwh⟩ := hh x hm lgS _ w h
        unfold wh at hwh
        split at hwh
        · rename_i y hy
          obtain ⟨e1, hy⟩ := ck_fndN_ok hy
          rw [hp] at e1 hy
          rw [e1] at hwh
          obtain ⟨y1, y2⟩ := ck_fnd_ok (i := y.2.1) (l := y.2.2.1) (t := y.2.2.2) hy
          exact wgo_ok hO hT hS hcode ih hn hret hrv y1 y2 (hr.sub hL) hw (Eq.mp wstepG_eq hwh)
        · exact hwh.elim
      · split at h
        · rename_i y hy
          obtain ⟨e1, hy⟩ := ck_sfxN_ok hy
          rw [e1] at h
          obtain ⟨y1, y2⟩ := ck_sfx_ok (i := y.2.1) (l := y.2.2.1) (t := y.2.2.2) hy hsuf
          exact wgo_ok hO hT hS hcode ih hn hret hrv y1 y2 hr hw (Eq.mp wstepG_eq h)
        · exact h.elim
/-- a method: what is said of its traces holds of what it does -/
theorem fr_ok (hO : f_wr O Rw) (hT : f_ok T = true) (hS : f_sp T Sp Rw) (hcode : ∀ x ∈ code, decode cc x.1 = .ok (x.2.1, x.2.2))
    (hh : ∀ x ∈ hd, ∀ (lg : fL_) (vs : List Value) (w : W), x.2 lg vs w → ∃ (L : fL_) (f : Nat), f_sub L lg ∧ wh O T Sp Post code hd f x.1 L vs w)
    {As : List Value} {ws : va_W} {sh : List Nat} {rv : Option Value} {ws' : va_W} {sh' : List Nat} (hf : fr T cc As ws sh rv ws' sh') {lgS : fL_} {w : W} {f : Nat} (hr : f_rel lgS (lv_args 0 As)) (hw : Rw w ws sh) (h : wl O T Sp Post code hd f code 0 lgS [] w) : ∃ wF, Rw wF ws' sh' ∧ Post rv wF := by
  obtain ⟨pc, lg, kd, h1, h2⟩ := hf
  obtain ⟨n, hn⟩ := gr_fn h1
  exact wl_ok hO hT hS hcode hh n _ _ rv kd hn h2 rfl f code lgS w (fun _ h => h) hr hw h
end
/-- the worlds of methods: what they hold by address -/
def oH : fO fH := (fun h => h, fun h p e K => K (hset h p e), fun h q e _ K => K (hset h q e))
def wH (h : fH) (ws : va_W) (_ : List Nat) : Prop := h = hof ws ∧ f_dj ws
theorem oH_ok : f_wr oH wH := by
  refine ⟨fun w ws sh h => h, fun w ws sh p q e e' K h hq hk => ?_, fun w ws sh q t e K h hd hk => ?_⟩
  · obtain ⟨rfl, hdj⟩ := h
    exact ⟨_, ⟨(hof_set hdj hq).symm, hdj.set hq⟩, hk⟩
  · obtain ⟨rfl, hdj⟩ := h
    exact ⟨_, ⟨(hof_app hd).1.symm, hd⟩, hk⟩
end
noncomputable section
/-! what a method does, out of its contract: tools -/
def la : Nat → List Value → fL_
  | _, [] => []
  | i, v :: r => (i, v.category == 2, v) :: la (bif v.category == 2 then i + 2 else i + 1) r
theorem la_ok : ∀ (i : Nat) (As : List Value), f_rel (la i As) (lv_args i As)
  | _, [] => fun x hx => absurd hx List.not_mem_nil
  | i, v :: r => by
    intro x hx
    have e : lv_args i (v :: r) = (i, v) :: lv_args (if v.category = 2 then i + 2 else i + 1) r := rfl
    rw [e]
    rcases List.mem_cons.mp hx with rfl | hx
    · refine ⟨List.mem_cons_self, fun hb => ?_⟩
      have hb : (v.category == 2) = false := hb
      rw [beq_eq_false_iff_ne] at hb
      exact (lv_cat v).resolve_right hb
    · have hn : (bif v.category == 2 then i + 2 else i + 1) = (if v.category = 2 then i + 2 else i + 1) := by
        by_cases hc : v.category = 2
        · rw [if_pos hc, hc]; rfl
        · rw [if_neg hc, beq_eq_false_iff_ne.mpr hc]; rfl
      rw [hn] at hx
      obtain ⟨h1, h2⟩ := la_ok _ r x hx
      exact ⟨List.mem_cons_of_mem _ h1, h2⟩
/-- what a method does to what is held -/
abbrev fPh : Type := List Value → fH → Option Value → fH → Prop
/-- a method does what is said -/
def f_do (r : fR) (P : fPh) : Prop := ∀ (As : List Value) (ws : va_W) (sh : List Nat) (rv : Option Value) (ws' : va_W) (sh' : List Nat), r As ws sh rv ws' sh' → f_dj ws' ∧ P As (hof ws) rv (hof ws')
theorem sp_one {T : fT} {key na : Nat} {r : fR} {P : fPh} (hT : T.2.2.2.2.2.1 key = (na, r)) (hr : f_do r P) : (T.2.2.2.2.2.1 (key, na, P).1).1 = (key, na, P).2.1 ∧ ∀ (As : List Value) (w : fH) (ws : va_W) (sh : List Nat) (rv : Option Value) (ws' : va_W) (sh' : List Nat), wH w ws sh → (T.2.2.2.2.2.1 (key, na, P).1).2 As ws sh rv ws' sh' → ∃ w', wH w' ws' sh' ∧ (key, na, P).2.2 As w rv w' := by
  refine ⟨by show (T.2.2.2.2.2.1 key).1 = na; rw [hT], fun As w ws sh rv ws' sh' hw hx => ?_⟩
  have hx : (T.2.2.2.2.2.1 key).2 As ws sh rv ws' sh' := hx
  rw [hT] at hx
  obtain ⟨h1, h2⟩ := hr As ws sh rv ws' sh' hx
  refine ⟨hof ws', ⟨rfl, h1⟩, ?_⟩
  rw [hw.1]
  exact h2
/-- a method by its instructions -/
theorem do_of {TT : List ck_D} {SG : List Nat} {rt : Nat} {Wr : List (Nat × Nat)} {T : fT} {cc : ByteArray} {P : fPh} {code : ck_cd} (Sp : fP fH) (hd : List Value → fH → fI fH) (f : Nat) (hT : f_ok T = true) (hS : f_sp T Sp wH) (hcode : ∀ x ∈ code, decode cc x.1 = .ok (x.2.1, x.2.2))
    (hh : ∀ (As : List Value) (h0 : fH), ∀ x ∈ hd As h0, ∀ (lg : fL_) (vs : List Value) (w : fH), x.2 lg vs w → ∃ (L : fL_) (f : Nat), f_sub L lg ∧ wh oH T Sp (fun rv h => P As h0 rv h) code (hd As h0) f x.1 L vs w)
    (h : ∀ (As : List Value) (h0 : fH), wl oH T Sp (fun rv h => P As h0 rv h) code (hd As h0) f code 0 (la 0 As) [] h0 ∨ ∀ rv h, P As h0 rv h) : f_do (fq TT SG rt Wr T cc) P := by
  intro As ws sh rv ws' sh' hx
  refine ⟨hx.2.2.1, ?_⟩
  rcases h As (hof ws) with h | h
  · obtain ⟨wF, h1, h2⟩ := fr_ok oH_ok hT hS hcode (hh As (hof ws)) hx.1 (la_ok 0 As) ⟨rfl, hx.2.1⟩ h
    rw [← h1.1]
    exact h2
  · exact h _ _
theorem no_hd {W : Type} {Q : Nat × (fL_ → List Value → W → Prop) → Prop} : ∀ x ∈ ([] : fI W), Q x := fun _ h => absurd h List.not_mem_nil
/-! typed worlds: single arrays and objects -/
def arI (ws : va_W) (sh : List Nat) (t n : Nat) (a : Nat) (f : Nat → Int32) : Prop := ∃ (q : Nat) (cA : ClassId), sh[q]? = some t ∧ ws[q]? = some (a, .inl (cA, n, .inl f))
def arJ (ws : va_W) (sh : List Nat) (t n : Nat) (a : Nat) (f : Nat → Int64) : Prop := ∃ (q : Nat) (cA : ClassId), sh[q]? = some t ∧ ws[q]? = some (a, .inl (cA, n, .inr (.inl f)))
def obj (ws : va_W) (sh : List Nat) (t ci : Nat) (p : Nat) (fs : List Value) : Prop := ∃ (q : Nat), sh[q]? = some t ∧ ws[q]? = some (p, .inr (ci, fs))
theorem arI.at_ {ws : va_W} {sh : List Nat} {t n a : Nat} {f : Nat → Int32} (hd : f_dj ws) (h : arI ws sh t n a f) : ∃ cA, hof ws a = some (.inl (cA, n, .inl f)) := by
  obtain ⟨q, cA, -, h2⟩ := h
  exact ⟨cA, hof_at hd h2⟩
theorem obj.at_ {ws : va_W} {sh : List Nat} {t ci p : Nat} {fs : List Value} (hd : f_dj ws) (h : obj ws sh t ci p fs) : hof ws p = some (.inr (ci, fs)) := by
  obtain ⟨q, -, h2⟩ := h
  exact hof_at hd h2
/-- what isn't written stays -/
theorem arI.ex {Wr : List (Nat × Nat)} {ws ws' : va_W} {sh sh' : List Nat} {t n a : Nat} {f : Nat → Int32} (h : arI ws sh t n a f) (hx : ck_ex Wr ws sh ws' sh') (hw : (t, 0) ∉ Wr) : arI ws' sh' t n a f := by
  obtain ⟨q, cA, h1, h2⟩ := h
  obtain ⟨e', x1, x2⟩ := hx.2 q a _ t h2 h1
  cases e' with
  | inr _ => exact x2.elim
  | inl y => exact ⟨q, cA, hx.1 q t h1, by rw [x1, x2 hw]⟩
/-- a single array that may be written: the same place holds something else -/
theorem arI.wr {Wr : List (Nat × Nat)} {ws ws' : va_W} {sh sh' : List Nat} {t n n' a : Nat} {f f' : Nat → Int32} {cA' : ClassId} (h : arI ws sh t n a f) (hx : ck_ex Wr ws sh ws' sh') (hd : f_dj ws') (hh : hof ws' a = some (.inl (cA', n', .inl f'))) : arI ws' sh' t n' a f' := by
  obtain ⟨q, cA, h1, h2⟩ := h
  obtain ⟨e', x1, x2⟩ := hx.2 q a _ t h2 h1
  have e1 := hof_at hd x1
  have hh : hof ws' a = some (.inl (cA', n', .inl f')) := hh
  rw [e1] at hh
  have e2 := Option.some.inj hh
  subst e2
  exact ⟨q, cA', hx.1 q t h1, x1⟩
theorem obj.fld {tys : List (ClassId × FieldType)} {TT : List ck_D} {SG : List Nat} {ws : va_W} {sh : List Nat} {t0 ci p k t n a : Nat} {fs : List Value} {td : ck_D} {lo hi : Int} {f : Nat → Int32} (hw : ck_wo tys TT SG ws sh) (h : obj ws sh t0 ci p fs) (hTT : TT[t0]? = some td) (h0 : td.1 = 0) (hk : td.2.2.2[k]? = some (2, lo, hi, [t])) (hsg : t ∈ SG) (ha : arI ws sh t n a f) : fs[k]? = some (.ref a) := by
  obtain ⟨q, h1, h2⟩ := h
  obtain ⟨qa, cA, a1, a2⟩ := ha
  obtain ⟨td', d1, d2⟩ := hw.2.1 q p _ t0 h2 h1
  have e1 : td' = td := Option.some.inj (d1.symm.trans hTT)
  subst e1
  unfold ck_co at d2
  rw [h0] at d2
  obtain ⟨vs, e2, -, d3⟩ := d2
  have e3 : (ci, fs) = (td'.2.1, vs) := by injection e2
  have e4 : fs = vs := congrArg Prod.snd e3
  subst e4
  obtain ⟨v, v1, v2⟩ := d3 k _ hk
  obtain ⟨q', a', e', t', rfl, w1, w2, w3⟩ := (show ck_rf ws sh [t] v from v2)
  rw [List.mem_singleton.mp w3] at w2
  have e5 := hw.2.2 t hsg q' qa w2 a1
  subst e5
  rw [w1] at a2
  have e6 : a' = a := congrArg Prod.fst (Option.some.inj a2)
  rw [v1, e6]
theorem arI.rng {tys : List (ClassId × FieldType)} {TT : List ck_D} {SG : List Nat} {ws : va_W} {sh : List Nat} {t n n' k0 a : Nat} {lo hi : Int} {ts : List Nat} {f : Nat → Int32} (hw : ck_wo tys TT SG ws sh) (h : arI ws sh t n a f) (hTT : TT[t]? = some (1, n', k0, [(0, lo, hi, ts)])) : n = n' ∧ ∀ i, i < n → lo ≤ (f i).toInt ∧ (f i).toInt ≤ hi := by
  obtain ⟨q, cA, h1, h2⟩ := h
  obtain ⟨td', d1, d2⟩ := hw.2.1 q a _ t h2 h1
  have e1 : td' = (1, n', k0, [(0, lo, hi, ts)]) := Option.some.inj (d1.symm.trans hTT)
  subst e1
  obtain ⟨cA', f', -, e2, d3⟩ := d2
  cases e2
  exact ⟨rfl, fun i hi => (d3 _ rfl).2 i hi⟩
end
