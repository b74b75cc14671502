noncomputable section
section
variable {p : Program} {l : Launch} {e : Env} {R : Room} {s : State} {m : MethodId} {args : Array Value} {below : List Frame} {meth : Method} {c : Code} {Q : State → Prop} {cc : ByteArray} {own : String} {D : va_G} {cl : List vw_C} {tys : List (ClassId × FieldType)} {M : ck_Me} {sc : ck_sc} {A : Nat → Prop} {ws0 : va_W} {sh0 : List Nat} {Fc : Nat → Nat × fR} {s0 : fS} {k : ck_S → Bool} {S : ck_S} {pc pc' : Nat}
theorem ck_clof {ws : va_W} {sh : List Nat} (hw : ck_wo tys (mTT M) (mSG M) ws sh) {q a t ci : Nat} {e' : va_E} (hq : ws[q]? = some (a, e')) (ht : sh[q]? = some t) (hci : ck_ty0 M t = some ci) : ∃ fs, e' = .inr (ci, fs) := by
  unfold ck_ty0 at hci
  split at hci
  · rename_i td htd
    split at hci
    · rename_i h0
      have ec := Option.some.inj hci
      subst ec
      obtain ⟨td', g1, g2⟩ := hw.2.1 q a e' t hq ht
      have e1 : td' = td := Option.some.inj (g1.symm.trans htd)
      subst e1
      unfold ck_co at g2
      rw [h0] at g2
      obtain ⟨fs, rfl, -⟩ := g2
      exact ⟨fs, rfl⟩
    · cases hci
  · cases hci
theorem ck_cellof (X : ck_cx p l e R s m args below meth c cc own D cl tys M sc A) {ws : va_W} {sh : List Nat} {H : Heap} (hw : ck_wo tys (mTT M) (mSG M) ws sh) (hP : va_P D cl ws H) {q a t ci : Nat} {e' : va_E} {r : vw_C} (hq : ws[q]? = some (a, e')) (ht : sh[q]? = some t) (hci : ck_ty0 M t = some ci) (hr : cl[ci]? = some r) : ∃ cell : Cell, H[a]? = some cell ∧ cell.vm.isStatics = false ∧ s.vm.findClass r.1 = some cell.cls := by
  unfold ck_ty0 at hci
  split at hci
  · rename_i td htd
    split at hci
    · rename_i h0
      have ec := Option.some.inj hci
      subst ec
      obtain ⟨td', g1, g2⟩ := hw.2.1 q a e' t hq ht
      have e1 : td' = td := Option.some.inj (g1.symm.trans htd)
      subst e1
      unfold ck_co at g2
      rw [h0] at g2
      obtain ⟨fs, rfl, -⟩ := g2
      exact va_recv X.2.2.2.1 hP hr hq
    · cases hci
  · cases hci
theorem ck_ins_ok (X : ck_cx p l e R s m args below meth c cc own D cl tys M sc A) (hil : ∀ x ∈ mil M, ck_hi s args own cl x) {i : Nat} (h : ck_ins M i S k = true) (hk : ∀ S, k S = true → ck_g Fc s0 p l e R s m args below meth c Q D cl tys M sc A ws0 sh0 S (pc + 3)) (hdg : decode cc pc = .ok (.instanceof i, 3)) : ck_g Fc s0 p l e R s m args below meth c Q D cl tys M sc A ws0 sh0 S pc := by
  intro n ws sh H locs ls vs o hw hx hP hD hS
  unfold ck_ins at h
  split at h
  · rename_i r st hst
    have o3 := o.2.2.1
    rw [hst] at o3
    obtain ⟨ra, vs2, rfl, h4, h5⟩ := ck_hd o3
    rw [Bool.and_eq_true, Bool.and_eq_true, Bool.and_eq_true] at h
    obtain ⟨hr2, hall, hY, hN⟩ := h
    obtain ⟨hl, hv, q, a, e', t, rfl, hq, ht, htm⟩ := h4.r (eq_of_beq hr2)
    have os : ck_so (mnL M) (mSG M) (ck_ss S st) n ws sh sc ls vs2 := o.ss h5
    have fin : ∀ (ts : List Nat) (v : Int) (z : Int32), z.toInt = v → t ∈ ts → k (ck_cst (ck_subS r.2.1 (2, r.2.1, ts) (ck_ss S st)) 0 v) = true → WG (tM M Fc sc.1) s0 p l e R s m args below meth c ws sh H locs (ck_oc R M + S.2.2.2.2.2.1) (ck_os R M + S.2.2.2.2.2.2) Q ((pc + 3), ls, (.int z :: vs2)) := by
      intro ts v z hz hts hkk
      have o2 := ck_subS_ok os (s0 := r.2.1) (w := (2, r.2.1, ts)) ⟨hl, rfl, by rw [← hv]; exact ⟨q, a, e', t, rfl, hq, ht, hts⟩⟩
      exact ck_push (S := ck_subS r.2.1 (2, r.2.1, ts) (ck_ss S st)) (hk _ hkk) o2 hw hx hP hD hS o2.2.2.1 ⟨Int.le_refl _, Int.le_refl _⟩ (fun _ _ _ g1 g2 => .mi g1 (by rw [g2]; exact hz))
    by_cases hy : ck_iof M i 1 t = true
    · have hy' := hy
      unfold ck_iof at hy
      split at hy
      · rename_i ci hci
        obtain ⟨rc, nm, m1, m2, m3⟩ := hil _ (List.contains_iff_mem.mp hy)
        obtain ⟨fs, rfl⟩ := ck_clof hw hq ht hci
        have hmil := List.contains_iff_mem.mp hy
        have hcell := ck_cellof X hw hP hq ht hci m1
        have hmem : t ∈ r.2.2.filter (ck_iof M i 1) := List.mem_filter.mpr ⟨htm, hy'⟩
        have hkk : k (ck_cst (ck_subS r.2.1 (2, r.2.1, r.2.2.filter (ck_iof M i 1)) (ck_ss S st)) 0 1) = true := by
          revert hY
          split
          · rename_i z; rw [z] at hmem; cases hmem
          · exact id
        rcases m3 with ⟨-, m3 | m3⟩ | ⟨m3, -⟩
        · subst m3
          exact WG.up (fun h => va_instE X.1 X.2.1 X.2.2.1 m2 hcell hdg h) X.2.1 hdg (fun lg => ⟨a, _, q, ci, 1, fs, rfl, hq, hmil, rfl⟩) (fin _ 1 1 (by decide) hmem hkk)
        · exact WG.up (fun h => va_instY X.1 X.2.1 X.2.2.1 m2 m3 hcell hdg h) X.2.1 hdg (fun lg => ⟨a, _, q, ci, 1, fs, rfl, hq, hmil, rfl⟩) (fin _ 1 1 (by decide) hmem hkk)
        · cases m3
      · cases hy
    · have hn := List.all_eq_true.mp hall t htm
      rw [Bool.or_eq_true] at hn
      have hn := hn.resolve_left hy
      have hmem : t ∈ r.2.2.filter (fun t => !(ck_iof M i 1 t)) := List.mem_filter.mpr ⟨htm, by rw [Bool.not_eq_true'] ; exact Bool.eq_false_iff.mpr hy⟩
      have hkk : k (ck_cst (ck_subS r.2.1 (2, r.2.1, r.2.2.filter (fun t => !(ck_iof M i 1 t))) (ck_ss S st)) 0 0) = true := by
        revert hN
        split
        · rename_i z; rw [z] at hmem; cases hmem
        · exact id
      unfold ck_iof at hn
      split at hn
      · rename_i ci hci
        obtain ⟨rc, nm, m1, m2, m3⟩ := hil _ (List.contains_iff_mem.mp hn)
        obtain ⟨fs, rfl⟩ := ck_clof hw hq ht hci
        have hmil := List.contains_iff_mem.mp hn
        have hcell := ck_cellof X hw hP hq ht hci m1
        rcases m3 with ⟨m3, -⟩ | ⟨-, m3⟩
        · cases m3
        · exact WG.up (fun h => va_instNo X.1 X.2.1 X.2.2.1 m2 m3 hcell hdg h) X.2.1 hdg (fun lg => ⟨a, _, q, ci, 0, fs, rfl, hq, hmil, rfl⟩) (fin _ 0 0 (by decide) hmem hkk)
      · cases hn
  · cases h
theorem ck_cas_ok (X : ck_cx p l e R s m args below meth c cc own D cl tys M sc A) (hxl : ∀ x ∈ mxl M, ck_hx s args own cl x) {i : Nat} (h : ck_cas M i S k = true) (hk : ∀ S, k S = true → ck_g Fc s0 p l e R s m args below meth c Q D cl tys M sc A ws0 sh0 S (pc + 3)) (hdg : decode cc pc = .ok (.checkcast i, 3)) : ck_g Fc s0 p l e R s m args below meth c Q D cl tys M sc A ws0 sh0 S pc := by
  intro n ws sh H locs ls vs o hw hx hP hD hS
  unfold ck_cas at h
  split at h
  · rename_i r st hst
    have o3 := o.2.2.1
    rw [hst] at o3
    obtain ⟨ra, vs2, rfl, h4, h5⟩ := ck_hd o3
    rw [Bool.and_eq_true, Bool.and_eq_true] at h
    obtain ⟨hr2, hall, hkk⟩ := h
    obtain ⟨hl, hv, q, a, e', t, rfl, hq, ht, htm⟩ := h4.r (eq_of_beq hr2)
    have hn := List.all_eq_true.mp hall t htm
    split at hn
    · rename_i ci hci
      obtain ⟨rc, nm, m1, m2, m3⟩ := hxl _ (List.contains_iff_mem.mp hn)
      have hcell := ck_cellof X hw hP hq ht hci m1
      have go : WG (tM M Fc sc.1) s0 p l e R s m args below meth c ws sh H locs (ck_oc R M + S.2.2.2.2.2.1) (ck_os R M + S.2.2.2.2.2.2) Q ((pc + 3), ls, (.ref a :: vs2)) := (hk _ hkk).at o hw hx hP hD hS rfl
      rcases m3 with m3 | m3
      · subst m3
        exact WG.up (fun h => va_castE X.1 X.2.1 X.2.2.1 m2 hcell hdg h) X.2.1 hdg (fun lg => ⟨_, _, rfl, rfl⟩) go
      · exact WG.up (fun h => va_castY X.1 X.2.1 X.2.2.1 m2 m3 hcell hdg h) X.2.1 hdg (fun lg => ⟨_, _, rfl, rfl⟩) go
    · cases hn
  · cases h
end
/-- the call's instruction, by its key: 0 virtual 1 static 2 special -/
def ck_ik (i : Nat) : Instr := match i % 3 with
  | 0 => .invokevirtual (i / 3)
  | 1 => .invokestatic (i / 3)
  | _ => .invokespecial (i / 3)
/-- what a call does, by its contract -/
def ck_cs (Fc : Nat → Nat × fR) (s0 : fS) (p : Program) (l : Launch) (e : Env) (R : Room) (s : State) (m : MethodId) (args : Array Value) (below : List Frame) (meth : Method) (c : Code) (Q : State → Prop) (cc : ByteArray) (D : va_G) (cl : List vw_C) (tys : List (ClassId × FieldType)) (M : ck_Me) (sc : ck_sc) (A : Nat → Prop) (x : Nat × Nat × Nat × ck_C) : Prop :=
  ∀ (pc : Nat) (ls : Array Slot) (n1 : ck_N) (ws : va_W) (sh : List Nat) (H : Heap) (locs : List Loc) (cells slots : Nat) (As rest : List Value), decode cc pc = .ok (ck_ik x.1, 3) → ls.size = mnL M → As.length = x.2.2.1 → (n1 0).1 = 0 →
    ck_po (mSG M) ws sh sc n1 x.2.2.2.1.2.2.1.length x.2.2.2.1 As → (x.2.1 ≠ 0 → ∃ v, As[0]? = some v ∧ ck_rf ws sh [x.2.1] v) → ck_wo tys (mTT M) (mSG M) ws sh → va_P D cl ws H → va_D A ws → va_S A s.heap H locs →
    cells + x.2.2.2.2.2.2.1 ≤ R.cells → slots + x.2.2.2.2.2.2.2 ≤ R.slots → (rest.map fun v => v.category).sum ≤ 8 →
    (∀ P ∈ x.2.2.2.2.1, ∀ (rv : Option Value) (n2 : ck_N) (ws' : va_W) (sh' : List Nat) (H' : Heap) (locs' : List Loc), (∀ k, k < x.2.2.2.1.2.2.1.length → n2 k = n1 k) → ck_wo tys (mTT M) (mSG M) ws' sh' → ck_ex x.2.2.2.2.2.1 ws sh ws' sh' → va_P D cl ws' H' → va_D A ws' → va_S A s.heap H' locs' →
      ck_po (mSG M) ws' sh' sc n2 P.2.2.1.length P rv.toList → WG (tM M Fc sc.1) s0 p l e R s m args below meth c ws' sh' H' locs' (cells + x.2.2.2.2.2.2.1) (slots + x.2.2.2.2.2.2.2) Q (pc + 3, ls, rv.toList ++ rest)) →
    WG (tM M Fc sc.1) s0 p l e R s m args below meth c ws sh H locs cells slots Q (pc, ls, As.reverse ++ rest)
section
variable {p : Program} {l : Launch} {e : Env} {R : Room} {s : State} {m : MethodId} {args : Array Value} {below : List Frame} {meth : Method} {c : Code} {Q : State → Prop} {cc : ByteArray} {own : String} {D : va_G} {cl : List vw_C} {tys : List (ClassId × FieldType)} {M : ck_Me} {sc : ck_sc} {A : Nat → Prop} {ws0 : va_W} {sh0 : List Nat} {Fc : Nat → Nat × fR} {s0 : fS} {S : ck_S} {pc pc' : Nat}
theorem ck_wles_ok {nL : Nat} {SG : List Nat} {n : ck_N} {ws : va_W} {sh : List Nat} {ls : Array Slot} {vs : List Value} {g : List Nat} {N : Nat} {k : ck_S → Bool} : ∀ {rs : List ck_R} {S : ck_S}, ck_wles g N rs S k = true → ck_so nL SG S n ws sh sc ls vs → (∀ r ∈ rs, (n (ck_ren g N r.1)).1 ≤ (n (ck_ren g N r.2.1)).1 + r.2.2) → ∃ S' : ck_S, k S' = true ∧ ck_so nL SG S' n ws sh sc ls vs ∧ ck_kn S S'
  | [], S, h, o, _ => ⟨S, h, o, rfl, rfl, rfl, rfl, rfl⟩
  | r :: rs, S, h, o, hr => by
    rw [ck_wles] at h
    obtain ⟨S1, k1, o1, e1⟩ := ck_wle_ok o h (hr r List.mem_cons_self)
    obtain ⟨S2, k2, o2, e2⟩ := ck_wles_ok k1 o1 (fun r h => hr r (List.mem_cons_of_mem _ h))
    exact ⟨S2, k2, o2, ck_kn.tr e1 e2⟩
/-- a pattern's value in the caller's numbers -/
theorem ck_renV_ok {ws : va_W} {sh : List Nat} {n2 n3 : ck_N} {N N2 N3 : Nat} {g : List Nat} (hn : ∀ k, k < N2 → n3 (ck_ren g N k) = n2 k) (hl : ∀ k, k < N2 → ck_ren g N k < N3) {v : ck_V} (h5 : v.1 < 5) {x : Value} (h : ck_vo ws sh sc n2 N2 v x) : ck_vo ws sh sc n3 N3 (ck_renV g N v) x := by
  unfold ck_vo at h ⊢
  refine ⟨hl _ h.1, ?_⟩
  show match v.1 with
  | 0 => _ | 1 => _ | 2 => _ | 3 => _ | 4 => _ | 5 => _ | 6 => _ | 7 => _ | _ => _
  have e1 : n3 (ck_renV g N v).2.1 = n2 v.2.1 := hn _ h.1
  have e2 : (ck_renV g N v).2.2 = v.2.2 := if_neg (by omega)
  rw [e1, e2]
  have h2 := h.2
  split at h2
  · rename_i e; rw [e]; exact h2
  · rename_i e; rw [e]; exact h2
  · rename_i e; rw [e]; exact h2
  · rename_i e; rw [e]; exact h2
  · rename_i e; rw [e]; exact h2
  · omega
  · omega
  · omega
  · exact h2.elim
end
end
