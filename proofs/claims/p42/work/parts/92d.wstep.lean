/-! a step of the trace is a step of what is said of it -/
theorem f_ok_r {T : fT} (h : f_ok T = true) : (∀ x ∈ T.1, T.1.find? (fun y => y.1 == x.1 && y.2.1 == x.2.1) = some x) ∧ (∀ x ∈ T.2.1, T.2.1.find? (fun y => y.1 == x.1 && y.2.1 == x.2.1) = some x) ∧ (∀ x ∈ T.2.2.1, T.2.2.1.find? (fun y => y.1 == x.1) = some x) ∧
    (∀ x ∈ T.2.2.2.1, T.2.2.2.1.find? (fun y => y.1 == x.1 && y.2.1 == x.2.1) = some x) ∧ ∀ x ∈ T.2.2.2.2.1, T.2.2.2.2.1.find? (fun y => y.1 == x.1 && y.2.1 == x.2.1) = some x := by
  unfold f_ok f_ok5 at h
  rw [Bool.and_eq_true, Bool.and_eq_true, Bool.and_eq_true, Bool.and_eq_true] at h
  obtain ⟨h1, h2, h3, h4, h5⟩ := h
  exact ⟨fun x hx => eq_of_beq (List.all_eq_true.mp h1 x hx), fun x hx => eq_of_beq (List.all_eq_true.mp h2 x hx), fun x hx => eq_of_beq (List.all_eq_true.mp h3 x hx), fun x hx => eq_of_beq (List.all_eq_true.mp h4 x hx), fun x hx => eq_of_beq (List.all_eq_true.mp h5 x hx)⟩
theorem f_tg_eq {pc t : Nat} {off : Int} (h : (pc : Int) + off = (t : Int)) : f_tg pc off = t := by
  unfold f_tg
  rw [h]
  rfl
theorem eG_eq {fl : List (Nat × Nat × Nat)} (hf : ∀ x ∈ fl, fl.find? (fun y => y.1 == x.1 && y.2.1 == x.2.1) = some x) {i ci k : Nat} (hm : (i, ci, k) ∈ fl) {fs : List Value} {v : Value} (hv : fs[k]? = some v) : eG fl i (some (.inr (ci, fs))) = v := by
  show fs.getD (kfd fl i ci) .null = v
  have h := hf _ hm
  dsimp only at h
  unfold kfd
  rw [h]
  show fs.getD k .null = v
  rw [List.getD_eq_getElem?_getD, hv]
  rfl
theorem sG_eq {pl : List (Nat × Nat × Nat × Nat)} (hf : ∀ x ∈ pl, pl.find? (fun y => y.1 == x.1 && y.2.1 == x.2.1) = some x) {i ci k d : Nat} (hm : (i, ci, k, d) ∈ pl) {fs : List Value} {u : Value} : sG pl i u (some (.inr (ci, fs))) = .inr (ci, fs.set k u) := by
  show Sum.inr (ci, fs.set (kpd pl i ci) u) = _
  have h := hf _ hm
  dsimp only at h
  unfold kpd
  rw [h]
theorem eT_eq {il : List (Nat × Nat × Nat)} (hf : ∀ x ∈ il, il.find? (fun y => y.1 == x.1 && y.2.1 == x.2.1) = some x) {i ci d : Nat} (hm : (i, ci, d) ∈ il) {fs : List Value} : eT il i (some (.inr (ci, fs))) = Int32.ofNat d := by
  show Int32.ofNat (kci il i ci) = _
  have h := hf _ hm
  dsimp only at h
  unfold kci
  rw [h]
theorem wT_ok {W : Type} {k : Nat → fL_ → List Value → W → Prop} {pc : Nat} {lg : fL_} {r : List Value} {w : W} {x : Int32} {off : Int} : ∀ {l : List Int} {lo : Int} (j : Nat), wT k pc lg r w x lo l → l[j]? = some off → x.toInt = lo + (j : Int) → k (f_tg pc off) lg r w
  | [], _, j, _, hj, _ => by simp at hj
  | o :: os, lo, 0, h, hj, hx => by
    rw [List.getElem?_cons_zero] at hj
    rw [← Option.some.inj hj]
    exact h.1 (by rw [hx]; show lo + 0 = lo; omega)
  | o :: os, lo, j + 1, h, hj, hx => by
    rw [List.getElem?_cons_succ] at hj
    exact wT_ok (l := os) (lo := lo + 1) j h.2 hj (by rw [hx]; omega)
section
variable {W : Type} {O : fO W} {T : fT} {Sp : fP W} {Rw : W → va_W → List Nat → Prop} {Post : Option Value → W → Prop} {k : Nat → fL_ → List Value → W → Prop} {len pc : Nat} {lgS : fL_} {lg : List (Nat × Value)} {vs : List Value} {w : W} {ws : va_W} {sh : List Nat}
theorem w_ld {K : Value → Prop} {i : Nat} {v : Value} (hr : f_rel lgS lg) (hv : ∀ u, (i, u) ∈ lg → u = v) (h : match lk lgS i with
    | some v => K v
    | none => False) : K v := by
  split at h
  · rename_i u hu
    obtain ⟨x, x1, x2, x3⟩ := lk_mem hu
    have h1 := (hr x x1).1
    rw [x2] at h1
    have h2 := hv _ h1
    rw [← h2, x3]
    exact h
  · exact h.elim
theorem w_call {key : Nat} {b : fS} (hO : f_wr O Rw) (hS : f_sp T Sp Rw) (hr : f_rel lgS lg) (hw : Rw w ws sh) (hx : f_call T key (pc, lg, vs, ws, sh) b) (h : wcall O Sp k key pc lgS vs w) : ∃ lg' w', f_rel lg' b.2.1 ∧ Rw w' b.2.2.2.1 b.2.2.2.2 ∧ k b.1 lg' b.2.2.1 w' := by
  obtain ⟨As, rest, rv, ws', sh', hvs, hl, hrel, rfl⟩ := hx
  have hvs : vs = As.reverse ++ rest := hvs
  subst hvs
  unfold wcall at h
  split at h
  · rename_i x hfx
    have hm := List.mem_of_find?_eq_some hfx
    have hp0 := List.find?_some hfx
    have hp : x.1 = key := eq_of_beq hp0
    obtain ⟨ha, hs⟩ := hS x hm
    rw [hp] at ha hs
    obtain ⟨w', hw', hphi⟩ := hs As w ws sh rv ws' sh' hw hrel
    have hlen : As.reverse.length = x.2.1 := by rw [List.length_reverse, hl, ha]
    have h1 : (As.reverse ++ rest).take x.2.1 = As.reverse := by rw [← hlen]; simp
    have h2 : (As.reverse ++ rest).drop x.2.1 = rest := by rw [← hlen]; simp
    have h3 := h rv w'
    rw [h1, h2, List.reverse_reverse] at h3
    exact ⟨lgS, w', hr, hw', h3 hphi⟩
  · exact h.elim
set_option maxHeartbeats 4000000 in
theorem wstep_ok {b : fS} {ins : Instr} (hO : f_wr O Rw) (hT : f_ok T = true) (hS : f_sp T Sp Rw) (hr : f_rel lgS lg) (hw : Rw w ws sh) (hx : fxi T ins len (pc, lg, vs, ws, sh) b) (h : wstep O T Sp Post k ins len pc lgS vs w) : ∃ lg' w', f_rel lg' b.2.1 ∧ Rw w' b.2.2.2.1 b.2.2.2.2 ∧ k b.1 lg' b.2.2.1 w' := by
  obtain ⟨t1, t2, t3, t4, t5⟩ := f_ok_r hT
  obtain ⟨hh1, hdj⟩ := hO.1 w ws sh hw
  have hat : ∀ {q p : Nat} {e : va_E}, ws[q]? = some (p, e) → O.1 w p = some e := fun hq => by rw [hh1]; exact hof_at hdj hq
  unfold fxi at hx
  split at hx
  · subst hx
    exact ⟨lgS, w, hr, hw, h⟩
  · rename_i v
    subst hx
    have h : (match decide (-128 ≤ v ∧ v < 128) with
      | true => k (pc + len) lgS (.int (Int32.ofInt v) :: vs) w
      | false => False) := h
    split at h
    · rename_i hd
      have hd := of_decide_eq_true hd
      have e : (Int8.ofInt v).toInt32 = Int32.ofInt v := Int32.toInt_inj.mp (by rw [Int8.toInt_toInt32, Int8.toInt_ofInt_of_le (by omega) (by omega), Int32.toInt_ofInt_of_le (by omega) (by omega)])
      refine ⟨lgS, w, hr, hw, ?_⟩
      show k (pc + len) lgS (.int (Int8.ofInt v).toInt32 :: vs) w
      rw [e]
      exact h
    · exact h.elim
  · rename_i v
    subst hx
    have h : (match decide (-32768 ≤ v ∧ v < 32768) with
      | true => k (pc + len) lgS (.int (Int32.ofInt v) :: vs) w
      | false => False) := h
    split at h
    · rename_i hd
      have hd := of_decide_eq_true hd
      have e : (Int16.ofInt v).toInt32 = Int32.ofInt v := Int32.toInt_inj.mp (by rw [Int16.toInt_toInt32, Int16.toInt_ofInt_of_le (by omega) (by omega), Int32.toInt_ofInt_of_le (by omega) (by omega)])
      refine ⟨lgS, w, hr, hw, ?_⟩
      show k (pc + len) lgS (.int (Int16.ofInt v).toInt32 :: vs) w
      rw [e]
      exact h
    · exact h.elim
  · subst hx
    exact ⟨lgS, w, hr, hw, h⟩
  · rename_i i
    obtain ⟨v, hm, rfl⟩ := hx
    have h : (match T.2.2.2.1.find? (fun x => x.1 == i && x.2.1 == 0) with
      | some x => k (pc + len) lgS (.int (Int32.ofInt x.2.2) :: vs) w
      | none => False) := h
    have hf := t4 _ hm
    dsimp only at hf
    rw [hf] at h
    have h : k (pc + len) lgS (.int (Int32.ofInt v.toInt) :: vs) w := h
    rw [Int32.ofInt_toInt] at h
    exact ⟨lgS, w, hr, hw, h⟩
  · rename_i i
    obtain ⟨v, hm, rfl⟩ := hx
    have h : (match T.2.2.2.1.find? (fun x => x.1 == i && x.2.1 == 0) with
      | some x => k (pc + len) lgS (.int (Int32.ofInt x.2.2) :: vs) w
      | none => False) := h
    have hf := t4 _ hm
    dsimp only at hf
    rw [hf] at h
    have h : k (pc + len) lgS (.int (Int32.ofInt v.toInt) :: vs) w := h
    rw [Int32.ofInt_toInt] at h
    exact ⟨lgS, w, hr, hw, h⟩
  · rename_i i
    obtain ⟨v, hm, rfl⟩ := hx
    have h : (match T.2.2.2.1.find? (fun x => x.1 == i && x.2.1 == 1) with
      | some x => k (pc + len) lgS (.long (Int64.ofInt x.2.2) :: vs) w
      | none => False) := h
    have hf := t4 _ hm
    dsimp only at hf
    rw [hf] at h
    have h : k (pc + len) lgS (.long (Int64.ofInt v.toInt) :: vs) w := h
    rw [Int64.ofInt_toInt] at h
    exact ⟨lgS, w, hr, hw, h⟩
  · obtain ⟨v, hv, rfl⟩ := hx
    exact ⟨lgS, w, hr, hw, w_ld (K := fun v => k (pc + len) lgS (v :: vs) w) hr hv h⟩
  · obtain ⟨v, hv, rfl⟩ := hx
    exact ⟨lgS, w, hr, hw, w_ld (K := fun v => k (pc + len) lgS (v :: vs) w) hr hv h⟩
  · obtain ⟨v, hv, rfl⟩ := hx
    exact ⟨lgS, w, hr, hw, w_ld (K := fun v => k (pc + len) lgS (v :: vs) w) hr hv h⟩
  · obtain ⟨v, hv, rfl⟩ := hx
    exact ⟨lgS, w, hr, hw, w_ld (K := fun v => k (pc + len) lgS (v :: vs) w) hr hv h⟩
  · obtain ⟨v, hv, rfl⟩ := hx
    exact ⟨lgS, w, hr, hw, w_ld (K := fun v => k (pc + len) lgS (v :: vs) w) hr hv h⟩
  · obtain ⟨v, hv, rfl⟩ := hx
    exact ⟨lgS, w, hr, hw, w_ld (K := fun v => k (pc + len) lgS (v :: vs) w) hr hv h⟩
  · obtain ⟨v, r, hvs, hc, rfl⟩ := hx
    have hvs : vs = v :: r := hvs
    subst hvs
    exact ⟨_, w, hr.st1 hc, hw, h⟩
  · obtain ⟨v, r, hvs, hc, rfl⟩ := hx
    have hvs : vs = v :: r := hvs
    subst hvs
    exact ⟨_, w, hr.st1 hc, hw, h⟩
  · obtain ⟨v, r, hvs, hc, rfl⟩ := hx
    have hvs : vs = v :: r := hvs
    subst hvs
    exact ⟨_, w, hr.st1 hc, hw, h⟩
  · obtain ⟨v, r, hvs, hc, rfl⟩ := hx
    have hvs : vs = v :: r := hvs
    subst hvs
    exact ⟨_, w, hr.st1 hc, hw, h⟩
  · obtain ⟨v, r, hvs, hc, rfl⟩ := hx
    have hvs : vs = v :: r := hvs
    subst hvs
    exact ⟨_, w, hr.st2, hw, h⟩
  · obtain ⟨v, r, hvs, hc, rfl⟩ := hx
    have hvs : vs = v :: r := hvs
    subst hvs
    exact ⟨_, w, hr.st2, hw, h⟩
  · rename_i i c
    obtain ⟨x, hv, rfl⟩ := hx
    have h := w_ld (K := fun v => k (pc + len) (ls1 lgS i (.int (iv v + Int32.ofInt c))) vs w) hr hv h
    exact ⟨_, w, hr.st1 rfl, hw, h⟩
  · obtain ⟨x, y, r, hvs, rfl⟩ := hx
    have hvs : vs = _ := hvs
    subst hvs
    exact ⟨lgS, w, hr, hw, h⟩
  · obtain ⟨x, y, r, hvs, rfl⟩ := hx
    have hvs : vs = _ := hvs
    subst hvs
    exact ⟨lgS, w, hr, hw, h⟩
  · obtain ⟨x, y, r, hvs, rfl⟩ := hx
    have hvs : vs = _ := hvs
    subst hvs
    exact ⟨lgS, w, hr, hw, h⟩
  · obtain ⟨x, y, r, hvs, rfl⟩ := hx
    have hvs : vs = _ := hvs
    subst hvs
    exact ⟨lgS, w, hr, hw, h⟩
  · obtain ⟨x, y, r, hvs, rfl⟩ := hx
    have hvs : vs = _ := hvs
    subst hvs
    exact ⟨lgS, w, hr, hw, h⟩
  · obtain ⟨x, y, r, hvs, rfl⟩ := hx
    have hvs : vs = _ := hvs
    subst hvs
    exact ⟨lgS, w, hr, hw, h⟩
  · obtain ⟨x, y, r, hvs, rfl⟩ := hx
    have hvs : vs = _ := hvs
    subst hvs
    exact ⟨lgS, w, hr, hw, h⟩
  · obtain ⟨x, y, r, hvs, rfl⟩ := hx
    have hvs : vs = _ := hvs
    subst hvs
    exact ⟨lgS, w, hr, hw, h⟩
  · obtain ⟨x, y, r, hvs, rfl⟩ := hx
    have hvs : vs = _ := hvs
    subst hvs
    exact ⟨lgS, w, hr, hw, h⟩
  · obtain ⟨x, y, r, hvs, rfl⟩ := hx
    have hvs : vs = _ := hvs
    subst hvs
    exact ⟨lgS, w, hr, hw, h⟩
  · obtain ⟨x, y, r, hvs, rfl⟩ := hx
    have hvs : vs = _ := hvs
    subst hvs
    exact ⟨lgS, w, hr, hw, h⟩
  · obtain ⟨x, y, r, hvs, rfl⟩ := hx
    have hvs : vs = _ := hvs
    subst hvs
    exact ⟨lgS, w, hr, hw, h⟩
  · obtain ⟨x, y, r, hvs, rfl⟩ := hx
    have hvs : vs = _ := hvs
    subst hvs
    exact ⟨lgS, w, hr, hw, h⟩
  · obtain ⟨x, y, r, hvs, rfl⟩ := hx
    have hvs : vs = _ := hvs
    subst hvs
    exact ⟨lgS, w, hr, hw, h⟩
  · obtain ⟨x, y, r, hvs, rfl⟩ := hx
    have hvs : vs = _ := hvs
    subst hvs
    exact ⟨lgS, w, hr, hw, h⟩
  · obtain ⟨x, y, r, hvs, rfl⟩ := hx
    have hvs : vs = _ := hvs
    subst hvs
    exact ⟨lgS, w, hr, hw, h⟩
  · obtain ⟨x, y, r, hvs, rfl⟩ := hx
    have hvs : vs = _ := hvs
    subst hvs
    exact ⟨lgS, w, hr, hw, h⟩
  · obtain ⟨x, y, r, hvs, rfl⟩ := hx
    have hvs : vs = _ := hvs
    subst hvs
    exact ⟨lgS, w, hr, hw, h⟩
  · obtain ⟨x, y, r, hvs, rfl⟩ := hx
    have hvs : vs = _ := hvs
    subst hvs
    exact ⟨lgS, w, hr, hw, h⟩
  · obtain ⟨x, y, r, hvs, rfl⟩ := hx
    have hvs : vs = _ := hvs
    subst hvs
    exact ⟨lgS, w, hr, hw, h⟩
  · obtain ⟨x, r, hvs, rfl⟩ := hx
    have hvs : vs = _ := hvs
    subst hvs
    exact ⟨lgS, w, hr, hw, h⟩
  · obtain ⟨x, r, hvs, rfl⟩ := hx
    have hvs : vs = _ := hvs
    subst hvs
    exact ⟨lgS, w, hr, hw, h⟩
  · obtain ⟨x, r, hvs, rfl⟩ := hx
    have hvs : vs = _ := hvs
    subst hvs
    exact ⟨lgS, w, hr, hw, h⟩
  · obtain ⟨x, r, hvs, rfl⟩ := hx
    have hvs : vs = _ := hvs
    subst hvs
    exact ⟨lgS, w, hr, hw, h⟩
  · obtain ⟨x, r, hvs, rfl⟩ := hx
    have hvs : vs = _ := hvs
    subst hvs
    exact ⟨lgS, w, hr, hw, h⟩
  · obtain ⟨x, y, r, hvs, rfl⟩ := hx
    have hvs : vs = _ := hvs
    subst hvs
    exact ⟨lgS, w, hr, hw, h⟩
  · subst hx
    exact ⟨lgS, w, hr, hw, h⟩
  · obtain ⟨v, r, hvs, rfl⟩ := hx
    have hvs : vs = _ := hvs
    subst hvs
    exact ⟨lgS, w, hr, hw, h⟩
  · obtain ⟨v, r, hvs, rfl⟩ := hx
    have hvs : vs = _ := hvs
    subst hvs
    exact ⟨lgS, w, hr, hw, h⟩
  · obtain ⟨v, r, hvs, rfl⟩ := hx
    have hvs : vs = _ := hvs
    subst hvs
    exact ⟨lgS, w, hr, hw, h⟩
  · obtain ⟨v, u, r, hvs, rfl⟩ := hx
    have hvs : vs = _ := hvs
    subst hvs
    exact ⟨lgS, w, hr, hw, h⟩
  · rename_i off
    obtain ⟨t, ht, rfl⟩ := hx
    have h : k (f_tg pc off) lgS vs w := h
    rw [f_tg_eq ht] at h
    exact ⟨lgS, w, hr, hw, h⟩
  · obtain ⟨x, r, hvs, hb⟩ := hx
    have hvs : vs = _ := hvs
    subst hvs
    rcases hb with ⟨hc, t, ht, rfl⟩ | ⟨hc, rfl⟩
    · have h := (show _ ∧ _ from h).1 hc
      rw [f_tg_eq ht] at h
      exact ⟨lgS, w, hr, hw, h⟩
    · exact ⟨lgS, w, hr, hw, (show _ ∧ _ from h).2 hc⟩
  · obtain ⟨x, y, r, hvs, hb⟩ := hx
    have hvs : vs = _ := hvs
    subst hvs
    rcases hb with ⟨hc, t, ht, rfl⟩ | ⟨hc, rfl⟩
    · have h := (show _ ∧ _ from h).1 hc
      rw [f_tg_eq ht] at h
      exact ⟨lgS, w, hr, hw, h⟩
    · exact ⟨lgS, w, hr, hw, (show _ ∧ _ from h).2 hc⟩
  · obtain ⟨v, r, hvs, hb⟩ := hx
    have hvs : vs = _ := hvs
    subst hvs
    rcases hb with ⟨hc, t, ht, rfl⟩ | ⟨hc, rfl⟩
    · have h := (show _ ∧ _ from h).1 hc
      rw [f_tg_eq ht] at h
      exact ⟨lgS, w, hr, hw, h⟩
    · exact ⟨lgS, w, hr, hw, (show _ ∧ _ from h).2 hc⟩
  · obtain ⟨v, r, hvs, hb⟩ := hx
    have hvs : vs = _ := hvs
    subst hvs
    rcases hb with ⟨hc, t, ht, rfl⟩ | ⟨hc, rfl⟩
    · have h := (show _ ∧ _ from h).1 hc
      rw [f_tg_eq ht] at h
      exact ⟨lgS, w, hr, hw, h⟩
    · exact ⟨lgS, w, hr, hw, (show _ ∧ _ from h).2 (Classical.not_not.mp hc)⟩
  · rename_i d lo hi os
    obtain ⟨x, r, hvs, off, t, hcs, ht, rfl⟩ := hx
    have hvs : vs = _ := hvs
    subst hvs
    have h : (x.toInt < lo ∨ hi < x.toInt → k (f_tg pc d) lgS r w) ∧ (lo ≤ x.toInt → x.toInt ≤ hi → wT k pc lgS r w x lo os.toList) := h
    rcases hcs with ⟨ho, rfl⟩ | ⟨h1, h2, ho⟩
    · have h := h.1 ho
      rw [f_tg_eq ht] at h
      exact ⟨lgS, w, hr, hw, h⟩
    · have h := wT_ok (x.toInt - lo).toNat (h.2 (by omega) (by omega)) (by rw [Array.getElem?_toList]; exact ho) (by omega)
      rw [f_tg_eq ht] at h
      exact ⟨lgS, w, hr, hw, h⟩
  · rename_i i
    obtain ⟨p, r, q, ci, kk, fs, v, hvs, hq, hm, hv, rfl⟩ := hx
    have hvs : vs = _ := hvs
    subst hvs
    have h : k (pc + 3) lgS (eG T.1 i (O.1 w p) :: r) w := h
    rw [hat hq, eG_eq t1 hm hv] at h
    exact ⟨lgS, w, hr, hw, h⟩
  · rename_i i
    obtain ⟨u, p, r, q, ci, kk, d, fs, hvs, hq, hm, hl, rfl⟩ := hx
    have hvs : vs = _ := hvs
    subst hvs
    have h : O.2.1 w p (sG T.2.1 i u (O.1 w p)) (k (pc + 3) lgS r) := h
    rw [hat hq, sG_eq t2 hm] at h
    obtain ⟨w', hw', h'⟩ := hO.2.1 w ws sh p q _ _ _ hw hq h
    exact ⟨lgS, w', hr, hw', h'⟩
  · obtain ⟨p, ho, -, rfl⟩ := hx
    have h : ∀ p, O.1 w p = none → k (pc + 3) lgS (.ref p :: vs) w := h
    exact ⟨lgS, w, hr, hw, h p (by rw [hh1]; exact hof_out ho)⟩
  · obtain ⟨x, p, r, hvs, hc⟩ := hx
    have hvs : vs = _ := hvs
    subst hvs
    have h : (match T.2.2.2.2.2.2 with
      | none => k (pc + 1) lgS (.int (eI (O.1 w p) x.toNatClampNeg) :: r) w
      | some sb => p = sb.1 ∧ k (pc + 1) lgS (.int (sb.2.2 x.toNatClampNeg) :: r) w) := h
    rcases hc with ⟨hn, q, ln, cA, f, hq, hlt, rfl⟩ | ⟨L, xs, hsb, rfl⟩
    · split at h
      · rw [hat hq] at h
        exact ⟨lgS, w, hr, hw, h⟩
      · rename_i sb hsb
        exact absurd hsb (by rw [h.1] at hn; exact hn sb.2.1 sb.2.2)
    · rw [hsb] at h
      exact ⟨lgS, w, hr, hw, h.2⟩
  · obtain ⟨x, p, r, hvs, hc⟩ := hx
    have hvs : vs = _ := hvs
    subst hvs
    have h : k (pc + 1) lgS (.long (eJ (O.1 w p) x.toNatClampNeg) :: r) w := h
    rcases hc with ⟨q, ln, cA, f, hq, hlt, rfl⟩ | ⟨ho, rfl⟩
    · rw [hat hq] at h
      exact ⟨lgS, w, hr, hw, h⟩
    · rw [hh1, hof_out ho] at h
      exact ⟨lgS, w, hr, hw, h⟩
  · obtain ⟨x, p, r, hvs, q, ln, cA, f, hq, hlt, rfl⟩ := hx
    have hvs : vs = _ := hvs
    subst hvs
    have h : k (pc + 1) lgS (.int (eI (O.1 w p) x.toNatClampNeg) :: r) w := h
    rw [hat hq] at h
    exact ⟨lgS, w, hr, hw, h⟩
  · obtain ⟨x, p, r, hvs, q, ln, cA, f, hq, hlt, rfl⟩ := hx
    have hvs : vs = _ := hvs
    subst hvs
    have h : k (pc + 1) lgS (eR (O.1 w p) x.toNatClampNeg :: r) w := h
    rw [hat hq] at h
    exact ⟨lgS, w, hr, hw, h⟩
  · obtain ⟨v, x, p, r, hvs, q, ln, cA, f, hq, hlt, rfl⟩ := hx
    have hvs : vs = _ := hvs
    subst hvs
    have h : O.2.1 w p (sI x.toNatClampNeg v (O.1 w p)) (k (pc + 1) lgS r) := h
    rw [hat hq] at h
    obtain ⟨w', hw', h'⟩ := hO.2.1 w ws sh p q _ _ _ hw hq h
    exact ⟨lgS, w', hr, hw', h'⟩
  · obtain ⟨v, x, p, r, hvs, q, ln, cA, f, hq, hlt, rfl⟩ := hx
    have hvs : vs = _ := hvs
    subst hvs
    have h : O.2.1 w p (sJ x.toNatClampNeg v (O.1 w p)) (k (pc + 1) lgS r) := h
    rw [hat hq] at h
    obtain ⟨w', hw', h'⟩ := hO.2.1 w ws sh p q _ _ _ hw hq h
    exact ⟨lgS, w', hr, hw', h'⟩
  · obtain ⟨v, x, p, r, hvs, q, ln, cA, f, hq, hlt, rfl⟩ := hx
    have hvs : vs = _ := hvs
    subst hvs
    have h : O.2.1 w p (sI x.toNatClampNeg (vp_nar .boolean v) (O.1 w p)) (k (pc + 1) lgS r) := h
    rw [hat hq] at h
    obtain ⟨w', hw', h'⟩ := hO.2.1 w ws sh p q _ _ _ hw hq h
    exact ⟨lgS, w', hr, hw', h'⟩
  · obtain ⟨v, x, p, r, hvs, q, ln, cA, f, hq, hlt, rfl⟩ := hx
    have hvs : vs = _ := hvs
    subst hvs
    have h : O.2.1 w p (sR x.toNatClampNeg (va_rf v) (O.1 w p)) (k (pc + 1) lgS r) := h
    have e : sR x.toNatClampNeg (va_rf v) (some (.inl (cA, ln, .inr (.inr (.inr (.inr f)))))) = .inl (cA, ln, .inr (.inr (.inr (.inr (va_up f x.toNatClampNeg v))))) := by cases v <;> rfl
    rw [hat hq, e] at h
    obtain ⟨w', hw', h'⟩ := hO.2.1 w ws sh p q _ _ _ hw hq h
    exact ⟨lgS, w', hr, hw', h'⟩
  · obtain ⟨p, r, hvs, hc⟩ := hx
    have hvs : vs = _ := hvs
    subst hvs
    have h : (match T.2.2.2.2.2.2 with
      | none => k (pc + 1) lgS (.int (Int32.ofNat (eL (O.1 w p))) :: r) w
      | some sb => p = sb.1 ∧ k (pc + 1) lgS (.int (Int32.ofNat sb.2.1) :: r) w) := h
    rcases hc with ⟨hn, q, cA, y, hq, rfl⟩ | ⟨L, xs, hsb, rfl⟩ | ⟨hn, ho, rfl⟩
    · split at h
      · rw [hat hq] at h
        exact ⟨lgS, w, hr, hw, h⟩
      · rename_i sb hsb
        exact absurd hsb (by rw [h.1] at hn; exact hn sb.2.1 sb.2.2)
    · rw [hsb] at h
      exact ⟨lgS, w, hr, hw, h.2⟩
    · split at h
      · rw [hh1, hof_out ho] at h
        exact ⟨lgS, w, hr, hw, h⟩
      · rename_i sb hsb
        exact absurd hsb (by rw [h.1] at hn; exact hn sb.2.1 sb.2.2)
  · rename_i i
    obtain ⟨q, ci, t, n, ty, hm, hd, rfl⟩ := hx
    have h : ∀ (q : Nat) (ty : Nat → FieldType), O.1 w q = none → (match T.2.2.1.find? (fun x => x.1 == i) with
      | some x => O.2.2 w q (.inr (x.2.1, (List.range x.2.2.2).map fun j => defaultValue (ty j))) x.2.2.1 (k (pc + 3) lgS (.ref q :: vs))
      | none => False) := h
    have h := h q ty (by rw [hh1]; exact (hof_app hd).2.1)
    have hf := t3 _ hm
    dsimp only at hf
    rw [hf] at h
    obtain ⟨w', hw', h'⟩ := hO.2.2 w ws sh q t _ _ hw hd h
    exact ⟨lgS, w', hr, hw', h'⟩
  · rename_i i
    obtain ⟨p, r, q, ci, d, fs, hvs, hq, hm, rfl⟩ := hx
    have hvs : vs = _ := hvs
    subst hvs
    have h : k (pc + 3) lgS (.int (eT T.2.2.2.2.1 i (O.1 w p)) :: r) w := h
    rw [hat hq, eT_eq t5 hm] at h
    exact ⟨lgS, w, hr, hw, h⟩
  · obtain ⟨v, r, hvs, rfl⟩ := hx
    have hvs : vs = _ := hvs
    subst hvs
    exact ⟨lgS, w, hr, hw, h⟩
  · exact w_call hO hS hr hw hx h
  · exact w_call hO hS hr hw hx h
  · exact w_call hO hS hr hw hx h
  · exact hx.elim
end
