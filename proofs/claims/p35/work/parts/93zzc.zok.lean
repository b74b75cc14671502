/-! a step of the trace is a step over places -/
def zgo (k : Nat → fL_ → List Value → zW → Prop) (b : fS) : Prop := ∃ (lg' : fL_) (us' : List Value) (A' : zW), zrel b.2.2.2.1 lg' b.2.1 ∧ zvs b.2.2.2.1 b.2.2.1 us' ∧ zA A' b.2.2.2.1 b.2.2.2.2 ∧ k b.1 lg' us' A'
theorem kfd_eq {fl : List (Nat × Nat × Nat)} (hf : ∀ x ∈ fl, fl.find? (fun y => y.1 == x.1 && y.2.1 == x.2.1) = some x) {i ci k : Nat} (hm : (i, ci, k) ∈ fl) : kfd fl i ci = k := by
  have h := hf _ hm
  dsimp only at h
  unfold kfd
  rw [h]
theorem kpd_eq {pl : List (Nat × Nat × Nat × Nat)} (hf : ∀ x ∈ pl, pl.find? (fun y => y.1 == x.1 && y.2.1 == x.2.1) = some x) {i ci k d : Nat} (hm : (i, ci, k, d) ∈ pl) : kpd pl i ci = k := by
  have h := hf _ hm
  dsimp only at h
  unfold kpd
  rw [h]
theorem kci_eq {il : List (Nat × Nat × Nat)} (hf : ∀ x ∈ il, il.find? (fun y => y.1 == x.1 && y.2.1 == x.2.1) = some x) {i ci d : Nat} (hm : (i, ci, d) ∈ il) : kci il i ci = d := by
  have h := hf _ hm
  dsimp only at h
  unfold kci
  rw [h]
section
variable {T : fT} {Sp : zP} {Post : Option Value → zW → Prop} {k : Nat → fL_ → List Value → zW → Prop} {len pc : Nat} {lgS : fL_} {lg : List (Nat × Value)} {vs us : List Value} {A : zW} {ws : va_W} {sh : List Nat}
theorem z_call {key : Nat} {b : fS} (hS : zsp T Sp) (hr : zrel ws lgS lg) (hv : zvs ws vs us) (hA : zA A ws sh) (hx : f_call T key (pc, lg, vs, ws, sh) b) (h : zcall Sp k key pc lgS us A) : zgo k b := by
  obtain ⟨As, rest, rv, ws', sh', hvs, hl, hrel, rfl⟩ := hx
  have hvs : vs = As.reverse ++ rest := hvs
  subst hvs
  unfold zcall at h
  split at h
  · rename_i x hfx
    have hm := List.mem_of_find?_eq_some hfx
    have hp0 := List.find?_some hfx
    have hp : x.1 = key := eq_of_beq hp0
    obtain ⟨ha, hs⟩ := hS x hm
    rw [hp] at ha hs
    obtain ⟨hz, hd⟩ := hs As ws sh rv ws' sh' hrel
    have hlen : As.reverse.length = x.2.1 := by rw [List.length_reverse, hl, ha]
    obtain ⟨v1, v2⟩ := hv.app
    rw [hlen] at v1 v2
    have v3 := v1.rev
    rw [List.reverse_reverse] at v3
    obtain ⟨A', u, hA', hu, hK⟩ := hd A _ _ hA v3 h
    exact ⟨lgS, u.toList ++ us.drop x.2.1, A', hr.mv hz, hu.join (v2.mv hz), hA', hK⟩
  · exact h.elim
set_option maxHeartbeats 4000000 in
theorem zstep_ok {b : fS} {ins : Instr} (hT : f_ok T = true) (hN : T.2.2.2.2.2.2 = none) (hS : zsp T Sp) (hr : zrel ws lgS lg) (hv : zvs ws vs us) (hA : zA A ws sh) (hx : fxi T ins len (pc, lg, vs, ws, sh) b) (h : zstep T Sp Post k ins len pc lgS us A) : zgo k b := by
  obtain ⟨t1, t2, t3, t4, t5⟩ := f_ok_r hT
  have hat : ∀ {q p j : Nat} {e e' : va_E}, ws[q]? = some (p, e) → ws[j]? = some (p, e') → j = q := fun h1 h2 => hA.at_ h1 h2
  have nsc : ∀ {p L : Nat} {xs : Nat → Int32}, T.2.2.2.2.2.2 = some (p, L, xs) → False := fun hh => by rw [hN] at hh; cases hh
  unfold fxi at hx
  split at hx
  · subst hx
    refine ⟨lgS, _, A, hr, ?_, hA, h⟩
    exact ⟨rfl, hv⟩
  · rename_i v
    subst hx
    have h : (match decide (-128 ≤ v ∧ v < 128) with
      | true => k (pc + len) lgS (.int (Int32.ofInt v) :: us) A
      | false => False) := h
    split at h
    · rename_i hd
      have hd := of_decide_eq_true hd
      have e : (Int8.ofInt v).toInt32 = Int32.ofInt v := Int32.toInt_inj.mp (by rw [Int8.toInt_toInt32, Int8.toInt_ofInt_of_le (by omega) (by omega), Int32.toInt_ofInt_of_le (by omega) (by omega)])
      exact ⟨lgS, .int (Int32.ofInt v) :: us, A, hr, ⟨(show Value.int (Int8.ofInt v).toInt32 = .int (Int32.ofInt v) by rw [e]), hv⟩, hA, h⟩
    · exact h.elim
  · rename_i v
    subst hx
    have h : (match decide (-32768 ≤ v ∧ v < 32768) with
      | true => k (pc + len) lgS (.int (Int32.ofInt v) :: us) A
      | false => False) := h
    split at h
    · rename_i hd
      have hd := of_decide_eq_true hd
      have e : (Int16.ofInt v).toInt32 = Int32.ofInt v := Int32.toInt_inj.mp (by rw [Int16.toInt_toInt32, Int16.toInt_ofInt_of_le (by omega) (by omega), Int32.toInt_ofInt_of_le (by omega) (by omega)])
      exact ⟨lgS, .int (Int32.ofInt v) :: us, A, hr, ⟨(show Value.int (Int16.ofInt v).toInt32 = .int (Int32.ofInt v) by rw [e]), hv⟩, hA, h⟩
    · exact h.elim
  · subst hx
    refine ⟨lgS, _, A, hr, ?_, hA, h⟩
    exact ⟨rfl, hv⟩
  · rename_i i
    obtain ⟨v, hm, rfl⟩ := hx
    have h : (match T.2.2.2.1.find? (fun x => x.1 == i && x.2.1 == 0) with
      | some x => k (pc + len) lgS (.int (Int32.ofInt x.2.2) :: us) A
      | none => False) := h
    have hf := t4 _ hm
    dsimp only at hf
    rw [hf] at h
    have h : k (pc + len) lgS (.int (Int32.ofInt v.toInt) :: us) A := h
    rw [Int32.ofInt_toInt] at h
    refine ⟨lgS, _, A, hr, ?_, hA, h⟩
    exact ⟨rfl, hv⟩
  · rename_i i
    obtain ⟨v, hm, rfl⟩ := hx
    have h : (match T.2.2.2.1.find? (fun x => x.1 == i && x.2.1 == 0) with
      | some x => k (pc + len) lgS (.int (Int32.ofInt x.2.2) :: us) A
      | none => False) := h
    have hf := t4 _ hm
    dsimp only at hf
    rw [hf] at h
    have h : k (pc + len) lgS (.int (Int32.ofInt v.toInt) :: us) A := h
    rw [Int32.ofInt_toInt] at h
    refine ⟨lgS, _, A, hr, ?_, hA, h⟩
    exact ⟨rfl, hv⟩
  · rename_i i
    obtain ⟨v, hm, rfl⟩ := hx
    have h : (match T.2.2.2.1.find? (fun x => x.1 == i && x.2.1 == 1) with
      | some x => k (pc + len) lgS (.long (Int64.ofInt x.2.2) :: us) A
      | none => False) := h
    have hf := t4 _ hm
    dsimp only at hf
    rw [hf] at h
    have h : k (pc + len) lgS (.long (Int64.ofInt v.toInt) :: us) A := h
    rw [Int64.ofInt_toInt] at h
    refine ⟨lgS, _, A, hr, ?_, hA, h⟩
    exact ⟨rfl, hv⟩
  · obtain ⟨v, hw, rfl⟩ := hx
    obtain ⟨u, hu, h⟩ := z_ld (K := fun v => k (pc + len) lgS (v :: us) A) hr hw h
    exact ⟨lgS, u :: us, A, hr, ⟨hu, hv⟩, hA, h⟩
  · obtain ⟨v, hw, rfl⟩ := hx
    obtain ⟨u, hu, h⟩ := z_ld (K := fun v => k (pc + len) lgS (v :: us) A) hr hw h
    exact ⟨lgS, u :: us, A, hr, ⟨hu, hv⟩, hA, h⟩
  · obtain ⟨v, hw, rfl⟩ := hx
    obtain ⟨u, hu, h⟩ := z_ld (K := fun v => k (pc + len) lgS (v :: us) A) hr hw h
    exact ⟨lgS, u :: us, A, hr, ⟨hu, hv⟩, hA, h⟩
  · obtain ⟨v, hw, rfl⟩ := hx
    obtain ⟨u, hu, h⟩ := z_ld (K := fun v => k (pc + len) lgS (v :: us) A) hr hw h
    exact ⟨lgS, u :: us, A, hr, ⟨hu, hv⟩, hA, h⟩
  · obtain ⟨v, hw, rfl⟩ := hx
    obtain ⟨u, hu, h⟩ := z_ld (K := fun v => k (pc + len) lgS (v :: us) A) hr hw h
    exact ⟨lgS, u :: us, A, hr, ⟨hu, hv⟩, hA, h⟩
  · obtain ⟨v, hw, rfl⟩ := hx
    obtain ⟨u, hu, h⟩ := z_ld (K := fun v => k (pc + len) lgS (v :: us) A) hr hw h
    exact ⟨lgS, u :: us, A, hr, ⟨hu, hv⟩, hA, h⟩
  · obtain ⟨v, r, hvs, hc, rfl⟩ := hx
    have hvs : vs = v :: r := hvs
    subst hvs
    obtain ⟨u, s, rfl, h1, h2⟩ := hv.cons
    exact ⟨_, s, A, hr.st1 hc h1, h2, hA, h⟩
  · obtain ⟨v, r, hvs, hc, rfl⟩ := hx
    have hvs : vs = v :: r := hvs
    subst hvs
    obtain ⟨u, s, rfl, h1, h2⟩ := hv.cons
    exact ⟨_, s, A, hr.st1 hc h1, h2, hA, h⟩
  · obtain ⟨v, r, hvs, hc, rfl⟩ := hx
    have hvs : vs = v :: r := hvs
    subst hvs
    obtain ⟨u, s, rfl, h1, h2⟩ := hv.cons
    exact ⟨_, s, A, hr.st1 hc h1, h2, hA, h⟩
  · obtain ⟨v, r, hvs, hc, rfl⟩ := hx
    have hvs : vs = v :: r := hvs
    subst hvs
    obtain ⟨u, s, rfl, h1, h2⟩ := hv.cons
    exact ⟨_, s, A, hr.st1 hc h1, h2, hA, h⟩
  · obtain ⟨v, r, hvs, hc, rfl⟩ := hx
    have hvs : vs = v :: r := hvs
    subst hvs
    obtain ⟨u, s, rfl, h1, h2⟩ := hv.cons
    exact ⟨_, s, A, hr.st2 h1, h2, hA, h⟩
  · obtain ⟨v, r, hvs, hc, rfl⟩ := hx
    have hvs : vs = v :: r := hvs
    subst hvs
    obtain ⟨u, s, rfl, h1, h2⟩ := hv.cons
    exact ⟨_, s, A, hr.st2 h1, h2, hA, h⟩
  · rename_i i c
    obtain ⟨x, hw, rfl⟩ := hx
    obtain ⟨u, hu, h⟩ := z_ld (K := fun v => k (pc + len) (ls1 lgS i (.int (iv v + Int32.ofInt c))) us A) hr hw h
    obtain rfl := hu.int
    exact ⟨_, us, A, hr.st1 rfl (show zvr ws (.int (x + Int32.ofInt c)) (.int (x + Int32.ofInt c)) from rfl), hv, hA, h⟩
  · obtain ⟨x, y, r, hvs, rfl⟩ := hx
    have hvs : vs = _ := hvs
    subst hvs
    obtain ⟨u1, s1, rfl, h1, h2⟩ := hv.cons
    obtain ⟨u2, s2, rfl, h3, h4⟩ := h2.cons
    obtain rfl := h1.int
    obtain rfl := h3.int
    refine ⟨lgS, _, A, hr, ?_, hA, h⟩
    exact ⟨rfl, h4⟩
  · obtain ⟨x, y, r, hvs, rfl⟩ := hx
    have hvs : vs = _ := hvs
    subst hvs
    obtain ⟨u1, s1, rfl, h1, h2⟩ := hv.cons
    obtain ⟨u2, s2, rfl, h3, h4⟩ := h2.cons
    obtain rfl := h1.int
    obtain rfl := h3.int
    refine ⟨lgS, _, A, hr, ?_, hA, h⟩
    exact ⟨rfl, h4⟩
  · obtain ⟨x, y, r, hvs, rfl⟩ := hx
    have hvs : vs = _ := hvs
    subst hvs
    obtain ⟨u1, s1, rfl, h1, h2⟩ := hv.cons
    obtain ⟨u2, s2, rfl, h3, h4⟩ := h2.cons
    obtain rfl := h1.int
    obtain rfl := h3.int
    refine ⟨lgS, _, A, hr, ?_, hA, h⟩
    exact ⟨rfl, h4⟩
  · obtain ⟨x, y, r, hvs, rfl⟩ := hx
    have hvs : vs = _ := hvs
    subst hvs
    obtain ⟨u1, s1, rfl, h1, h2⟩ := hv.cons
    obtain ⟨u2, s2, rfl, h3, h4⟩ := h2.cons
    obtain rfl := h1.int
    obtain rfl := h3.int
    refine ⟨lgS, _, A, hr, ?_, hA, h⟩
    exact ⟨rfl, h4⟩
  · obtain ⟨x, y, r, hvs, rfl⟩ := hx
    have hvs : vs = _ := hvs
    subst hvs
    obtain ⟨u1, s1, rfl, h1, h2⟩ := hv.cons
    obtain ⟨u2, s2, rfl, h3, h4⟩ := h2.cons
    obtain rfl := h1.int
    obtain rfl := h3.int
    refine ⟨lgS, _, A, hr, ?_, hA, h⟩
    exact ⟨rfl, h4⟩
  · obtain ⟨x, y, r, hvs, rfl⟩ := hx
    have hvs : vs = _ := hvs
    subst hvs
    obtain ⟨u1, s1, rfl, h1, h2⟩ := hv.cons
    obtain ⟨u2, s2, rfl, h3, h4⟩ := h2.cons
    obtain rfl := h1.int
    obtain rfl := h3.int
    refine ⟨lgS, _, A, hr, ?_, hA, h⟩
    exact ⟨rfl, h4⟩
  · obtain ⟨x, y, r, hvs, rfl⟩ := hx
    have hvs : vs = _ := hvs
    subst hvs
    obtain ⟨u1, s1, rfl, h1, h2⟩ := hv.cons
    obtain ⟨u2, s2, rfl, h3, h4⟩ := h2.cons
    obtain rfl := h1.int
    obtain rfl := h3.int
    refine ⟨lgS, _, A, hr, ?_, hA, h⟩
    exact ⟨rfl, h4⟩
  · obtain ⟨x, y, r, hvs, rfl⟩ := hx
    have hvs : vs = _ := hvs
    subst hvs
    obtain ⟨u1, s1, rfl, h1, h2⟩ := hv.cons
    obtain ⟨u2, s2, rfl, h3, h4⟩ := h2.cons
    obtain rfl := h1.int
    obtain rfl := h3.int
    refine ⟨lgS, _, A, hr, ?_, hA, h⟩
    exact ⟨rfl, h4⟩
  · obtain ⟨x, y, r, hvs, rfl⟩ := hx
    have hvs : vs = _ := hvs
    subst hvs
    obtain ⟨u1, s1, rfl, h1, h2⟩ := hv.cons
    obtain ⟨u2, s2, rfl, h3, h4⟩ := h2.cons
    obtain rfl := h1.int
    obtain rfl := h3.int
    refine ⟨lgS, _, A, hr, ?_, hA, h⟩
    exact ⟨rfl, h4⟩
  · obtain ⟨x, y, r, hvs, rfl⟩ := hx
    have hvs : vs = _ := hvs
    subst hvs
    obtain ⟨u1, s1, rfl, h1, h2⟩ := hv.cons
    obtain ⟨u2, s2, rfl, h3, h4⟩ := h2.cons
    obtain rfl := h1.int
    obtain rfl := h3.int
    refine ⟨lgS, _, A, hr, ?_, hA, h⟩
    exact ⟨rfl, h4⟩
  · obtain ⟨x, y, r, hvs, rfl⟩ := hx
    have hvs : vs = _ := hvs
    subst hvs
    obtain ⟨u1, s1, rfl, h1, h2⟩ := hv.cons
    obtain ⟨u2, s2, rfl, h3, h4⟩ := h2.cons
    obtain rfl := h1.int
    obtain rfl := h3.int
    refine ⟨lgS, _, A, hr, ?_, hA, h⟩
    exact ⟨rfl, h4⟩
  · obtain ⟨x, y, r, hvs, rfl⟩ := hx
    have hvs : vs = _ := hvs
    subst hvs
    obtain ⟨u1, s1, rfl, h1, h2⟩ := hv.cons
    obtain ⟨u2, s2, rfl, h3, h4⟩ := h2.cons
    obtain rfl := h1.long
    obtain rfl := h3.long
    refine ⟨lgS, _, A, hr, ?_, hA, h⟩
    exact ⟨rfl, h4⟩
  · obtain ⟨x, y, r, hvs, rfl⟩ := hx
    have hvs : vs = _ := hvs
    subst hvs
    obtain ⟨u1, s1, rfl, h1, h2⟩ := hv.cons
    obtain ⟨u2, s2, rfl, h3, h4⟩ := h2.cons
    obtain rfl := h1.long
    obtain rfl := h3.long
    refine ⟨lgS, _, A, hr, ?_, hA, h⟩
    exact ⟨rfl, h4⟩
  · obtain ⟨x, y, r, hvs, rfl⟩ := hx
    have hvs : vs = _ := hvs
    subst hvs
    obtain ⟨u1, s1, rfl, h1, h2⟩ := hv.cons
    obtain ⟨u2, s2, rfl, h3, h4⟩ := h2.cons
    obtain rfl := h1.long
    obtain rfl := h3.long
    refine ⟨lgS, _, A, hr, ?_, hA, h⟩
    exact ⟨rfl, h4⟩
  · obtain ⟨x, y, r, hvs, rfl⟩ := hx
    have hvs : vs = _ := hvs
    subst hvs
    obtain ⟨u1, s1, rfl, h1, h2⟩ := hv.cons
    obtain ⟨u2, s2, rfl, h3, h4⟩ := h2.cons
    obtain rfl := h1.long
    obtain rfl := h3.long
    refine ⟨lgS, _, A, hr, ?_, hA, h⟩
    exact ⟨rfl, h4⟩
  · obtain ⟨x, y, r, hvs, rfl⟩ := hx
    have hvs : vs = _ := hvs
    subst hvs
    obtain ⟨u1, s1, rfl, h1, h2⟩ := hv.cons
    obtain ⟨u2, s2, rfl, h3, h4⟩ := h2.cons
    obtain rfl := h1.long
    obtain rfl := h3.long
    refine ⟨lgS, _, A, hr, ?_, hA, h⟩
    exact ⟨rfl, h4⟩
  · obtain ⟨x, y, r, hvs, rfl⟩ := hx
    have hvs : vs = _ := hvs
    subst hvs
    obtain ⟨u1, s1, rfl, h1, h2⟩ := hv.cons
    obtain ⟨u2, s2, rfl, h3, h4⟩ := h2.cons
    obtain rfl := h1.long
    obtain rfl := h3.long
    refine ⟨lgS, _, A, hr, ?_, hA, h⟩
    exact ⟨rfl, h4⟩
  · obtain ⟨x, y, r, hvs, rfl⟩ := hx
    have hvs : vs = _ := hvs
    subst hvs
    obtain ⟨u1, s1, rfl, h1, h2⟩ := hv.cons
    obtain ⟨u2, s2, rfl, h3, h4⟩ := h2.cons
    obtain rfl := h1.int
    obtain rfl := h3.long
    refine ⟨lgS, _, A, hr, ?_, hA, h⟩
    exact ⟨rfl, h4⟩
  · obtain ⟨x, y, r, hvs, rfl⟩ := hx
    have hvs : vs = _ := hvs
    subst hvs
    obtain ⟨u1, s1, rfl, h1, h2⟩ := hv.cons
    obtain ⟨u2, s2, rfl, h3, h4⟩ := h2.cons
    obtain rfl := h1.int
    obtain rfl := h3.long
    refine ⟨lgS, _, A, hr, ?_, hA, h⟩
    exact ⟨rfl, h4⟩
  · obtain ⟨x, y, r, hvs, rfl⟩ := hx
    have hvs : vs = _ := hvs
    subst hvs
    obtain ⟨u1, s1, rfl, h1, h2⟩ := hv.cons
    obtain ⟨u2, s2, rfl, h3, h4⟩ := h2.cons
    obtain rfl := h1.int
    obtain rfl := h3.long
    refine ⟨lgS, _, A, hr, ?_, hA, h⟩
    exact ⟨rfl, h4⟩
  · obtain ⟨x, r, hvs, rfl⟩ := hx
    have hvs : vs = _ := hvs
    subst hvs
    obtain ⟨u1, s1, rfl, h1, h2⟩ := hv.cons
    obtain rfl := h1.int
    refine ⟨lgS, _, A, hr, ?_, hA, h⟩
    exact ⟨rfl, h2⟩
  · obtain ⟨x, r, hvs, rfl⟩ := hx
    have hvs : vs = _ := hvs
    subst hvs
    obtain ⟨u1, s1, rfl, h1, h2⟩ := hv.cons
    obtain rfl := h1.int
    refine ⟨lgS, _, A, hr, ?_, hA, h⟩
    exact ⟨rfl, h2⟩
  · obtain ⟨x, r, hvs, rfl⟩ := hx
    have hvs : vs = _ := hvs
    subst hvs
    obtain ⟨u1, s1, rfl, h1, h2⟩ := hv.cons
    obtain rfl := h1.long
    refine ⟨lgS, _, A, hr, ?_, hA, h⟩
    exact ⟨rfl, h2⟩
  · obtain ⟨x, r, hvs, rfl⟩ := hx
    have hvs : vs = _ := hvs
    subst hvs
    obtain ⟨u1, s1, rfl, h1, h2⟩ := hv.cons
    obtain rfl := h1.int
    refine ⟨lgS, _, A, hr, ?_, hA, h⟩
    exact ⟨rfl, h2⟩
  · obtain ⟨x, r, hvs, rfl⟩ := hx
    have hvs : vs = _ := hvs
    subst hvs
    obtain ⟨u1, s1, rfl, h1, h2⟩ := hv.cons
    obtain rfl := h1.int
    refine ⟨lgS, _, A, hr, ?_, hA, h⟩
    exact ⟨rfl, h2⟩
  · obtain ⟨x, y, r, hvs, rfl⟩ := hx
    have hvs : vs = _ := hvs
    subst hvs
    obtain ⟨u1, s1, rfl, h1, h2⟩ := hv.cons
    obtain ⟨u2, s2, rfl, h3, h4⟩ := h2.cons
    obtain rfl := h1.long
    obtain rfl := h3.long
    refine ⟨lgS, _, A, hr, ?_, hA, h⟩
    exact ⟨rfl, h4⟩
  · subst hx
    refine ⟨lgS, _, A, hr, ?_, hA, h⟩
    exact ⟨rfl, hv⟩
  · obtain ⟨v, r, hvs, rfl⟩ := hx
    have hvs : vs = _ := hvs
    subst hvs
    obtain ⟨u1, s1, rfl, h1, h2⟩ := hv.cons
    exact ⟨lgS, u1 :: u1 :: s1, A, hr, ⟨h1, h1, h2⟩, hA, h⟩
  · obtain ⟨v, r, hvs, rfl⟩ := hx
    have hvs : vs = _ := hvs
    subst hvs
    obtain ⟨u1, s1, rfl, h1, h2⟩ := hv.cons
    exact ⟨lgS, s1, A, hr, h2, hA, h⟩
  · obtain ⟨v, r, hvs, rfl⟩ := hx
    have hvs : vs = _ := hvs
    subst hvs
    obtain ⟨u1, s1, rfl, h1, h2⟩ := hv.cons
    exact ⟨lgS, s1, A, hr, h2, hA, h⟩
  · obtain ⟨v, u, r, hvs, rfl⟩ := hx
    have hvs : vs = _ := hvs
    subst hvs
    obtain ⟨u1, s1, rfl, h1, h2⟩ := hv.cons
    obtain ⟨u2, s2, rfl, h3, h4⟩ := h2.cons
    exact ⟨lgS, u1 :: u2 :: u1 :: u2 :: s2, A, hr, ⟨h1, h3, h1, h3, h4⟩, hA, h⟩
  · rename_i off
    obtain ⟨t, ht, rfl⟩ := hx
    have h : k (f_tg pc off) lgS us A := h
    rw [f_tg_eq ht] at h
    exact ⟨lgS, us, A, hr, hv, hA, h⟩
  · obtain ⟨x, r, hvs, hb⟩ := hx
    have hvs : vs = _ := hvs
    subst hvs
    obtain ⟨u1, s1, rfl, h1, h2⟩ := hv.cons
    obtain rfl := h1.int
    rcases hb with ⟨hc, t, ht, rfl⟩ | ⟨hc, rfl⟩
    · have h := (show _ ∧ _ from h).1 hc
      rw [f_tg_eq ht] at h
      exact ⟨lgS, s1, A, hr, h2, hA, h⟩
    · exact ⟨lgS, s1, A, hr, h2, hA, (show _ ∧ _ from h).2 hc⟩
  · obtain ⟨x, y, r, hvs, hb⟩ := hx
    have hvs : vs = _ := hvs
    subst hvs
    obtain ⟨u1, s1, rfl, h1, h2⟩ := hv.cons
    obtain ⟨u2, s2, rfl, h3, h4⟩ := h2.cons
    obtain rfl := h1.int
    obtain rfl := h3.int
    rcases hb with ⟨hc, t, ht, rfl⟩ | ⟨hc, rfl⟩
    · have h := (show _ ∧ _ from h).1 hc
      rw [f_tg_eq ht] at h
      exact ⟨lgS, s2, A, hr, h4, hA, h⟩
    · exact ⟨lgS, s2, A, hr, h4, hA, (show _ ∧ _ from h).2 hc⟩
  · obtain ⟨v, r, hvs, hb⟩ := hx
    have hvs : vs = _ := hvs
    subst hvs
    obtain ⟨u1, s1, rfl, h1, h2⟩ := hv.cons
    rcases hb with ⟨hc, t, ht, rfl⟩ | ⟨hc, rfl⟩
    · have h := (show _ ∧ _ from h).1 (h1.nul.mp hc)
      rw [f_tg_eq ht] at h
      exact ⟨lgS, s1, A, hr, h2, hA, h⟩
    · exact ⟨lgS, s1, A, hr, h2, hA, (show _ ∧ _ from h).2 (fun z => hc (h1.nul.mpr z))⟩
  · obtain ⟨v, r, hvs, hb⟩ := hx
    have hvs : vs = _ := hvs
    subst hvs
    obtain ⟨u1, s1, rfl, h1, h2⟩ := hv.cons
    rcases hb with ⟨hc, t, ht, rfl⟩ | ⟨hc, rfl⟩
    · have h := (show _ ∧ _ from h).1 (fun z => hc (h1.nul.mpr z))
      rw [f_tg_eq ht] at h
      exact ⟨lgS, s1, A, hr, h2, hA, h⟩
    · exact ⟨lgS, s1, A, hr, h2, hA, (show _ ∧ _ from h).2 (h1.nul.mp (Classical.not_not.mp hc))⟩
  · rename_i d lo hi os
    obtain ⟨x, r, hvs, off, t, hcs, ht, rfl⟩ := hx
    have hvs : vs = _ := hvs
    subst hvs
    obtain ⟨u1, s1, rfl, h1, h2⟩ := hv.cons
    obtain rfl := h1.int
    have h : (x.toInt < lo ∨ hi < x.toInt → k (f_tg pc d) lgS s1 A) ∧ (lo ≤ x.toInt → x.toInt ≤ hi → wT k pc lgS s1 A x lo os.toList) := h
    rcases hcs with ⟨ho, rfl⟩ | ⟨h3, h4, ho⟩
    · have h := h.1 ho
      rw [f_tg_eq ht] at h
      exact ⟨lgS, s1, A, hr, h2, hA, h⟩
    · have h := wT_ok (x.toInt - lo).toNat (h.2 (by omega) (by omega)) (by rw [Array.getElem?_toList]; exact ho) (by omega)
      rw [f_tg_eq ht] at h
      exact ⟨lgS, s1, A, hr, h2, hA, h⟩
  · rename_i i
    obtain ⟨p, r, q, ci, kk, fs, v, hvs, hq, hm, hw, rfl⟩ := hx
    have hvs : vs = _ := hvs
    subst hvs
    obtain ⟨u1, s1, rfl, h1, h2⟩ := hv.cons
    obtain ⟨j, e, rfl, hj⟩ := h1.ref
    have ej := hat hq hj
    subst ej
    obtain ⟨-, g1, g2⟩ := hA.2.2 j p _ hq
    have g1 : zkd A j = ci := g1
    have h : k (pc + 3) lgS (zfl A j (kfd T.1 i (zkd A j)) :: s1) A := h
    rw [g1, kfd_eq t1 hm] at h
    exact ⟨lgS, _ :: s1, A, hr, ⟨g2 kk v hw, h2⟩, hA, h⟩
  · rename_i i
    obtain ⟨w, p, r, q, ci, kk, d, fs, hvs, hq, hm, hl, rfl⟩ := hx
    have hvs : vs = _ := hvs
    subst hvs
    obtain ⟨u1, s1, rfl, h1, h2⟩ := hv.cons
    obtain ⟨u2, s2, rfl, h3, h4⟩ := h2.cons
    obtain ⟨j, e, rfl, hj⟩ := h3.ref
    have ej := hat hq hj
    subst ej
    obtain ⟨-, g1, g2⟩ := hA.2.2 j p _ hq
    have g1 : zkd A j = ci := g1
    have h : zc j (kpd T.2.1 i (zkd A j)) = 0 ∧ k (pc + 3) lgS s2 (zuF A j (kpd T.2.1 i (zkd A j)) u1) := h
    rw [g1, kpd_eq t2 hm] at h
    exact ⟨lgS, s2, _, hr.mv (zx_set hq), h4.mv (zx_set hq), hA.putF hq h.1 h1, h.2⟩
  · exact (show False from h).elim
  · obtain ⟨x, p, r, hvs, hc⟩ := hx
    have hvs : vs = _ := hvs
    subst hvs
    obtain ⟨u1, s1, rfl, h1, h2⟩ := hv.cons
    obtain ⟨u2, s2, rfl, h3, h4⟩ := h2.cons
    obtain rfl := h1.int
    obtain ⟨j, e, rfl, hj⟩ := h3.ref
    rcases hc with ⟨-, q, ln, cA, f, hq, hlt, rfl⟩ | ⟨L, xs, hsb, rfl⟩
    · have ej := hat hq hj
      subst ej
      obtain ⟨-, g1, g2⟩ := hA.2.2 j p _ hq
      refine ⟨lgS, .int (zI A j x.toNatClampNeg) :: s2, A, hr, ⟨?_, h4⟩, hA, h⟩
      show Value.int (f x.toNatClampNeg) = .int (zI A j x.toNatClampNeg)
      rw [g2]
    · exact (nsc hsb).elim
  · obtain ⟨x, p, r, hvs, hc⟩ := hx
    have hvs : vs = _ := hvs
    subst hvs
    obtain ⟨u1, s1, rfl, h1, h2⟩ := hv.cons
    obtain ⟨u2, s2, rfl, h3, h4⟩ := h2.cons
    obtain rfl := h1.int
    obtain ⟨j, e, rfl, hj⟩ := h3.ref
    rcases hc with ⟨q, ln, cA, f, hq, hlt, rfl⟩ | ⟨ho, rfl⟩
    · have ej := hat hq hj
      subst ej
      obtain ⟨-, g1, g2⟩ := hA.2.2 j p _ hq
      refine ⟨lgS, .long (zJ A j x.toNatClampNeg) :: s2, A, hr, ⟨?_, h4⟩, hA, h⟩
      show Value.long (f x.toNatClampNeg) = .long (zJ A j x.toNatClampNeg)
      rw [g2]
    · exact absurd hj (ho j e)
  · obtain ⟨x, p, r, hvs, q, ln, cA, f, hq, hlt, rfl⟩ := hx
    have hvs : vs = _ := hvs
    subst hvs
    obtain ⟨u1, s1, rfl, h1, h2⟩ := hv.cons
    obtain ⟨u2, s2, rfl, h3, h4⟩ := h2.cons
    obtain rfl := h1.int
    obtain ⟨j, e, rfl, hj⟩ := h3.ref
    have ej := hat hq hj
    subst ej
    obtain ⟨-, g1, g2⟩ := hA.2.2 j p _ hq
    refine ⟨lgS, .int (zI A j x.toNatClampNeg) :: s2, A, hr, ⟨?_, h4⟩, hA, h⟩
    show Value.int (f x.toNatClampNeg) = .int (zI A j x.toNatClampNeg)
    rw [g2]
  · obtain ⟨x, p, r, hvs, q, ln, cA, f, hq, hlt, rfl⟩ := hx
    have hvs : vs = _ := hvs
    subst hvs
    obtain ⟨u1, s1, rfl, h1, h2⟩ := hv.cons
    obtain ⟨u2, s2, rfl, h3, h4⟩ := h2.cons
    obtain rfl := h1.int
    obtain ⟨j, e, rfl, hj⟩ := h3.ref
    have ej := hat hq hj
    subst ej
    obtain ⟨-, g1, g2⟩ := hA.2.2 j p _ hq
    exact ⟨lgS, zrl A j x.toNatClampNeg :: s2, A, hr, ⟨g2 _ hlt, h4⟩, hA, h⟩
  · obtain ⟨v, x, p, r, hvs, q, ln, cA, f, hq, hlt, rfl⟩ := hx
    have hvs : vs = _ := hvs
    subst hvs
    obtain ⟨u1, s1, rfl, h1, h2⟩ := hv.cons
    obtain ⟨u2, s2, rfl, h3, h4⟩ := h2.cons
    obtain ⟨u3, s3, rfl, h5, h6⟩ := h4.cons
    obtain rfl := h1.int
    obtain rfl := h3.int
    obtain ⟨j, e, rfl, hj⟩ := h5.ref
    have ej := hat hq hj
    subst ej
    exact ⟨lgS, s3, _, hr.mv (zx_set hq), h6.mv (zx_set hq), hA.putI hq, h⟩
  · obtain ⟨v, x, p, r, hvs, q, ln, cA, f, hq, hlt, rfl⟩ := hx
    have hvs : vs = _ := hvs
    subst hvs
    obtain ⟨u1, s1, rfl, h1, h2⟩ := hv.cons
    obtain ⟨u2, s2, rfl, h3, h4⟩ := h2.cons
    obtain ⟨u3, s3, rfl, h5, h6⟩ := h4.cons
    obtain rfl := h1.long
    obtain rfl := h3.int
    obtain ⟨j, e, rfl, hj⟩ := h5.ref
    have ej := hat hq hj
    subst ej
    exact ⟨lgS, s3, _, hr.mv (zx_set hq), h6.mv (zx_set hq), hA.putJ hq, h⟩
  · obtain ⟨v, x, p, r, hvs, q, ln, cA, f, hq, hlt, rfl⟩ := hx
    have hvs : vs = _ := hvs
    subst hvs
    obtain ⟨u1, s1, rfl, h1, h2⟩ := hv.cons
    obtain ⟨u2, s2, rfl, h3, h4⟩ := h2.cons
    obtain ⟨u3, s3, rfl, h5, h6⟩ := h4.cons
    obtain rfl := h1.int
    obtain rfl := h3.int
    obtain ⟨j, e, rfl, hj⟩ := h5.ref
    have ej := hat hq hj
    subst ej
    exact ⟨lgS, s3, _, hr.mv (zx_set hq), h6.mv (zx_set hq), hA.putI hq, h⟩
  · obtain ⟨v, x, p, r, hvs, q, ln, cA, f, hq, hlt, rfl⟩ := hx
    have hvs : vs = _ := hvs
    subst hvs
    obtain ⟨u1, s1, rfl, h1, h2⟩ := hv.cons
    obtain ⟨u2, s2, rfl, h3, h4⟩ := h2.cons
    obtain ⟨u3, s3, rfl, h5, h6⟩ := h4.cons
    obtain rfl := h3.int
    obtain ⟨j, e, rfl, hj⟩ := h5.ref
    have ej := hat hq hj
    subst ej
    have h : zc j x.toNatClampNeg = 0 ∧ k (pc + 1) lgS s3 (zuR A j x.toNatClampNeg u1) := h
    exact ⟨lgS, s3, _, hr.mv (zx_set hq), h6.mv (zx_set hq), hA.putR hq h.1 h1, h.2⟩
  · obtain ⟨p, r, hvs, hc⟩ := hx
    have hvs : vs = _ := hvs
    subst hvs
    obtain ⟨u1, s1, rfl, h1, h2⟩ := hv.cons
    obtain ⟨j, e, rfl, hj⟩ := h1.ref
    rcases hc with ⟨hn, q, cA, y, hq, rfl⟩ | ⟨L, xs, hsb, rfl⟩ | ⟨hn, ho, rfl⟩
    · have ej := hat hq hj
      subst ej
      have g1 : zkd A j = y.1 := (hA.2.2 j p _ hq).2.1
      have h : k (pc + 1) lgS (.int (Int32.ofNat (zkd A j)) :: s1) A := h
      rw [g1] at h
      refine ⟨lgS, _, A, hr, ?_, hA, h⟩
      exact ⟨rfl, h2⟩
    · exact (nsc hsb).elim
    · exact absurd hj (ho j e)
  · rename_i i
    obtain ⟨q, ci, t, n, ty, hm, hd, rfl⟩ := hx
    have h : ∀ D : Nat → Value, (match T.2.2.1.find? (fun x => x.1 == i) with
      | some x => k (pc + 3) lgS (.ref (zN A) :: us) (zuN A x.2.1 x.2.2.1 D)
      | none => False) := h
    have h := h (fun j => defaultValue (ty j))
    have hf := t3 _ hm
    dsimp only at hf
    rw [hf] at h
    have hn : (ws ++ [(q, (Sum.inr (ci, (List.range n).map fun j => defaultValue (ty j)) : va_E))])[zN A]? = some (q, .inr (ci, (List.range n).map fun j => defaultValue (ty j))) := by
      rw [hA.2.1.2.1, List.getElem?_append_right (Nat.le_refl _), Nat.sub_self]
      rfl
    exact ⟨lgS, .ref (zN A) :: us, _, hr.mv zx_app, ⟨⟨q, _, rfl, hn⟩, hv.mv zx_app⟩, hA.new hd, h⟩
  · rename_i i
    obtain ⟨p, r, q, ci, d, fs, hvs, hq, hm, rfl⟩ := hx
    have hvs : vs = _ := hvs
    subst hvs
    obtain ⟨u1, s1, rfl, h1, h2⟩ := hv.cons
    obtain ⟨j, e, rfl, hj⟩ := h1.ref
    have ej := hat hq hj
    subst ej
    obtain ⟨-, g1, g2⟩ := hA.2.2 j p _ hq
    have g1 : zkd A j = ci := g1
    have h : k (pc + 3) lgS (.int (Int32.ofNat (kci T.2.2.2.2.1 i (zkd A j))) :: s1) A := h
    rw [g1, kci_eq t5 hm] at h
    refine ⟨lgS, _, A, hr, ?_, hA, h⟩
    exact ⟨rfl, h2⟩
  · obtain ⟨v, r, hvs, rfl⟩ := hx
    have hvs : vs = _ := hvs
    subst hvs
    exact ⟨lgS, us, A, hr, hv, hA, h⟩
  · exact z_call hS hr hv hA hx h
  · exact z_call hS hr hv hA hx h
  · exact z_call hS hr hv hA hx h
  · exact hx.elim
end
