section
/-! what a method keeps: a table of what its locals and its stack hold of places, checked instruction by instruction -/
/-- alike in a part of it, longs too -/
def agj (S : List (Nat × Nat)) (A' A : zW) : Prop := agl S A' A ∧ ∀ q i, q < 385 → (zn lp_sh q, 0) ∈ S → zJ A' q i = zJ A q i
section
variable {S : List (Nat × Nat)} {A B C X : zW} {q i : Nat} {v : Value} {x : Int32} {y : Int64}
theorem agj.rf : agj S A A := ⟨agl.rf, fun _ _ _ _ => rfl⟩
theorem agj.tr (h1 : agj S B A) (h2 : agj S C B) : agj S C A := ⟨h1.1.tr h2.1, fun q i a b => (h2.2 q i a b).trans (h1.2 q i a b)⟩
theorem agj.sub {S' : List (Nat × Nat)} (h : agj S B A) (hs : ∀ y ∈ S', y ∈ S) : agj S' B A := ⟨h.1.sub hs, fun q i a b => h.2 q i a (hs _ b)⟩
theorem zhv_bJ {Wr : List (Nat × Nat)} {A X : zW} {q k : Nat} (hq : q < 385) (h : zwr Wr (zn lp_sh q) 0 = false) : zJ (zhv Wr A X) q k = zJ A q k := by
  show (bif zold A q && !(zwr Wr (zty A q) 0) then zJ A q k else zJ X q k) = _
  rw [zold_b hq]
  unfold zty
  rw [nltT hq]
  show (bif true && !(zwr Wr (zn lp_sh q) 0) then zJ A q k else zJ X q k) = _
  rw [h]
  rfl
theorem agj.hv {Wr : List (Nat × Nat)} (hw : nW S Wr = true) (hN : zN A ≤ zN X) : agj S (zhv Wr A X) A := ⟨agl.hv hw hN, fun _ _ hq hm => zhv_bJ hq (nw_of hw hm)⟩
theorem agj.nF (hq : q < 385) (hs : ¬ (zn lp_sh q, i) ∈ S) : agj S (zuF A q i v) A := ⟨agl.nF hq hs, fun _ _ _ _ => rfl⟩
theorem agj.nI (hq : q < 385) (hs : ¬ (zn lp_sh q, 0) ∈ S) : agj S (zuI A q i x) A := ⟨agl.nI hq hs, fun _ _ _ _ => rfl⟩
theorem agj.nR (hq : q < 385) (hs : ¬ (zn lp_sh q, 0) ∈ S) : agj S (zuR A q i v) A := ⟨agl.nR hq hs, fun _ _ _ _ => rfl⟩
theorem agj.nJ (hs : ¬ (zn lp_sh q, 0) ∈ S) : agj S (zuJ A q i y) A := by
  refine ⟨⟨fun _ _ _ _ => rfl, fun _ _ _ _ => ⟨rfl, rfl⟩, Nat.le_refl _, fun _ _ _ _ _ h => ⟨h, fun _ _ => rfl⟩⟩, fun p k hp hm => ?_⟩
  refine zuJ_ne (fun e => ?_)
  subst e
  exact hs hm
theorem agj.new {ci t : Nat} {D : Nat → Value} (hN : 385 ≤ zN A) : agj S (zuN A ci t D) A := ⟨agl.new hN, fun _ _ _ _ => rfl⟩
theorem agj.dF (h : agj S B A) (hq : zN A ≤ q) (hN : 385 ≤ zN A) : agj S (zuF B q i v) A := ⟨h.1.dF hq hN, h.2⟩
theorem agj.uF (h : agj S B A) : agj S (zuF B q i v) (zuF A q i v) := ⟨h.1.uF, h.2⟩
theorem agj_ov (h : ¬ (17, 19) ∈ S ∧ ¬ (17, 33) ∈ S ∧ ¬ (17, 55) ∈ S) : agj S (zov A) A := ⟨agl_ov h, fun _ _ _ _ => rfl⟩
end
/-! tags: 0 anything, 1 of one slot, q + 2 the place q -/
abbrev kL : Type := List (Nat × Bool × Nat)
abbrev kE : Type := Nat × kL × List Nat
def ktg : Nat → Value → Prop
  | 0, _ => True
  | 1, u => u.category = 1
  | q + 2, u => u = .ref q
def kts : List Nat → List Value → Prop
  | [], [] => True
  | t :: ts, u :: us => ktg t u ∧ kts ts us
  | _, _ => False
def ktl (L : kL) (lg : fL_) : Prop := ∀ x ∈ L, ∃ v, lkb lg x.1 = some (x.2.1, v) ∧ ktg x.2.2 v
def kle (t s : Nat) : Bool := Nat.beq t 0 || (Nat.beq t s || (Nat.beq t 1 && Nat.ble 2 s))
theorem kle_ok {t s : Nat} {u : Value} (h : kle t s = true) (hs : ktg s u) : ktg t u := by
  unfold kle at h
  rw [Bool.or_eq_true, Bool.or_eq_true, Bool.and_eq_true] at h
  rcases h with h | h | ⟨h1, h2⟩
  · have e : t = 0 := Nat.eq_of_beq_eq_true h
    subst e
    exact trivial
  · have e : t = s := Nat.eq_of_beq_eq_true h
    subst e
    exact hs
  · have e : t = 1 := Nat.eq_of_beq_eq_true h1
    subst e
    have h2 : 2 ≤ s := Nat.le_of_ble_eq_true h2
    obtain ⟨q, rfl⟩ : ∃ q, s = q + 2 := ⟨s - 2, by omega⟩
    have hs : u = .ref q := hs
    rw [hs]
    rfl
def ksl : List Nat → List Nat → Bool
  | [], [] => true
  | t :: ts, s :: ss => kle t s && ksl ts ss
  | _, _ => false
theorem ksl_ok : ∀ {ts ss : List Nat} {us : List Value}, ksl ts ss = true → kts ss us → kts ts us
  | [], [], _, _, h => h
  | t :: ts, s :: ss, [], _, h => h.elim
  | t :: ts, s :: ss, u :: us, h, hs => by
    have h : (kle t s && ksl ts ss) = true := h
    rw [Bool.and_eq_true] at h
    exact ⟨kle_ok h.1 hs.1, ksl_ok h.2 hs.2⟩
  | [], _ :: _, _, h, _ => by cases h
  | _ :: _, [], _, h, _ => by cases h
def kll (L2 L : kL) : Bool := L2.all (fun x => L.any (fun y => Nat.beq y.1 x.1 && ((y.2.1 == x.2.1) && kle x.2.2 y.2.2)))
theorem kll_ok {L2 L : kL} {lg : fL_} (h : kll L2 L = true) (hl : ktl L lg) : ktl L2 lg := fun x hx => by
  have h1 := List.all_eq_true.mp h x hx
  obtain ⟨y, y1, y2⟩ := List.any_eq_true.mp h1
  rw [Bool.and_eq_true, Bool.and_eq_true] at y2
  obtain ⟨a, b, c⟩ := y2
  obtain ⟨v, v1, v2⟩ := hl y y1
  have e1 : y.1 = x.1 := Nat.eq_of_beq_eq_true a
  have e2 : y.2.1 = x.2.1 := eq_of_beq b
  rw [e1, e2] at v1
  exact ⟨v, v1, kle_ok c v2⟩
theorem kts1 {a : Nat} {r : List Nat} {us : List Value} (h : kts (a :: r) us) : ∃ u s, us = u :: s ∧ ktg a u ∧ kts r s := by
  cases us with
  | nil => exact h.elim
  | cons u s => exact ⟨u, s, rfl, h.1, h.2⟩
theorem kts2 {a b : Nat} {r : List Nat} {us : List Value} (h : kts (a :: b :: r) us) : ∃ u1 u2 s, us = u1 :: u2 :: s ∧ ktg a u1 ∧ ktg b u2 ∧ kts r s := by
  obtain ⟨u1, s1, rfl, h1, h2⟩ := kts1 h
  obtain ⟨u2, s2, rfl, h3, h4⟩ := kts1 h2
  exact ⟨u1, u2, s2, rfl, h1, h3, h4⟩
theorem kts3 {a b c : Nat} {r : List Nat} {us : List Value} (h : kts (a :: b :: c :: r) us) : ∃ u1 u2 u3 s, us = u1 :: u2 :: u3 :: s ∧ ktg a u1 ∧ ktg b u2 ∧ ktg c u3 ∧ kts r s := by
  obtain ⟨u1, s1, rfl, h1, h2⟩ := kts1 h
  obtain ⟨u2, u3, s2, rfl, h3, h4, h5⟩ := kts2 h2
  exact ⟨u1, u2, u3, s2, rfl, h1, h3, h4, h5⟩
theorem kts_take : ∀ {n : Nat} {S : List Nat} {us : List Value}, kts S us → kts (S.take n) (us.take n)
  | 0, _, _, _ => by
    rw [List.take_zero, List.take_zero]
    exact trivial
  | n + 1, [], [], _ => trivial
  | n + 1, _ :: _, _ :: _, h => ⟨h.1, kts_take h.2⟩
  | n + 1, [], _ :: _, h => h.elim
  | n + 1, _ :: _, [], h => h.elim
theorem kts_drop : ∀ {n : Nat} {S : List Nat} {us : List Value}, kts S us → kts (S.drop n) (us.drop n)
  | 0, _, _, h => h
  | n + 1, [], [], _ => trivial
  | n + 1, _ :: _, _ :: _, h => (kts_drop (n := n) h.2 : kts (List.drop n _) (List.drop n _))
  | n + 1, [], _ :: _, h => h.elim
  | n + 1, _ :: _, [], h => h.elim
theorem kts_app : ∀ {a : List Nat} {b : List Value} {c : List Nat} {d : List Value}, kts a b → kts c d → kts (a ++ c) (b ++ d)
  | [], [], _, _, _, h2 => h2
  | _ :: _, _ :: _, _, _, h1, h2 => ⟨h1.1, kts_app h1.2 h2⟩
  | [], _ :: _, _, _, h1, _ => h1.elim
  | _ :: _, [], _, _, h1, _ => h1.elim
theorem kts_rev : ∀ {a : List Nat} {b : List Value}, kts a b → kts a.reverse b.reverse
  | [], [], _ => trivial
  | t :: a, u :: b, h => by
    rw [List.reverse_cons, List.reverse_cons]
    exact kts_app (kts_rev h.2) ⟨h.1, trivial⟩
  | [], _ :: _, h => h.elim
  | _ :: _, [], h => h.elim
/-! locals -/
def klk (L : kL) (i : Nat) : Option Nat := match L.find? (fun x => Nat.beq x.1 i) with
  | some x => some x.2.2
  | none => none
theorem lk_lkb : ∀ {l : fL_} {i : Nat} {b : Bool} {v : Value}, lkb l i = some (b, v) → lk l i = some v
  | [], _, _, _, h => by cases h
  | x :: l, i, b, v, h => by
    have h : (bif x.1 == i then some x.2 else lkb l i) = some (b, v) := h
    show (bif x.1 == i then some x.2.2 else lk l i) = some v
    cases hx : x.1 == i with
    | true =>
      rw [hx] at h
      have h : some x.2 = some (b, v) := h
      have e := Option.some.inj h
      show some x.2.2 = some v
      rw [e]
    | false =>
      rw [hx] at h
      exact lk_lkb (l := l) h
theorem klk_ok {L : kL} {lg : fL_} {i t : Nat} (h : klk L i = some t) (hl : ktl L lg) : ∃ v, lk lg i = some v ∧ ktg t v := by
  unfold klk at h
  split at h
  · rename_i x hx
    have hm := List.mem_of_find?_eq_some hx
    have hp := List.find?_some hx
    have e : x.1 = i := Nat.eq_of_beq_eq_true hp
    obtain ⟨v, v1, v2⟩ := hl x hm
    rw [e] at v1
    have h := Option.some.inj h
    rw [h] at v2
    exact ⟨v, lk_lkb v1, v2⟩
  · cases h
theorem lkb_flt {p : Nat × Bool × Value → Bool} : ∀ {l : fL_} {i : Nat} {b : Bool} {v : Value}, lkb l i = some (b, v) → p (i, b, v) = true → lkb (l.filter p) i = some (b, v)
  | [], _, _, _, h, _ => by cases h
  | x :: l, i, b, v, h, hp => by
    have h : (bif x.1 == i then some x.2 else lkb l i) = some (b, v) := h
    cases hx : x.1 == i with
    | true =>
      rw [hx] at h
      have h : some x.2 = some (b, v) := h
      have e := Option.some.inj h
      have e1 : x.1 = i := eq_of_beq hx
      have ex : x = (i, b, v) := by rw [← e1, ← e]
      rw [List.filter_cons_of_pos (by rw [ex]; exact hp)]
      show (bif x.1 == i then some x.2 else lkb (l.filter p) i) = some (b, v)
      rw [hx, e]
      rfl
    | false =>
      rw [hx] at h
      have ih := lkb_flt (p := p) (l := l) h hp
      by_cases c : p x = true
      · rw [List.filter_cons_of_pos c]
        show (bif x.1 == i then some x.2 else lkb (l.filter p) i) = some (b, v)
        rw [hx]
        exact ih
      · rw [List.filter_cons_of_neg c]
        exact ih
def ks1 (L : kL) (i t : Nat) : kL := (i, false, t) :: L.filter (fun q => !(q.1 == i) && !(q.1 + 1 == i && q.2.1))
def ks2 (L : kL) (i t : Nat) : kL := (i, true, t) :: L.filter (fun q => !(q.1 == i) && (!(q.1 == i + 1) && !(q.1 + 1 == i && q.2.1)))
theorem ktl.st1 {L : kL} {lg : fL_} {i t : Nat} {v : Value} (hl : ktl L lg) (ht : ktg t v) : ktl (ks1 L i t) (ls1 lg i v) := fun x hx => by
  rcases List.mem_cons.mp hx with rfl | hx
  · refine ⟨v, ?_, ht⟩
    show (bif i == i then some (false, v) else lkb _ i) = some (false, v)
    rw [beq_self_eq_true]
    rfl
  · obtain ⟨h1, h2⟩ := List.mem_filter.mp hx
    obtain ⟨u, u1, u2⟩ := hl x h1
    refine ⟨u, ?_, u2⟩
    have hf := lkb_flt (p := fun q => !(q.1 == i) && !(q.1 + 1 == i && q.2.1)) u1 h2
    rw [Bool.and_eq_true, Bool.not_eq_true'] at h2
    have hne : (i == x.1) = false := beq_eq_false_iff_ne.mpr (fun e => (beq_eq_false_iff_ne.mp h2.1) e.symm)
    show (bif i == x.1 then some (false, v) else lkb (lg.filter _) x.1) = some (x.2.1, u)
    rw [hne]
    exact hf
theorem ktl.st2 {L : kL} {lg : fL_} {i t : Nat} {v : Value} (hl : ktl L lg) (ht : ktg t v) : ktl (ks2 L i t) (ls2 lg i v) := fun x hx => by
  rcases List.mem_cons.mp hx with rfl | hx
  · refine ⟨v, ?_, ht⟩
    show (bif i == i then some (true, v) else lkb _ i) = some (true, v)
    rw [beq_self_eq_true]
    rfl
  · obtain ⟨h1, h2⟩ := List.mem_filter.mp hx
    obtain ⟨u, u1, u2⟩ := hl x h1
    refine ⟨u, ?_, u2⟩
    have hf := lkb_flt (p := fun q => !(q.1 == i) && (!(q.1 == i + 1) && !(q.1 + 1 == i && q.2.1))) u1 h2
    rw [Bool.and_eq_true, Bool.not_eq_true'] at h2
    have hne : (i == x.1) = false := beq_eq_false_iff_ne.mpr (fun e => (beq_eq_false_iff_ne.mp h2.1) e.symm)
    show (bif i == x.1 then some (true, v) else lkb (lg.filter _) x.1) = some (x.2.1, u)
    rw [hne]
    exact hf
/-! a step -/
/-- slots that stay; calls: key, arity, tags of the answer, tags of the arguments -/
abbrev kP : Type := List (Nat × Nat) × List (Nat × Nat × List Nat × List Nat)
def kzk (q : Nat) : Nat := zn zt_k (zn lp_sh q)
theorem zkd_k {A : zW} {q : Nat} (h : q < 385) : zkd A q = kzk q := by
  unfold zkd
  rw [nltT h]
  rfl
def kgf (fl : List (Nat × Nat × Nat)) (i q : Nat) : Nat := match zc q (kfd fl i (kzk q)) with
  | 0 => 0
  | r + 1 => r + 3
theorem kgf_ok {fl : List (Nat × Nat × Nat)} {A : zW} {i q : Nat} (h : q < 385) : ktg (kgf fl i q) (zfl A q (kfd fl i (zkd A q))) := by
  rw [zkd_k h]
  unfold kgf zfl
  cases zc q (kfd fl i (kzk q)) with
  | zero => exact trivial
  | succ r => exact (rfl : Value.ref (r + 1) = .ref (r + 1))
def kin (S : List (Nat × Nat)) (t k : Nat) : Bool := S.any (fun x => Nat.beq x.1 t && Nat.beq x.2 k)
theorem kin_f {S : List (Nat × Nat)} {t k : Nat} (h : kin S t k = false) : ¬ (t, k) ∈ S := zwr_f h
def kcl (P : kP) (key pc : Nat) (L : kL) (S : List Nat) : Option (List kE) := match P.2.find? (fun x => x.1 == key) with
  | some x => match ksl x.2.2.2 (S.take x.2.1).reverse with
    | true => some [(pc + 3, L, x.2.2.1 ++ S.drop x.2.1)]
    | false => none
  | none => none
def kst (fl : List (Nat × Nat × Nat)) (pl : List (Nat × Nat × Nat × Nat)) (kl : List (Nat × Nat × Int)) (P : kP) (ins : Instr) (len pc : Nat) (L : kL) (S : List Nat) : Option (List kE) := match ins, S with
  | .iconst _, S => some [(pc + len, L, 1 :: S)]
  | .bipush v, S => match decide (-128 ≤ v ∧ v < 128) with
    | true => some [(pc + len, L, 1 :: S)]
    | false => none
  | .sipush v, S => match decide (-32768 ≤ v ∧ v < 32768) with
    | true => some [(pc + len, L, 1 :: S)]
    | false => none
  | .lconst _, S => some [(pc + len, L, 0 :: S)]
  | .ldc i, S => match kl.find? (fun x => x.1 == i && x.2.1 == 0) with
    | some _ => some [(pc + len, L, 1 :: S)]
    | none => none
  | .ldc_w i, S => match kl.find? (fun x => x.1 == i && x.2.1 == 0) with
    | some _ => some [(pc + len, L, 1 :: S)]
    | none => none
  | .ldc2_w i, S => match kl.find? (fun x => x.1 == i && x.2.1 == 1) with
    | some _ => some [(pc + len, L, 0 :: S)]
    | none => none
  | .iload_n i, S => match klk L i with
    | some t => some [(pc + len, L, t :: S)]
    | none => none
  | .iload i, S => match klk L i with
    | some t => some [(pc + len, L, t :: S)]
    | none => none
  | .lload_n i, S => match klk L i with
    | some t => some [(pc + len, L, t :: S)]
    | none => none
  | .lload i, S => match klk L i with
    | some t => some [(pc + len, L, t :: S)]
    | none => none
  | .aload_n i, S => match klk L i with
    | some t => some [(pc + len, L, t :: S)]
    | none => none
  | .aload i, S => match klk L i with
    | some t => some [(pc + len, L, t :: S)]
    | none => none
  | .istore_n i, t :: r => some [(pc + len, ks1 L i t, r)]
  | .istore i, t :: r => some [(pc + len, ks1 L i t, r)]
  | .astore_n i, t :: r => some [(pc + len, ks1 L i t, r)]
  | .astore i, t :: r => some [(pc + len, ks1 L i t, r)]
  | .lstore_n i, t :: r => some [(pc + len, ks2 L i t, r)]
  | .lstore i, t :: r => some [(pc + len, ks2 L i t, r)]
  | .iinc i _, S => match klk L i with
    | some _ => some [(pc + len, ks1 L i 1, S)]
    | none => none
  | .iadd, _ :: _ :: r => some [(pc + 1, L, 1 :: r)]
  | .isub, _ :: _ :: r => some [(pc + 1, L, 1 :: r)]
  | .imul, _ :: _ :: r => some [(pc + 1, L, 1 :: r)]
  | .iand, _ :: _ :: r => some [(pc + 1, L, 1 :: r)]
  | .ior, _ :: _ :: r => some [(pc + 1, L, 1 :: r)]
  | .ixor, _ :: _ :: r => some [(pc + 1, L, 1 :: r)]
  | .ishl, _ :: _ :: r => some [(pc + 1, L, 1 :: r)]
  | .ishr, _ :: _ :: r => some [(pc + 1, L, 1 :: r)]
  | .iushr, _ :: _ :: r => some [(pc + 1, L, 1 :: r)]
  | .idiv, _ :: _ :: r => some [(pc + 1, L, 1 :: r)]
  | .irem, _ :: _ :: r => some [(pc + 1, L, 1 :: r)]
  | .ladd, _ :: _ :: r => some [(pc + 1, L, 0 :: r)]
  | .lsub, _ :: _ :: r => some [(pc + 1, L, 0 :: r)]
  | .lmul, _ :: _ :: r => some [(pc + 1, L, 0 :: r)]
  | .land, _ :: _ :: r => some [(pc + 1, L, 0 :: r)]
  | .lor, _ :: _ :: r => some [(pc + 1, L, 0 :: r)]
  | .lxor, _ :: _ :: r => some [(pc + 1, L, 0 :: r)]
  | .lushr, _ :: _ :: r => some [(pc + 1, L, 0 :: r)]
  | .lshr, _ :: _ :: r => some [(pc + 1, L, 0 :: r)]
  | .lshl, _ :: _ :: r => some [(pc + 1, L, 0 :: r)]
  | .ineg, _ :: r => some [(pc + 1, L, 1 :: r)]
  | .i2l, _ :: r => some [(pc + 1, L, 0 :: r)]
  | .l2i, _ :: r => some [(pc + 1, L, 1 :: r)]
  | .i2b, _ :: r => some [(pc + 1, L, 1 :: r)]
  | .i2s, _ :: r => some [(pc + 1, L, 1 :: r)]
  | .lcmp, _ :: _ :: r => some [(pc + 1, L, 1 :: r)]
  | .aconst_null, S => some [(pc + 1, L, 0 :: S)]
  | .dup, t :: r => some [(pc + 1, L, t :: t :: r)]
  | .pop, _ :: r => some [(pc + 1, L, r)]
  | .pop2, _ :: r => some [(pc + 1, L, r)]
  | .dup2, t :: s :: r => some [(pc + 1, L, t :: s :: t :: s :: r)]
  | .goto off, S => some [(f_tg pc off, L, S)]
  | .ifCond _ off, _ :: r => some [(f_tg pc off, L, r), (pc + 3, L, r)]
  | .if_icmp _ off, _ :: _ :: r => some [(f_tg pc off, L, r), (pc + 3, L, r)]
  | .ifnull off, _ :: r => some [(f_tg pc off, L, r), (pc + 3, L, r)]
  | .ifnonnull off, _ :: r => some [(f_tg pc off, L, r), (pc + 3, L, r)]
  | .tableswitch d _ _ os, _ :: r => some ((f_tg pc d, L, r) :: os.toList.map (fun o => (f_tg pc o, L, r)))
  | .getfield i, t :: r => match t with
    | q + 2 => match Nat.blt q 385 with
      | true => some [(pc + 3, L, kgf fl i q :: r)]
      | false => none
    | _ => some [(pc + 3, L, 0 :: r)]
  | .putfield i, _ :: t :: r => match t with
    | q + 2 => match Nat.blt q 385 && (Nat.beq (zc q (kpd pl i (kzk q))) 0 && !(kin P.1 (zn lp_sh q) (kpd pl i (kzk q)))) with
      | true => some [(pc + 3, L, r)]
      | false => none
    | _ => none
  | .iaload, _ :: _ :: r => some [(pc + 1, L, 1 :: r)]
  | .laload, _ :: _ :: r => some [(pc + 1, L, 0 :: r)]
  | .baload, _ :: _ :: r => some [(pc + 1, L, 1 :: r)]
  | .aaload, _ :: _ :: r => some [(pc + 1, L, 0 :: r)]
  | .iastore, _ :: _ :: t :: r => match t with
    | q + 2 => match Nat.blt q 385 && !(kin P.1 (zn lp_sh q) 0) with
      | true => some [(pc + 1, L, r)]
      | false => none
    | _ => none
  | .lastore, _ :: _ :: t :: r => match t with
    | q + 2 => match Nat.blt q 385 && !(kin P.1 (zn lp_sh q) 0) with
      | true => some [(pc + 1, L, r)]
      | false => none
    | _ => none
  | .bastore, _ :: _ :: t :: r => match t with
    | q + 2 => match Nat.blt q 385 && !(kin P.1 (zn lp_sh q) 0) with
      | true => some [(pc + 1, L, r)]
      | false => none
    | _ => none
  | .arraylength, _ :: r => some [(pc + 1, L, 1 :: r)]
  | .instanceof _, _ :: r => some [(pc + 3, L, 1 :: r)]
  | .checkcast _, S => some [(pc + 3, L, S)]
  | .invokevirtual i, S => kcl P (3 * i) pc L S
  | .invokestatic i, S => kcl P (3 * i + 1) pc L S
  | .invokespecial i, S => kcl P (3 * i + 2) pc L S
  | .return_, [] => some []
  | .ireturn, [_] => some []
  | .lreturn, [_] => some []
  | .areturn, [_] => some []
  | _, _ => none
section
variable {T : fT} {Sp : zP} {P : kP} {K : zW → Prop} {k : Nat → fL_ → List Value → zW → Prop} {len pc : Nat} {lg : fL_} {us : List Value} {A : zW} {L : kL} {S : List Nat} {ss : List kE}
/-- the calls keep it -/
def kpc (Sp : zP) (P : kP) (K : zW → Prop) : Prop := ∀ x ∈ P.2, ∃ y : Nat × Nat × zQ, Sp.find? (fun z => z.1 == x.1) = some y ∧ y.2.1 = x.2.1 ∧ ∀ (Us : List Value) (A : zW) (Kt : Option Value → zW → Prop), kts x.2.2.2 Us → K A → (∀ (rv : Option Value) (A' : zW), kts x.2.2.1 rv.toList → K A' → Kt rv A') → y.2.2 Us A Kt
def kgo (K : zW → Prop) (k : Nat → fL_ → List Value → zW → Prop) (ss : List kE) : Prop := ∀ s ∈ ss, ∀ (lg : fL_) (us : List Value) (A : zW), ktl s.2.1 lg → kts s.2.2 us → K A → k s.1 lg us A
theorem kgo.at0 {pc : Nat} {L : kL} {S : List Nat} {r : List kE} (h : kgo K k ((pc, L, S) :: r)) (hl : ktl L lg) (hs : kts S us) (hK : K A) : k pc lg us A := h _ List.mem_cons_self lg us A hl hs hK
theorem kgo.tl {s : kE} {r : List kE} (h : kgo K k (s :: r)) : kgo K k r := fun x hx => h x (List.mem_cons_of_mem _ hx)
theorem kcl_ok {key : Nat} (hP : kpc Sp P K) (h : kcl P key pc L S = some ss) (hl : ktl L lg) (hs : kts S us) (hK : K A) (hk : kgo K k ss) : zcall Sp k key pc lg us A := by
  unfold kcl at h
  split at h
  · rename_i x hx
    have hm := List.mem_of_find?_eq_some hx
    have hp0 := List.find?_some hx
    have hp : x.1 = key := eq_of_beq hp0
    split at h
    · rename_i hle
      have h := Option.some.inj h
      subst h
      obtain ⟨y, y1, y2, y3⟩ := hP x hm
      rw [hp] at y1
      unfold zcall
      rw [y1]
      show y.2.2 (us.take y.2.1).reverse A (fun rv A' => k (pc + 3) lg (rv.toList ++ us.drop y.2.1) A')
      rw [y2]
      exact y3 _ _ _ (ksl_ok hle (kts_rev (kts_take hs))) hK (fun rv A' hr hK' => hk.at0 hl (kts_app hr (kts_drop hs)) hK')
    · cases h
  · cases h
theorem kwT {off : List Int} : ∀ {os : List Int} {r : List Nat} {s : List Value} {x : Int32} {lo : Int}, kgo K k (os.map (fun o => (f_tg pc o, L, r))) → ktl L lg → kts r s → K A → wT k pc lg s A x lo os
  | [], _, _, _, _, _, _, _, _ => trivial
  | _ :: os, _, _, _, _, h, hl, hs, hK => ⟨fun _ => h.at0 hl hs hK, kwT (off := off) (os := os) h.tl hl hs hK⟩
set_option maxHeartbeats 4000000 in
theorem kst_ok {Post : Option Value → zW → Prop} {ins : Instr} (hP : kpc Sp P K) (hS : ∀ A A', K A → agj P.1 A' A → K A') (hR : ∀ rv A, K A → Post rv A) (h : kst T.1 T.2.1 T.2.2.2.1 P ins len pc L S = some ss) (hl : ktl L lg) (hs : kts S us) (hK : K A) (hk : kgo K k ss) : zstep T Sp Post k ins len pc lg us A := by
  unfold kst at h
  split at h
  · have h := Option.some.inj h
    subst h
    exact hk.at0 hl ⟨rfl, hs⟩ hK
  · rename_i v
    split at h
    · rename_i hd
      have h := Option.some.inj h
      subst h
      show (match decide (-128 ≤ v ∧ v < 128) with
        | true => k (pc + len) lg (.int (Int32.ofInt v) :: us) A
        | false => False)
      rw [hd]
      exact hk.at0 hl ⟨rfl, hs⟩ hK
    · cases h
  · rename_i v
    split at h
    · rename_i hd
      have h := Option.some.inj h
      subst h
      show (match decide (-32768 ≤ v ∧ v < 32768) with
        | true => k (pc + len) lg (.int (Int32.ofInt v) :: us) A
        | false => False)
      rw [hd]
      exact hk.at0 hl ⟨rfl, hs⟩ hK
    · cases h
  · have h := Option.some.inj h
    subst h
    exact hk.at0 hl ⟨trivial, hs⟩ hK
  · rename_i i
    split at h
    · rename_i x hx
      have h := Option.some.inj h
      subst h
      show (match T.2.2.2.1.find? (fun x => x.1 == i && x.2.1 == 0) with
        | some x => k (pc + len) lg (.int (Int32.ofInt x.2.2) :: us) A
        | none => False)
      rw [hx]
      exact hk.at0 hl ⟨rfl, hs⟩ hK
    · cases h
  · rename_i i
    split at h
    · rename_i x hx
      have h := Option.some.inj h
      subst h
      show (match T.2.2.2.1.find? (fun x => x.1 == i && x.2.1 == 0) with
        | some x => k (pc + len) lg (.int (Int32.ofInt x.2.2) :: us) A
        | none => False)
      rw [hx]
      exact hk.at0 hl ⟨rfl, hs⟩ hK
    · cases h
  · rename_i i
    split at h
    · rename_i x hx
      have h := Option.some.inj h
      subst h
      show (match T.2.2.2.1.find? (fun x => x.1 == i && x.2.1 == 1) with
        | some x => k (pc + len) lg (.long (Int64.ofInt x.2.2) :: us) A
        | none => False)
      rw [hx]
      exact hk.at0 hl ⟨trivial, hs⟩ hK
    · cases h
  · rename_i i
    split at h
    · rename_i t ht
      have h := Option.some.inj h
      subst h
      obtain ⟨v, v1, v2⟩ := klk_ok ht hl
      show (match lk lg _ with
        | some v => k (pc + len) lg (v :: us) A
        | none => False)
      rw [v1]
      exact hk.at0 hl ⟨v2, hs⟩ hK
    · cases h
  · rename_i i
    split at h
    · rename_i t ht
      have h := Option.some.inj h
      subst h
      obtain ⟨v, v1, v2⟩ := klk_ok ht hl
      show (match lk lg _ with
        | some v => k (pc + len) lg (v :: us) A
        | none => False)
      rw [v1]
      exact hk.at0 hl ⟨v2, hs⟩ hK
    · cases h
  · rename_i i
    split at h
    · rename_i t ht
      have h := Option.some.inj h
      subst h
      obtain ⟨v, v1, v2⟩ := klk_ok ht hl
      show (match lk lg _ with
        | some v => k (pc + len) lg (v :: us) A
        | none => False)
      rw [v1]
      exact hk.at0 hl ⟨v2, hs⟩ hK
    · cases h
  · rename_i i
    split at h
    · rename_i t ht
      have h := Option.some.inj h
      subst h
      obtain ⟨v, v1, v2⟩ := klk_ok ht hl
      show (match lk lg _ with
        | some v => k (pc + len) lg (v :: us) A
        | none => False)
      rw [v1]
      exact hk.at0 hl ⟨v2, hs⟩ hK
    · cases h
  · rename_i i
    split at h
    · rename_i t ht
      have h := Option.some.inj h
      subst h
      obtain ⟨v, v1, v2⟩ := klk_ok ht hl
      show (match lk lg _ with
        | some v => k (pc + len) lg (v :: us) A
        | none => False)
      rw [v1]
      exact hk.at0 hl ⟨v2, hs⟩ hK
    · cases h
  · rename_i i
    split at h
    · rename_i t ht
      have h := Option.some.inj h
      subst h
      obtain ⟨v, v1, v2⟩ := klk_ok ht hl
      show (match lk lg _ with
        | some v => k (pc + len) lg (v :: us) A
        | none => False)
      rw [v1]
      exact hk.at0 hl ⟨v2, hs⟩ hK
    · cases h
  · have h := Option.some.inj h
    subst h
    obtain ⟨u, s, rfl, h1, h2⟩ := kts1 hs
    exact hk.at0 (hl.st1 h1) h2 hK
  · have h := Option.some.inj h
    subst h
    obtain ⟨u, s, rfl, h1, h2⟩ := kts1 hs
    exact hk.at0 (hl.st1 h1) h2 hK
  · have h := Option.some.inj h
    subst h
    obtain ⟨u, s, rfl, h1, h2⟩ := kts1 hs
    exact hk.at0 (hl.st1 h1) h2 hK
  · have h := Option.some.inj h
    subst h
    obtain ⟨u, s, rfl, h1, h2⟩ := kts1 hs
    exact hk.at0 (hl.st1 h1) h2 hK
  · have h := Option.some.inj h
    subst h
    obtain ⟨u, s, rfl, h1, h2⟩ := kts1 hs
    exact hk.at0 (hl.st2 h1) h2 hK
  · have h := Option.some.inj h
    subst h
    obtain ⟨u, s, rfl, h1, h2⟩ := kts1 hs
    exact hk.at0 (hl.st2 h1) h2 hK
  · rename_i i c
    split at h
    · rename_i t ht
      have h := Option.some.inj h
      subst h
      obtain ⟨v, v1, v2⟩ := klk_ok ht hl
      show (match lk lg i with
        | some v => k (pc + len) (ls1 lg i (.int (iv v + Int32.ofInt _))) us A
        | none => False)
      rw [v1]
      exact hk.at0 (hl.st1 (t := 1) rfl) hs hK
    · cases h
  · have h := Option.some.inj h
    subst h
    obtain ⟨u1, u2, s, rfl, h1, h2, h3⟩ := kts2 hs
    exact hk.at0 hl ⟨rfl, h3⟩ hK
  · have h := Option.some.inj h
    subst h
    obtain ⟨u1, u2, s, rfl, h1, h2, h3⟩ := kts2 hs
    exact hk.at0 hl ⟨rfl, h3⟩ hK
  · have h := Option.some.inj h
    subst h
    obtain ⟨u1, u2, s, rfl, h1, h2, h3⟩ := kts2 hs
    exact hk.at0 hl ⟨rfl, h3⟩ hK
  · have h := Option.some.inj h
    subst h
    obtain ⟨u1, u2, s, rfl, h1, h2, h3⟩ := kts2 hs
    exact hk.at0 hl ⟨rfl, h3⟩ hK
  · have h := Option.some.inj h
    subst h
    obtain ⟨u1, u2, s, rfl, h1, h2, h3⟩ := kts2 hs
    exact hk.at0 hl ⟨rfl, h3⟩ hK
  · have h := Option.some.inj h
    subst h
    obtain ⟨u1, u2, s, rfl, h1, h2, h3⟩ := kts2 hs
    exact hk.at0 hl ⟨rfl, h3⟩ hK
  · have h := Option.some.inj h
    subst h
    obtain ⟨u1, u2, s, rfl, h1, h2, h3⟩ := kts2 hs
    exact hk.at0 hl ⟨rfl, h3⟩ hK
  · have h := Option.some.inj h
    subst h
    obtain ⟨u1, u2, s, rfl, h1, h2, h3⟩ := kts2 hs
    exact hk.at0 hl ⟨rfl, h3⟩ hK
  · have h := Option.some.inj h
    subst h
    obtain ⟨u1, u2, s, rfl, h1, h2, h3⟩ := kts2 hs
    exact hk.at0 hl ⟨rfl, h3⟩ hK
  · have h := Option.some.inj h
    subst h
    obtain ⟨u1, u2, s, rfl, h1, h2, h3⟩ := kts2 hs
    exact hk.at0 hl ⟨rfl, h3⟩ hK
  · have h := Option.some.inj h
    subst h
    obtain ⟨u1, u2, s, rfl, h1, h2, h3⟩ := kts2 hs
    exact hk.at0 hl ⟨rfl, h3⟩ hK
  · have h := Option.some.inj h
    subst h
    obtain ⟨u1, u2, s, rfl, h1, h2, h3⟩ := kts2 hs
    exact hk.at0 hl ⟨trivial, h3⟩ hK
  · have h := Option.some.inj h
    subst h
    obtain ⟨u1, u2, s, rfl, h1, h2, h3⟩ := kts2 hs
    exact hk.at0 hl ⟨trivial, h3⟩ hK
  · have h := Option.some.inj h
    subst h
    obtain ⟨u1, u2, s, rfl, h1, h2, h3⟩ := kts2 hs
    exact hk.at0 hl ⟨trivial, h3⟩ hK
  · have h := Option.some.inj h
    subst h
    obtain ⟨u1, u2, s, rfl, h1, h2, h3⟩ := kts2 hs
    exact hk.at0 hl ⟨trivial, h3⟩ hK
  · have h := Option.some.inj h
    subst h
    obtain ⟨u1, u2, s, rfl, h1, h2, h3⟩ := kts2 hs
    exact hk.at0 hl ⟨trivial, h3⟩ hK
  · have h := Option.some.inj h
    subst h
    obtain ⟨u1, u2, s, rfl, h1, h2, h3⟩ := kts2 hs
    exact hk.at0 hl ⟨trivial, h3⟩ hK
  · have h := Option.some.inj h
    subst h
    obtain ⟨u1, u2, s, rfl, h1, h2, h3⟩ := kts2 hs
    exact hk.at0 hl ⟨trivial, h3⟩ hK
  · have h := Option.some.inj h
    subst h
    obtain ⟨u1, u2, s, rfl, h1, h2, h3⟩ := kts2 hs
    exact hk.at0 hl ⟨trivial, h3⟩ hK
  · have h := Option.some.inj h
    subst h
    obtain ⟨u1, u2, s, rfl, h1, h2, h3⟩ := kts2 hs
    exact hk.at0 hl ⟨trivial, h3⟩ hK
  · have h := Option.some.inj h
    subst h
    obtain ⟨u1, s, rfl, h1, h2⟩ := kts1 hs
    exact hk.at0 hl ⟨rfl, h2⟩ hK
  · have h := Option.some.inj h
    subst h
    obtain ⟨u1, s, rfl, h1, h2⟩ := kts1 hs
    exact hk.at0 hl ⟨trivial, h2⟩ hK
  · have h := Option.some.inj h
    subst h
    obtain ⟨u1, s, rfl, h1, h2⟩ := kts1 hs
    exact hk.at0 hl ⟨rfl, h2⟩ hK
  · have h := Option.some.inj h
    subst h
    obtain ⟨u1, s, rfl, h1, h2⟩ := kts1 hs
    exact hk.at0 hl ⟨rfl, h2⟩ hK
  · have h := Option.some.inj h
    subst h
    obtain ⟨u1, s, rfl, h1, h2⟩ := kts1 hs
    exact hk.at0 hl ⟨rfl, h2⟩ hK
  · have h := Option.some.inj h
    subst h
    obtain ⟨u1, u2, s, rfl, h1, h2, h3⟩ := kts2 hs
    exact hk.at0 hl ⟨rfl, h3⟩ hK
  · have h := Option.some.inj h
    subst h
    exact hk.at0 hl ⟨trivial, hs⟩ hK
  · have h := Option.some.inj h
    subst h
    obtain ⟨u1, s, rfl, h1, h2⟩ := kts1 hs
    exact hk.at0 hl ⟨h1, h1, h2⟩ hK
  · have h := Option.some.inj h
    subst h
    obtain ⟨u1, s, rfl, h1, h2⟩ := kts1 hs
    exact hk.at0 hl h2 hK
  · have h := Option.some.inj h
    subst h
    obtain ⟨u1, s, rfl, h1, h2⟩ := kts1 hs
    exact hk.at0 hl h2 hK
  · have h := Option.some.inj h
    subst h
    obtain ⟨u1, u2, s, rfl, h1, h2, h3⟩ := kts2 hs
    exact hk.at0 hl ⟨h1, h2, h1, h2, h3⟩ hK
  · have h := Option.some.inj h
    subst h
    exact hk.at0 hl hs hK
  · have h := Option.some.inj h
    subst h
    obtain ⟨u1, s, rfl, h1, h2⟩ := kts1 hs
    exact ⟨fun _ => hk.at0 hl h2 hK, fun _ => hk.tl.at0 hl h2 hK⟩
  · have h := Option.some.inj h
    subst h
    obtain ⟨u1, u2, s, rfl, h1, h2, h3⟩ := kts2 hs
    exact ⟨fun _ => hk.at0 hl h3 hK, fun _ => hk.tl.at0 hl h3 hK⟩
  · have h := Option.some.inj h
    subst h
    obtain ⟨u1, s, rfl, h1, h2⟩ := kts1 hs
    exact ⟨fun _ => hk.at0 hl h2 hK, fun _ => hk.tl.at0 hl h2 hK⟩
  · have h := Option.some.inj h
    subst h
    obtain ⟨u1, s, rfl, h1, h2⟩ := kts1 hs
    exact ⟨fun _ => hk.at0 hl h2 hK, fun _ => hk.tl.at0 hl h2 hK⟩
  · have h := Option.some.inj h
    subst h
    obtain ⟨u1, s, rfl, h1, h2⟩ := kts1 hs
    exact ⟨fun _ => hk.at0 hl h2 hK, fun _ _ => kwT (off := []) hk.tl hl h2 hK⟩
  · obtain ⟨u1, s, rfl, h1, h2⟩ := kts1 hs
    split at h
    · rename_i q
      have h1 : u1 = .ref q := h1
      subst h1
      split at h
      · rename_i hb
        have h := Option.some.inj h
        subst h
        exact hk.at0 hl ⟨kgf_ok (Nat.le_of_ble_eq_true hb), h2⟩ hK
      · cases h
    · have h := Option.some.inj h
      subst h
      exact hk.at0 hl ⟨trivial, h2⟩ hK
  · rename_i i _ t r
    obtain ⟨u1, u2, s, rfl, h1, h2, h3⟩ := kts2 hs
    split at h
    · rename_i q
      have h2 : u2 = .ref q := h2
      subst h2
      split at h
      · rename_i hb
        have h := Option.some.inj h
        subst h
        rw [Bool.and_eq_true, Bool.and_eq_true, Bool.not_eq_true'] at hb
        obtain ⟨b1, b2, b3⟩ := hb
        have hq : q < 385 := Nat.le_of_ble_eq_true b1
        show zc q (kpd T.2.1 i (zkd A q)) = 0 ∧ k (pc + 3) lg s (zuF A q (kpd T.2.1 i (zkd A q)) u1)
        rw [zkd_k hq]
        exact ⟨Nat.eq_of_beq_eq_true b2, hk.at0 hl h3 (hS _ _ hK (agj.nF hq (kin_f b3)))⟩
      · cases h
    · cases h
  · have h := Option.some.inj h
    subst h
    obtain ⟨u1, u2, s, rfl, h1, h2, h3⟩ := kts2 hs
    exact hk.at0 hl ⟨rfl, h3⟩ hK
  · have h := Option.some.inj h
    subst h
    obtain ⟨u1, u2, s, rfl, h1, h2, h3⟩ := kts2 hs
    exact hk.at0 hl ⟨trivial, h3⟩ hK
  · have h := Option.some.inj h
    subst h
    obtain ⟨u1, u2, s, rfl, h1, h2, h3⟩ := kts2 hs
    exact hk.at0 hl ⟨rfl, h3⟩ hK
  · have h := Option.some.inj h
    subst h
    obtain ⟨u1, u2, s, rfl, h1, h2, h3⟩ := kts2 hs
    exact hk.at0 hl ⟨trivial, h3⟩ hK
  · obtain ⟨u1, u2, u3, s, rfl, h1, h2, h3, h4⟩ := kts3 hs
    split at h
    · rename_i q
      have h3 : u3 = .ref q := h3
      subst h3
      split at h
      · rename_i hb
        have h := Option.some.inj h
        subst h
        rw [Bool.and_eq_true, Bool.not_eq_true'] at hb
        obtain ⟨b1, b3⟩ := hb
        have hq : q < 385 := Nat.le_of_ble_eq_true b1
        exact hk.at0 hl h4 (hS _ _ hK (agj.nI hq (kin_f b3)))
      · cases h
    · cases h
  · obtain ⟨u1, u2, u3, s, rfl, h1, h2, h3, h4⟩ := kts3 hs
    split at h
    · rename_i q
      have h3 : u3 = .ref q := h3
      subst h3
      split at h
      · rename_i hb
        have h := Option.some.inj h
        subst h
        rw [Bool.and_eq_true, Bool.not_eq_true'] at hb
        obtain ⟨b1, b3⟩ := hb
        have hq : q < 385 := Nat.le_of_ble_eq_true b1
        exact hk.at0 hl h4 (hS _ _ hK (agj.nJ (kin_f b3)))
      · cases h
    · cases h
  · obtain ⟨u1, u2, u3, s, rfl, h1, h2, h3, h4⟩ := kts3 hs
    split at h
    · rename_i q
      have h3 : u3 = .ref q := h3
      subst h3
      split at h
      · rename_i hb
        have h := Option.some.inj h
        subst h
        rw [Bool.and_eq_true, Bool.not_eq_true'] at hb
        obtain ⟨b1, b3⟩ := hb
        have hq : q < 385 := Nat.le_of_ble_eq_true b1
        exact hk.at0 hl h4 (hS _ _ hK (agj.nI hq (kin_f b3)))
      · cases h
    · cases h
  · have h := Option.some.inj h
    subst h
    obtain ⟨u1, s, rfl, h1, h2⟩ := kts1 hs
    exact hk.at0 hl ⟨rfl, h2⟩ hK
  · have h := Option.some.inj h
    subst h
    obtain ⟨u1, s, rfl, h1, h2⟩ := kts1 hs
    exact hk.at0 hl ⟨rfl, h2⟩ hK
  · have h := Option.some.inj h
    subst h
    exact hk.at0 hl hs hK
  · exact kcl_ok hP h hl hs hK hk
  · exact kcl_ok hP h hl hs hK hk
  · exact kcl_ok hP h hl hs hK hk
  · cases us with
    | nil => exact hR _ _ hK
    | cons u s => exact hs.elim
  · obtain ⟨u1, s, rfl, h1, h2⟩ := kts1 hs
    cases s with
    | nil => exact hR _ _ hK
    | cons u s => exact h2.elim
  · obtain ⟨u1, s, rfl, h1, h2⟩ := kts1 hs
    cases s with
    | nil => exact hR _ _ hK
    | cons u s => exact h2.elim
  · obtain ⟨u1, s, rfl, h1, h2⟩ := kts1 hs
    cases s with
    | nil => exact hR _ _ hK
    | cons u s => exact h2.elim
  · cases h
end
/-! a method -/
def kchk (fl : List (Nat × Nat × Nat)) (pl : List (Nat × Nat × Nat × Nat)) (kl : List (Nat × Nat × Int)) (P : kP) (code : ck_cd) (tbl : List kE) : Bool := tbl.all (fun e => match code.find? (fun y => Nat.beq y.1 e.1) with
  | none => false
  | some y => match kst fl pl kl P y.2.1 y.2.2 e.1 e.2.1 e.2.2 with
    | none => false
    | some ss => ss.all (fun s => match tbl.find? (fun t => Nat.beq t.1 s.1) with
      | none => false
      | some t => kll t.2.1 s.2.1 && ksl t.2.2 s.2.2))
def kan (K : zW → Prop) (tbl : List kE) : Nat → fL_ → List Value → zW → Prop := fun pc lg us A => ∃ e ∈ tbl, e.1 = pc ∧ ktl e.2.1 lg ∧ kts e.2.2 us ∧ K A
section
variable {T : fT} {Sp : zP} {P : kP} {K : zW → Prop} {code : ck_cd} {cc : ByteArray} {tbl : List kE}
theorem kan_go {ss : List kE} (h : ss.all (fun s => match tbl.find? (fun t => Nat.beq t.1 s.1) with
      | none => false
      | some t => kll t.2.1 s.2.1 && ksl t.2.2 s.2.2) = true) : kgo K (kan K tbl) ss := fun s hs lg us A hl hu hK => by
  have h1 := List.all_eq_true.mp h s hs
  split at h1
  · cases h1
  · rename_i t ht
    rw [Bool.and_eq_true] at h1
    have hp := List.find?_some ht
    exact ⟨t, List.mem_of_find?_eq_some ht, Nat.eq_of_beq_eq_true hp, kll_ok h1.1 hl, ksl_ok h1.2 hu, hK⟩
theorem kp_ok (hT : f_ok T = true) (hN : T.2.2.2.2.2.2 = none) (hSp : zsp T Sp) (hcode : ∀ x ∈ code, decode cc x.1 = .ok (x.2.1, x.2.2)) (hP : kpc Sp P K) (hS : ∀ A A', K A → agj P.1 A' A → K A') (hc : kchk T.1 T.2.1 T.2.2.2.1 P code tbl = true) :
    ∀ (n : Nat) (a fin : fS) (rv : Option Value), fn_ T cc n a fin → fin.2.2.1 = rv.toList → ∀ (lg : fL_) (us : List Value) (A : zW), zrel a.2.2.2.1 lg a.2.1 → zvs a.2.2.2.1 a.2.2.1 us → zA A a.2.2.2.1 a.2.2.2.2 → kan K tbl a.1 lg us A → zfin (fun _ A => K A) fin rv
  | 0, a, fin, rv, hn, hrv, lg, us, A, hr, hv, hA, hk => by
    obtain ⟨e, e1, e2, e3, e4, hK⟩ := hk
    have e0 : a = fin := hn
    subst e0
    rw [hrv] at hv
    obtain ⟨u, rfl⟩ := zvs_opt hv
    exact ⟨A, u, hA, hv, hK⟩
  | n + 1, a, fin, rv, hn, hrv, lg, us, A, hr, hv, hA, hk => by
    obtain ⟨e, e1, e2, e3, e4, hK⟩ := hk
    have h1 := List.all_eq_true.mp hc e e1
    split at h1
    · cases h1
    · rename_i y hy
      split at h1
      · cases h1
      · rename_i ss hss
        have hm := List.mem_of_find?_eq_some hy
        have hp0 := List.find?_some hy
        have hp : y.1 = e.1 := Nat.eq_of_beq_eq_true hp0
        have hdc := hcode _ hm
        rw [hp, e2] at hdc
        obtain ⟨b, ⟨ins', len', hd', hx⟩, hn'⟩ := hn
        rw [hdc] at hd'
        have f1 : (y.2.1, y.2.2) = (ins', len') := by injection hd'
        have f2 : y.2.1 = ins' := congrArg Prod.fst f1
        have f3 : y.2.2 = len' := congrArg Prod.snd f1
        subst f2
        subst f3
        rw [e2] at hss
        have hz := kst_ok (Post := fun _ A => K A) (Sp := Sp) hP hS (fun _ _ h => h) hss e3 e4 hK (kan_go h1)
        obtain ⟨lg', us', A', r1, r2, r3, r4⟩ := zstep_ok (lg := a.2.1) (vs := a.2.2.1) (ws := a.2.2.2.1) (sh := a.2.2.2.2) hT hN hSp hr hv hA hx hz
        exact kp_ok hT hN hSp hcode hP hS hc n b fin rv hn' hrv lg' us' A' r1 r2 r3 r4
end
def klo : Nat → List Nat → kL
  | _, [] => []
  | i, t :: ts => (i, false, t) :: klo (i + 1) ts
theorem klo_ge : ∀ {i : Nat} {ts : List Nat}, ∀ x ∈ klo i ts, i ≤ x.1
  | _, [], x, hx => absurd hx List.not_mem_nil
  | i, t :: ts, x, hx => by
    rcases List.mem_cons.mp hx with rfl | hx
    · exact Nat.le_refl _
    · have := klo_ge (i := i + 1) (ts := ts) x hx
      omega
theorem klo_ok : ∀ {i : Nat} {ts : List Nat} {us : List Value}, ts.all (fun t => Nat.ble 1 t) = true → kts ts us → ktl (klo i ts) (la i us)
  | _, [], _, _, _ => fun x hx => absurd hx List.not_mem_nil
  | _, _ :: _, [], _, h => h.elim
  | i, t :: ts, u :: us, ha, h => by
    rw [List.all_cons, Bool.and_eq_true] at ha
    have hc : u.category = 1 := by
      have := kle_ok (t := 1) (s := t) (u := u) (by
        have h1 : 1 ≤ t := Nat.le_of_ble_eq_true ha.1
        unfold kle
        by_cases e : t = 1
        · subst e
          rfl
        · rw [show Nat.ble 2 t = true from Nat.ble_eq_true_of_le (by omega)]
          simp) h.1
      exact this
    have hb : (u.category == 2) = false := by rw [hc]; rfl
    have e : la i (u :: us) = (i, false, u) :: la (i + 1) us := by
      show (i, u.category == 2, u) :: la (bif u.category == 2 then i + 2 else i + 1) us = _
      rw [hb]
      rfl
    rw [e]
    intro x hx
    rcases List.mem_cons.mp hx with rfl | hx
    · refine ⟨u, ?_, h.1⟩
      show (bif i == i then some (false, u) else _) = some (false, u)
      rw [beq_self_eq_true]
      rfl
    · obtain ⟨v, v1, v2⟩ := klo_ok (i := i + 1) ha.2 h.2 x hx
      have hge := klo_ge x hx
      refine ⟨v, ?_, v2⟩
      show (bif i == x.1 then some (false, u) else lkb (la (i + 1) us) x.1) = some (x.2.1, v)
      rw [show (i == x.1) = false from beq_eq_false_iff_ne.mpr (by omega)]
      exact v1
/-- a method that keeps K -/
def zkq (tags : List Nat) (rt : Nat) (K : zW → Prop) : zQ := fun Us A Kt => kts tags Us ∧ K A ∧ ∀ rv A', zrk rt rv → K A' → Kt rv A'
def krt (rt : Nat) : List Nat := match rt with
  | 0 => []
  | 1 => [1]
  | 2 => [1]
  | _ => [0]
theorem krt_ok {rt : Nat} {rv : Option Value} (h : zrk rt rv) : kts (krt rt) rv.toList := by
  unfold zrk at h
  split at h
  · subst h
    exact trivial
  · obtain ⟨x, rfl⟩ := h
    exact ⟨rfl, trivial⟩
  · obtain ⟨x, rfl, -⟩ := h
    exact ⟨rfl, trivial⟩
  · obtain ⟨x, rfl⟩ := h
    exact ⟨trivial, trivial⟩
  · exact h.elim
theorem zrk_u {rt : Nat} {rv u : Option Value} {ws : va_W} (hr : rt < 4) (h : f_rk rt rv) (hv : zvs ws rv.toList u.toList) : zrk rt u := by
  obtain ⟨h1, h2⟩ := zrk_ok (ws := ws) h hr
  have e : u = rv := by
    match rt, hr, h2 with
    | 0, _, h2 =>
      have h2 : rv = none := h2
      subst h2
      cases u with
      | none => rfl
      | some v => exact hv.elim
    | 1, _, h2 =>
      obtain ⟨x, rfl⟩ := h2
      cases u with
      | none => exact hv.elim
      | some v => rw [hv.1.int]
    | 2, _, h2 =>
      obtain ⟨x, rfl, -⟩ := h2
      cases u with
      | none => exact hv.elim
      | some v => rw [hv.1.int]
    | 3, _, h2 =>
      obtain ⟨x, rfl⟩ := h2
      cases u with
      | none => exact hv.elim
      | some v => rw [hv.1.long]
    | n + 4, hr, _ => omega
  rw [e]
  exact h2
theorem zdo_kq {rt : Nat} {Wr : List (Nat × Nat)} {T : fT} {cc : ByteArray} {code : ck_cd} {tags : List Nat} {K : zW → Prop} (Sp : zP) (P : kP) (tbl : List kE) (hT : f_ok T = true) (hN : T.2.2.2.2.2.2 = none) (hSp : zsp T Sp) (hcode : ∀ x ∈ code, decode cc x.1 = .ok (x.2.1, x.2.2)) (hP : kpc Sp P K) (hS : ∀ A A', K A → agj P.1 A' A → K A') (hr : rt < 4) (ht : tags.all (fun t => Nat.ble 1 t) = true) (hc : (kchk T.1 T.2.1 T.2.2.2.1 P code tbl && (match tbl with
    | e :: _ => Nat.beq e.1 0 && (kll e.2.1 (klo 0 tags) && ksl e.2.2 [])
    | [] => false)) = true) : zdo (fq cw_TT cw_SG rt Wr T cc) (zkq tags rt K) := by
  intro As ws sh rv ws' sh' hx
  refine ⟨zx_fq hx, fun A Us Kt hA hv hQ => ?_⟩
  obtain ⟨q1, q2, q3⟩ := hQ
  rw [Bool.and_eq_true] at hc
  obtain ⟨c1, c2⟩ := hc
  obtain ⟨pc, lg, kd, h1, h2⟩ := hx.1
  obtain ⟨n, hn⟩ := gr_fn h1
  cases tbl with
  | nil => cases c2
  | cons e r =>
    have c2 : (Nat.beq e.1 0 && (kll e.2.1 (klo 0 tags) && ksl e.2.2 [])) = true := c2
    rw [Bool.and_eq_true, Bool.and_eq_true] at c2
    obtain ⟨d1, d2, d3⟩ := c2
    obtain ⟨A', u, g1, g2, g3⟩ := kp_ok hT hN hSp hcode hP hS c1 n _ _ rv hn rfl (la 0 Us) [] A (z_la 0 hv) trivial hA ⟨e, List.mem_cons_self, Nat.eq_of_beq_eq_true d1, kll_ok d2 (klo_ok ht q1), ksl_ok d3 trivial, q2⟩
    exact ⟨A', u, g1, g2, q3 u A' (zrk_u hr hx.2.2.2.2.2 g2) g3⟩
/-! the calls: those that keep it by themselves, those that leave its slots alone -/
theorem kpc_nil {Sp : zP} {S : List (Nat × Nat)} {K : zW → Prop} : kpc Sp (S, []) K := fun _ h => absurd h List.not_mem_nil
theorem kpc_cons {Sp : zP} {S : List (Nat × Nat)} {K : zW → Prop} {key na : Nat} {rts tags : List Nat} {l : List (Nat × Nat × List Nat × List Nat)} {Q : zQ} (h1 : Sp.find? (fun z => z.1 == key) = some (key, na, Q)) (h2 : ∀ (Us : List Value) (A : zW) (Kt : Option Value → zW → Prop), kts tags Us → K A → (∀ (rv : Option Value) (A' : zW), kts rts rv.toList → K A' → Kt rv A') → Q Us A Kt) (h : kpc Sp (S, l) K) : kpc Sp (S, (key, na, rts, tags) :: l) K := fun x hx => by
  rcases List.mem_cons.mp hx with rfl | hx
  · exact ⟨_, h1, rfl, h2⟩
  · exact h x hx
theorem kq_call {K : zW → Prop} {rt : Nat} {tags : List Nat} (Us : List Value) (A : zW) (Kt : Option Value → zW → Prop) (h1 : kts tags Us) (h2 : K A) (h3 : ∀ (rv : Option Value) (A' : zW), kts (krt rt) rv.toList → K A' → Kt rv A') : zkq tags rt K Us A Kt := ⟨h1, h2, fun rv A' hr hK => h3 rv A' (krt_ok hr) hK⟩
theorem hq_call {S : List (Nat × Nat)} {K : zW → Prop} (hS : ∀ A A', K A → agj S A' A → K A') {rt : Nat} {tags : List Nat} {Wr : List (Nat × Nat)} (hw : nW S Wr = true) (Us : List Value) (A : zW) (Kt : Option Value → zW → Prop) (_ : kts tags Us) (h2 : K A) (h3 : ∀ (rv : Option Value) (A' : zW), kts (krt rt) rv.toList → K A' → Kt rv A') : zhq rt Wr Us A Kt := fun X u hr hN => h3 u _ (krt_ok hr) (hS _ _ h2 (agj.hv hw hN))
end
section
/-! sets of sets: 64 words, a bit for each set of at most 12 elements -/
def bF (f : Nat → Int64) (S : Nat) : Bool := (f (S / 64)).toBitVec.getLsbD (S % 64)
theorem i32_63q : ∀ q, q < 64 → ∀ r, r < 64 → Int32.ofNat (64 * q + r) &&& Int32.ofInt 63 = Int32.ofNat r := by decide +kernel
theorem i32_63 : ∀ n, n < 4096 → Int32.ofNat n &&& Int32.ofInt 63 = Int32.ofNat (n % 64) := fun n hn => by
  have h := i32_63q (n / 64) (by omega) (n % 64) (by omega)
  rw [Nat.div_add_mod] at h
  exact h
theorem i32_s6q : ∀ q, q < 64 → ∀ r, r < 64 → Int32.ofNat (64 * q + r) >>> (Int32.ofInt 6 &&& 31) = Int32.ofNat q := by decide +kernel
theorem i32_s6 : ∀ n, n < 4096 → Int32.ofNat n >>> (Int32.ofInt 6 &&& 31) = Int32.ofNat (n / 64) := fun n hn => by
  have h := i32_s6q (n / 64) (by omega) (n % 64) (by omega)
  rw [Nat.div_add_mod] at h
  exact h
theorem one_sh : ∀ j, j < 64 → ∀ i, i < 64 → (Int64.ofNat 1 <<< ((Int32.ofNat j).toInt64 &&& 63)).toBitVec.getLsbD i = decide (i = j) := by decide +kernel
/-- a set comes -/
theorem bF_add {f g : Nat → Int64} {S : Nat} (h1 : g (S / 64) = f (S / 64) ||| (Int64.ofNat 1 <<< ((Int32.ofNat (S % 64)).toInt64 &&& 63))) (h2 : ∀ r, r ≠ S / 64 → g r = f r) (T : Nat) : bF g T = (decide (T = S) || bF f T) := by
  unfold bF
  by_cases h : T / 64 = S / 64
  · rw [h, h1, Int64.toBitVec_or, BitVec.getLsbD_or, one_sh _ (by omega) _ (by omega)]
    by_cases e : T % 64 = S % 64
    · rw [decide_eq_true e, decide_eq_true (show T = S by omega), Bool.or_true, Bool.true_or]
    · rw [decide_eq_false e, decide_eq_false (show ¬ T = S by omega), Bool.or_false, Bool.false_or]
  · rw [h2 _ h, decide_eq_false (show ¬ T = S by omega), Bool.false_or]
theorem rz_c : ∀ k, k < 6 → ∀ i, i < 64 → (fw_v k ^^^ Int64.ofInt (-1)).toBitVec.getLsbD i = !(i.testBit k) := by decide +kernel
theorem rz_s : ∀ k, k < 6 → ((((Int32.ofInt 1 <<< (Int32.ofNat k &&& 31)).toInt64) &&& 63).toBitVec.smod 64#64).toNat = 2 ^ k := by decide +kernel
theorem rz_t : ∀ k, k < 6 → ∀ j, j < 64 → j.testBit k = (!decide (j < 2 ^ k) && !((j - 2 ^ k).testBit k)) := by decide +kernel
/-- within a word: those that come to a set by its element k, below 6 -/
theorem rz_lo {x : Int64} {k j : Nat} (hk : k < 6) (hj : j < 64) : ((x &&& (fw_v k ^^^ Int64.ofInt (-1))) <<< (((Int32.ofInt 1 <<< (Int32.ofNat k &&& 31)).toInt64) &&& 63)).toBitVec.getLsbD j = (j.testBit k && x.toBitVec.getLsbD (j - 2 ^ k)) := by
  rw [Int64.toBitVec_shiftLeft]
  show ((x &&& (fw_v k ^^^ Int64.ofInt (-1))).toBitVec <<< ((((Int32.ofInt 1 <<< (Int32.ofNat k &&& 31)).toInt64) &&& 63).toBitVec.smod 64#64).toNat).getLsbD j = _
  rw [rz_s k hk, BitVec.getLsbD_shiftLeft, Int64.toBitVec_and, BitVec.getLsbD_and, rz_c k hk (j - 2 ^ k) (Nat.lt_of_le_of_lt (Nat.sub_le _ _) hj), rz_t k hk j hj, decide_eq_true hj, Bool.true_and]
  cases decide (j < 2 ^ k) <;> cases (j - 2 ^ k).testBit k <;> cases x.toBitVec.getLsbD (j - 2 ^ k) <;> rfl
/-- what comes to a row of sets by element k -/
def rz (f : Nat → Int64) (k r : Nat) : Int64 := if k < 6 then (f r &&& (fw_v k ^^^ Int64.ofInt (-1))) <<< (((Int32.ofInt 1 <<< (Int32.ofNat k &&& 31)).toInt64) &&& 63) else if r.testBit (k - 6) then f (r - 2 ^ (k - 6)) else 0
theorem p2_6 {k : Nat} (h : 6 ≤ k) : 2 ^ k = 64 * 2 ^ (k - 6) := by
  have e : k = 6 + (k - 6) := by omega
  have h1 : 2 ^ (6 + (k - 6)) = 64 * 2 ^ (k - 6) := by rw [Nat.pow_add]
  rw [← e] at h1
  exact h1
theorem rz_hi (k : Nat) (h6 : 6 ≤ k) (_ : k < 12) (S : Nat) (_ : S < 4096) : S.testBit k = (S / 64).testBit (k - 6) := by
  have h := Nat.testBit_div_two_pow (n := 6) S (k - 6)
  rw [show k - 6 + 6 = k by omega] at h
  exact h.symm
theorem rz_h2 (k : Nat) (h6 : 6 ≤ k) (_ : k < 12) (S : Nat) (_ : S < 4096) (hb : S.testBit k = true) : (S - 2 ^ k) / 64 = S / 64 - 2 ^ (k - 6) ∧ (S - 2 ^ k) % 64 = S % 64 := by
  have hge := Nat.ge_two_pow_of_testBit hb
  rw [p2_6 h6] at hge ⊢
  generalize 2 ^ (k - 6) = p at hge ⊢
  omega
theorem rz_l1 (k : Nat) (h6 : k < 6) (S : Nat) (_ : S < 4096) : S.testBit k = (S % 64).testBit k := by
  have h := Nat.testBit_mod_two_pow S 6 k
  rw [decide_eq_true h6, Bool.true_and] at h
  exact h.symm
theorem rz_l2 (k : Nat) (h6 : k < 6) (S : Nat) (hS : S < 4096) (hb : S.testBit k = true) : (S - 2 ^ k) / 64 = S / 64 ∧ (S - 2 ^ k) % 64 = S % 64 - 2 ^ k := by
  rw [rz_l1 k h6 S hS] at hb
  have hge := Nat.ge_two_pow_of_testBit hb
  generalize 2 ^ k = p at hge ⊢
  omega
theorem rz_bit {f : Nat → Int64} {k S : Nat} (hk : k < 12) (hS : S < 4096) : (rz f k (S / 64)).toBitVec.getLsbD (S % 64) = (S.testBit k && bF f (S - 2 ^ k)) := by
  unfold rz
  by_cases h6 : k < 6
  · rw [if_pos h6, rz_lo h6 (by omega), rz_l1 k h6 S hS]
    cases hb : (S % 64).testBit k with
    | false => rfl
    | true =>
      obtain ⟨a, b⟩ := rz_l2 k h6 S hS (by rw [rz_l1 k h6 S hS]; exact hb)
      unfold bF
      rw [a, b]
  · rw [if_neg h6, rz_hi k (by omega) hk S hS]
    cases hb : (S / 64).testBit (k - 6) with
    | false =>
      rw [if_neg Bool.false_ne_true]
      rw [Bool.false_and]
      show (0#64).getLsbD _ = false
      rw [BitVec.getLsbD_zero]
    | true =>
      obtain ⟨a, b⟩ := rz_h2 k (by omega) hk S hS (by rw [rz_hi k (by omega) hk S hS]; exact hb)
      rw [if_pos rfl, Bool.true_and]
      unfold bF
      rw [a, b]
/-- all sets that have one of these as a part, by the first k elements -/
def cuF (b : Nat → Bool) : Nat → Nat → Bool
  | 0, S => b S
  | k + 1, S => cuF b k S || (S.testBit k && cuF b k (S - 2 ^ k))
/-- T is a part of S -/
def subS (T S : Nat) : Prop := ∀ i, T.testBit i = true → S.testBit i = true
theorem tb_sub {S k : Nat} (h : S.testBit k = true) (i : Nat) : (S - 2 ^ k).testBit i = (S.testBit i && !decide (i = k)) := by
  have hr : (S % 2 ^ (k + 1)).testBit k = true := by
    rw [Nat.testBit_mod_two_pow, h, decide_eq_true (Nat.lt_succ_self k)]
    rfl
  have h1 := Nat.ge_two_pow_of_testBit hr
  have h2 := Nat.mod_lt S (Nat.two_pow_pos (k + 1))
  have h3 := Nat.div_add_mod S (2 ^ (k + 1))
  have h4 : 2 ^ (k + 1) = 2 ^ k + 2 ^ k := by
    rw [Nat.pow_succ]
    omega
  obtain ⟨b, hb⟩ : ∃ b, S % 2 ^ (k + 1) = 2 ^ k + b := ⟨S % 2 ^ (k + 1) - 2 ^ k, by omega⟩
  rw [hb] at h3 h2
  have e1 : S = 2 ^ (k + 1) * (S / 2 ^ (k + 1)) + (2 ^ k + b) := h3.symm
  clear hb hr h1 h3
  generalize S / 2 ^ (k + 1) = a at e1
  have hbl : b < 2 ^ k := by omega
  have e2 : S - 2 ^ k = 2 ^ (k + 1) * a + b := by
    rw [e1]
    generalize 2 ^ (k + 1) * a = y
    omega
  have e3 : S.testBit i = (2 ^ (k + 1) * a + (2 ^ k + b)).testBit i := congrArg (fun x => Nat.testBit x i) e1
  rw [e2, e3, Nat.testBit_two_pow_mul_add a (show b < 2 ^ (k + 1) by omega), Nat.testBit_two_pow_mul_add a (show 2 ^ k + b < 2 ^ (k + 1) by omega)]
  by_cases c : i < k + 1
  · rw [if_pos c, if_pos c]
    by_cases d : i = k
    · subst d
      rw [decide_eq_true rfl, Bool.not_true, Bool.and_false]
      exact Nat.testBit_lt_two_pow hbl
    · rw [decide_eq_false d, Bool.not_false, Bool.and_true, Nat.testBit_two_pow_add_gt (show i < k by omega)]
  · rw [if_neg c, if_neg c, decide_eq_false (show ¬ i = k by omega), Bool.not_false, Bool.and_true]
theorem tb_s {S k i : Nat} (h : S.testBit k = true) : (S - 2 ^ k).testBit i = true ↔ S.testBit i = true ∧ i ≠ k := by
  rw [tb_sub h, Bool.and_eq_true, Bool.not_eq_true', decide_eq_false_iff_not]
theorem cuF_iff {b : Nat → Bool} : ∀ {k S : Nat}, cuF b k S = true ↔ ∃ T, b T = true ∧ subS T S ∧ ∀ i, S.testBit i = true → ¬ T.testBit i = true → i < k
  | 0, S => by
    constructor
    · intro h
      exact ⟨S, h, fun _ z => z, fun i z1 z2 => absurd z1 z2⟩
    · rintro ⟨T, h1, h2, h3⟩
      have e : T = S := Nat.eq_of_testBit_eq (fun i => by
        cases hs : S.testBit i with
        | true =>
          cases ht : T.testBit i with
          | true => rfl
          | false => exact absurd (h3 i hs (by rw [ht]; exact Bool.false_ne_true)) (Nat.not_lt_zero _)
        | false =>
          cases ht : T.testBit i with
          | true =>
            rw [h2 i ht] at hs
            cases hs
          | false => rfl)
      subst e
      exact h1
  | k + 1, S => by
    show (cuF b k S || (S.testBit k && cuF b k (S - 2 ^ k))) = true ↔ _
    rw [Bool.or_eq_true, Bool.and_eq_true, cuF_iff, cuF_iff]
    constructor
    · rintro (⟨T, h1, h2, h3⟩ | ⟨hk, T, h1, h2, h3⟩)
      · exact ⟨T, h1, h2, fun i a c => Nat.lt_succ_of_lt (h3 i a c)⟩
      · refine ⟨T, h1, fun i a => ((tb_s hk).mp (h2 i a)).1, fun i a c => ?_⟩
        by_cases e : i = k
        · omega
        · exact Nat.lt_succ_of_lt (h3 i ((tb_s hk).mpr ⟨a, e⟩) c)
    · rintro ⟨T, h1, h2, h3⟩
      by_cases hk : S.testBit k = true ∧ ¬ T.testBit k = true
      · refine Or.inr ⟨hk.1, T, h1, fun i a => (tb_s hk.1).mpr ⟨h2 i a, fun z => hk.2 (z ▸ a)⟩, fun i a c => ?_⟩
        obtain ⟨a1, a2⟩ := (tb_s hk.1).mp a
        have := h3 i a1 c
        omega
      · refine Or.inl ⟨T, h1, h2, fun i a c => ?_⟩
        have h5 := h3 i a c
        by_cases e : i = k
        · subst e
          exact absurd ⟨a, c⟩ hk
        · omega
/-- what is least of sets that have with each all greater ones -/
def lwF (g : Nat → Bool) (S : Nat) : Prop := g S = true ∧ ∀ k, k < 12 → S.testBit k = true → ¬ g (S - 2 ^ k) = true
/-- the sets that leave a world (of 256) open: those that have all in view that isn't true there -/
def opS (out : Nat → Prop) (tr : Nat → Nat) (view S : Nat) : Prop := ∃ w, w < 256 ∧ out w ∧ ∀ i, view.testBit i = true → ¬ (tr w).testBit i = true → S.testBit i = true
theorem opS_mono {out : Nat → Prop} {tr : Nat → Nat} {view S T : Nat} (h : opS out tr view T) (hs : subS T S) : opS out tr view S := by
  obtain ⟨w, h1, h2, h3⟩ := h
  exact ⟨w, h1, h2, fun i a b => hs i (h3 i a b)⟩
/-- the family that a class's cuts are found in -/
theorem opS_cu {out : Nat → Prop} {tr : Nat → Nat} {view S : Nat} {b : Nat → Bool} (hb : ∀ T, b T = true ↔ ∃ w, w < 256 ∧ out w ∧ ∀ i, T.testBit i = true ↔ view.testBit i = true ∧ ¬ (tr w).testBit i = true) (hS : S < 4096) (hT : ∀ T, b T = true → T < 4096) : cuF b 12 S = true ↔ opS out tr view S := by
  rw [cuF_iff]
  constructor
  · rintro ⟨T, h1, h2, -⟩
    obtain ⟨w, w1, w2, w3⟩ := (hb T).mp h1
    exact ⟨w, w1, w2, fun i a c => h2 i ((w3 i).mpr ⟨a, c⟩)⟩
  · rintro ⟨w, w1, w2, w3⟩
    have ht : ∀ i, ((tr w &&& view) ^^^ view).testBit i = true ↔ view.testBit i = true ∧ ¬ (tr w).testBit i = true := fun i => by
      rw [Nat.testBit_xor, Nat.testBit_and]
      cases (tr w).testBit i <;> cases view.testBit i <;> decide
    refine ⟨_, (hb _).mpr ⟨w, w1, w2, ht⟩, fun i a => w3 i ((ht i).mp a).1 ((ht i).mp a).2, fun i a _ => ?_⟩
    by_cases h12 : i < 12
    · exact h12
    · have h2 : S < 2 ^ i := Nat.lt_of_lt_of_le (show S < 2 ^ 12 from hS) (Nat.pow_le_pow_right (by decide) (by omega))
      rw [Nat.testBit_lt_two_pow h2] at a
      cases a
/-- of some entries a sentence follows: there is no world without it where all of them are true -/
def flS (out : Nat → Prop) (tr : Nat → Nat) (P : Nat → Prop) : Prop := ∀ w, w < 256 → out w → ¬ ∀ i, P i → (tr w).testBit i = true
/-- what the reference asks of a cut -/
def isC (out : Nat → Prop) (tr : Nat → Nat) (view S : Nat) : Prop := subS S view ∧ ¬ flS out tr (fun i => view.testBit i = true ∧ ¬ S.testBit i = true) ∧ ∀ e, S.testBit e = true → flS out tr (fun i => (view.testBit i = true ∧ ¬ S.testBit i = true) ∨ i = e)
theorem flS_n {out : Nat → Prop} {tr : Nat → Nat} {view S : Nat} : ¬ flS out tr (fun i => view.testBit i = true ∧ ¬ S.testBit i = true) ↔ opS out tr view S := by
  constructor
  · intro h
    refine Classical.byContradiction (fun z => h (fun w w1 w2 a => z ⟨w, w1, w2, fun i b c => ?_⟩))
    refine Classical.byContradiction (fun d => c (a i ⟨b, d⟩))
  · rintro ⟨w, w1, w2, w3⟩ z
    refine z w w1 w2 (fun i a => Classical.byContradiction (fun c => a.2 (w3 i a.1 c)))
theorem cut_iff {out : Nat → Prop} {tr : Nat → Nat} {view S : Nat} : isC out tr view S ↔ opS out tr view S ∧ ∀ k, S.testBit k = true → ¬ opS out tr view (S - 2 ^ k) := by
  constructor
  · rintro ⟨h1, h2, h3⟩
    refine ⟨flS_n.mp h2, fun k hk => ?_⟩
    rintro ⟨w, w1, w2, w3⟩
    refine h3 k hk w w1 w2 (fun i a => ?_)
    rcases a with a | rfl
    · exact Classical.byContradiction (fun c => a.2 ((tb_s hk).mp (w3 i a.1 c)).1)
    · exact Classical.byContradiction (fun c => ((tb_s hk).mp (w3 i (h1 i hk) c)).2 rfl)
  · rintro ⟨h1, h2⟩
    have hv : subS S view := fun k hk => Classical.byContradiction (fun z => by
      obtain ⟨w, w1, w2, w3⟩ := h1
      exact h2 k hk ⟨w, w1, w2, fun i a c => (tb_s hk).mpr ⟨w3 i a c, fun e => z (e ▸ a)⟩⟩)
    refine ⟨hv, flS_n.mpr h1, fun e he w w1 w2 a => h2 e he ⟨w, w1, w2, fun i b c => ?_⟩⟩
    refine (tb_s he).mpr ⟨Classical.byContradiction (fun d => c (a i (Or.inl ⟨b, d⟩))), fun d => ?_⟩
    subst d
    exact c (a i (Or.inr rfl))
/-- the least of some sets, by weight and then by size: the first of them -/
def lstF (p : Nat → Bool) (cost : Nat → Int) : Nat → Option Nat
  | 0 => none
  | n + 1 => if p n = true then (match lstF p cost n with
    | none => some n
    | some b => if cost n < cost b then some n else some b) else lstF p cost n
theorem lstF_eq {p p' : Nat → Bool} {c c' : Nat → Int} : ∀ {n : Nat}, (∀ S, S < n → p S = p' S) → (∀ S T, S < n → T < n → p S = true → p T = true → (c S < c T ↔ c' S < c' T)) → lstF p c n = lstF p' c' n ∧ ∀ b, lstF p c n = some b → b < n ∧ p b = true
  | 0, _, _ => ⟨rfl, fun _ h => by cases h⟩
  | n + 1, h1, h2 => by
    obtain ⟨e, hb⟩ := lstF_eq (n := n) (fun S hS => h1 S (by omega)) (fun S T hS hT => h2 S T (by omega) (by omega))
    have hp := h1 n (by omega)
    unfold lstF
    rw [← hp, ← e]
    by_cases hn : p n = true
    · rw [if_pos hn, if_pos hn]
      cases hl : lstF p c n with
      | none => exact ⟨rfl, fun b hb => by cases hb; exact ⟨by omega, hn⟩⟩
      | some b =>
        obtain ⟨b1, b2⟩ := hb b hl
        have hc := h2 n b (by omega) (by omega) hn b2
        show (if c n < c b then some n else some b) = (if c' n < c' b then some n else some b) ∧ ∀ x, (if c n < c b then some n else some b) = some x → x < n + 1 ∧ p x = true
        by_cases hx : c n < c b
        · rw [if_pos hx, if_pos (hc.mp hx)]
          exact ⟨rfl, fun x hx => by cases hx; exact ⟨by omega, hn⟩⟩
        · rw [if_neg hx, if_neg (fun z => hx (hc.mpr z))]
          exact ⟨rfl, fun x hx => by cases hx; exact ⟨by omega, b2⟩⟩
    · rw [if_neg hn, if_neg hn]
      exact ⟨rfl, fun b h => ⟨by have := (hb b h).1; omega, (hb b h).2⟩⟩
end
section
/-! what comes to a row of sets by an element: over addresses (the constants lie outside of the world) -/
abbrev rsB : Type := Nat × List Value × Nat × ClassId × (Nat → Int64)
def rs_at (a : rsB) (h : fH) : Prop := h a.1 = some (.inr (1, a.2.1)) ∧ a.2.1.getD 0 .null = .ref a.2.2.1 ∧ h a.2.2.1 = some (.inl (a.2.2.2.1, 64, .inr (.inl a.2.2.2.2)))
theorem n64_t : ∀ n, n < 64 → (Int32.ofNat n).toInt = (n : Int) := by decide +kernel
theorem rs_b0 : ∀ j, j < 6 → ∀ r, r < 64 → ((Int32.ofNat r >>> ((Int32.ofNat (6 + j) - Int32.ofInt 6) &&& 31)) &&& Int32.ofInt 1).toInt = (if r.testBit j = true then 1 else 0) := by decide +kernel
theorem rs_i0 : ∀ j, j < 6 → ∀ r, r < 64 → (Int32.ofNat r - (Int32.ofInt 1 <<< ((Int32.ofNat (6 + j) - Int32.ofInt 6) &&& 31))).toInt = (r : Int) - ((2 ^ j : Nat) : Int) := by decide +kernel
theorem rs_b (k : Nat) (h6 : 6 ≤ k) (hk : k < 12) (r : Nat) (hr : r < 64) : ((Int32.ofNat r >>> ((Int32.ofNat k - Int32.ofInt 6) &&& 31)) &&& Int32.ofInt 1).toInt = (if r.testBit (k - 6) = true then 1 else 0) := by
  have h := rs_b0 (k - 6) (by omega) r hr
  rw [show 6 + (k - 6) = k by omega] at h
  exact h
theorem rs_i (k : Nat) (h6 : 6 ≤ k) (hk : k < 12) (r : Nat) (hr : r < 64) : (Int32.ofNat r - (Int32.ofInt 1 <<< ((Int32.ofNat k - Int32.ofInt 6) &&& 31))).toInt = (r : Int) - ((2 ^ (k - 6) : Nat) : Int) := by
  have h := rs_i0 (k - 6) (by omega) r hr
  rw [show 6 + (k - 6) = k by omega] at h
  exact h
abbrev rsA : Type := rsB × Nat × Nat
set_option maxHeartbeats 4000000 in
theorem s_X1_raised : f_do r_X1_raised (fun As h rv h' => ∀ a : rsA, As = [.ref a.1.1, .int (Int32.ofNat a.2.1), .int (Int32.ofNat a.2.2)] → (rs_at a.1 h ∧ a.2.1 < 12 ∧ a.2.2 < 64) → rv = some (.long (rz a.1.2.2.2.2 a.2.1 a.2.2)) ∧ h' = h) := by
  refine do_ofP (fun a : rsA => [.ref a.1.1, .int (Int32.ofNat a.2.1), .int (Int32.ofNat a.2.2)]) (fun a h => rs_at a.1 h ∧ a.2.1 < 12 ∧ a.2.2 < 64) (fun a h rv h' => rv = some (.long (rz a.1.2.2.2.2 a.2.1 a.2.2)) ∧ h' = h) [] (fun _ _ => []) 60 fo_X1 no_sp k_X1_raised (fun _ _ _ => no_hd) (fun a h0 hp => ?_)
  obtain ⟨⟨p, fs, a, cA, f⟩, k, r⟩ := a
  obtain ⟨⟨hp, h0a, ha⟩, hk, hr⟩ := hp
  have hp : h0 p = some (.inr (1, fs)) := hp
  have h0a : fs.getD 0 .null = .ref a := h0a
  have ha : h0 a = some (.inl (cA, 64, .inr (.inl f))) := ha
  have hk : k < 12 := hk
  have hr : r < 64 := hr
  have tk := n64_t k (by omega)
  have tr := n64_t r hr
  have g1 : eG fl_X1 13 (h0 p) = .ref a := by
    rw [hp, ← h0a]
    rfl
  have ej : ∀ x, eJ (h0 (rv_ (eG fl_X1 13 (h0 p)))) x = f x := fun x => by
    rw [g1]
    show eJ (h0 a) x = f x
    rw [ha]
    rfl
  have e1 : (Int32.ofInt 1).toInt = 1 := by decide
  refine ⟨fun h1 => ?_, fun h1 => ?_⟩
  · have h1 : (Int32.ofNat k).toInt < 0 := h1
    omega
  intro q hq
  have hq : h0 q = none := hq
  refine ⟨fun h6 => ?_, fun h6 => ?_⟩
  · have h6 : (Int32.ofNat (eL (h0 q))).toInt ≤ (Int32.ofNat k).toInt := h6
    rw [hq] at h6
    have h6 : (Int32.ofNat 6).toInt ≤ (Int32.ofNat k).toInt := h6
    rw [n64_t 6 (by decide)] at h6
    have hb0 := rs_b k (by omega) hk r hr
    have hi0 := rs_i k (by omega) hk r hr
    refine ⟨fun hb => ?_, fun hb => ⟨fun hi => ?_, fun hi => ?_⟩⟩
    · have hb : ¬ ((Int32.ofNat r >>> ((Int32.ofNat k - Int32.ofInt 6) &&& 31)) &&& Int32.ofInt 1).toInt = (Int32.ofInt 1).toInt := hb
      rw [hb0, e1] at hb
      have hz : ¬ r.testBit (k - 6) = true := fun z => hb (if_pos z)
      refine ⟨?_, rfl⟩
      show some (Value.long 0) = some (.long (rz f k r))
      unfold rz
      rw [if_neg (by omega), if_neg hz]
    · have hb : ¬ ¬ ((Int32.ofNat r >>> ((Int32.ofNat k - Int32.ofInt 6) &&& 31)) &&& Int32.ofInt 1).toInt = (Int32.ofInt 1).toInt := hb
      rw [hb0, e1] at hb
      have hi : (Int32.ofNat r - (Int32.ofInt 1 <<< ((Int32.ofNat k - Int32.ofInt 6) &&& 31))).toInt < 0 := hi
      rw [hi0] at hi
      by_cases hz : r.testBit (k - 6) = true
      · have := Nat.ge_two_pow_of_testBit hz
        omega
      · rw [if_neg hz] at hb
        exact absurd (by decide) hb
    · have hb : ¬ ¬ ((Int32.ofNat r >>> ((Int32.ofNat k - Int32.ofInt 6) &&& 31)) &&& Int32.ofInt 1).toInt = (Int32.ofInt 1).toInt := hb
      rw [hb0, e1] at hb
      have hz : r.testBit (k - 6) = true := by
        cases z : r.testBit (k - 6) with
        | true => rfl
        | false =>
          rw [z] at hb
          exact absurd (by decide) hb
      refine ⟨?_, rfl⟩
      show some (Value.long (eJ (h0 (rv_ (eG fl_X1 13 (h0 p)))) (Int32.ofNat r - (Int32.ofInt 1 <<< ((Int32.ofNat k - Int32.ofInt 6) &&& 31))).toNatClampNeg)) = some (.long (rz f k r))
      rw [ej]
      unfold rz
      rw [if_neg (by omega), if_pos hz]
      show some (Value.long (f (Int32.ofNat r - (Int32.ofInt 1 <<< ((Int32.ofNat k - Int32.ofInt 6) &&& 31))).toInt.toNat)) = _
      rw [hi0]
      have hge := Nat.ge_two_pow_of_testBit hz
      rw [show ((r : Int) - ((2 ^ (k - 6) : Nat) : Int)).toNat = r - 2 ^ (k - 6) by omega]
  · have h6 : ¬ (Int32.ofNat (eL (h0 q))).toInt ≤ (Int32.ofNat k).toInt := h6
    rw [hq] at h6
    have h6 : ¬ (Int32.ofNat 6).toInt ≤ (Int32.ofNat k).toInt := h6
    rw [n64_t 6 (by decide)] at h6
    intro q2 hq2
    have hq2 : h0 q2 = none := hq2
    refine ⟨?_, rfl⟩
    show some (Value.long ((eJ (h0 (rv_ (eG fl_X1 13 (h0 p)))) (Int32.ofNat r).toNatClampNeg &&& (eJ (h0 q2) (Int32.ofNat k).toNatClampNeg ^^^ Int64.ofInt (-1))) <<< ((Int32.ofInt 1 <<< (Int32.ofNat k &&& 31)).toInt64 &&& 63))) = some (.long (rz f k r))
    rw [ej, hq2]
    show some (Value.long ((f (Int32.ofNat r).toInt.toNat &&& (fw_v (Int32.ofNat k).toInt.toNat ^^^ Int64.ofInt (-1))) <<< ((Int32.ofInt 1 <<< (Int32.ofNat k &&& 31)).toInt64 &&& 63))) = some (.long (rz f k r))
    rw [tk, tr]
    unfold rz
    rw [if_pos (by omega)]
    rfl
/-- a call that leaves all as it is -/
theorem fq_same {TT : List ck_D} {SG : List Nat} {rt : Nat} {Wr : List (Nat × Nat)} {T : fT} {cc : ByteArray} {As : List Value} {ws : va_W} {sh : List Nat} {rv : Option Value} {ws' : va_W} {sh' : List Nat} (hx : fq TT SG rt Wr T cc As ws sh rv ws' sh') (h : hof ws' = hof ws) : ws' = ws ∧ sh' = sh := by
  obtain ⟨-, hd, hd', hex, ⟨tys, hw, hw'⟩, -⟩ := hx
  have hlen : ws'.length = ws.length := by
    have hle : ws.length ≤ ws'.length := by
      cases hl : ws.length with
      | zero => exact Nat.zero_le _
      | succ n =>
        have hn : n < ws.length := by omega
        obtain ⟨e', h1, -⟩ := hex.2 n (ws[n]'hn).1 (ws[n]'hn).2 (sh[n]'(by rw [hw.1]; exact hn)) (List.getElem?_eq_getElem hn) (List.getElem?_eq_getElem _)
        have := (List.getElem?_eq_some_iff.mp h1).1
        omega
    refine Nat.le_antisymm (Nat.le_of_not_lt (fun hlt => ?_)) hle
    have h1 : ws'[ws.length]? = some (ws'[ws.length]'hlt) := List.getElem?_eq_getElem hlt
    have h2 := hof_at (q := ws.length) (p := (ws'[ws.length]'hlt).1) (e := (ws'[ws.length]'hlt).2) hd' h1
    rw [h] at h2
    obtain ⟨q, h3⟩ := hof_some h2
    have hq := (List.getElem?_eq_some_iff.mp h3).1
    obtain ⟨e', h4, -⟩ := hex.2 q _ _ (sh[q]'(by rw [hw.1]; exact hq)) h3 (List.getElem?_eq_getElem _)
    have h5 := hd' q ws.length _ _ h4 h1 rfl
    omega
  refine ⟨List.ext_getElem? (fun q => ?_), List.ext_getElem? (fun q => ?_)⟩
  · by_cases hq : q < ws.length
    · have h0 : ws[q]? = some (ws[q]'hq) := List.getElem?_eq_getElem hq
      obtain ⟨e', h1, -⟩ := hex.2 q (ws[q]'hq).1 (ws[q]'hq).2 (sh[q]'(by rw [hw.1]; exact hq)) h0 (List.getElem?_eq_getElem _)
      have h2 := hof_at hd' h1
      have h3 : hof ws (ws[q]'hq).1 = some (ws[q]'hq).2 := hof_at hd h0
      rw [h, h3] at h2
      have h2 := Option.some.inj h2
      rw [h1, h0, ← h2]
    · rw [List.getElem?_eq_none (by omega), List.getElem?_eq_none (by omega)]
  · have e1 := hw.1
    have e2 := hw'.1
    by_cases hq : q < sh.length
    · have h0 : sh[q]? = some (sh[q]'hq) := List.getElem?_eq_getElem hq
      rw [hex.1 q _ h0, h0]
    · rw [List.getElem?_eq_none (by omega), List.getElem?_eq_none (by omega)]
/-- what comes to the family's rows -/
def zq_raised : zQ := zpu (fun a : Nat × Nat => [.ref 199, .int (Int32.ofNat a.1), .int (Int32.ofNat a.2)]) (fun a _ => a.1 < 12 ∧ a.2 < 64) (fun a A => .long (rz (zJ A 200) a.1 a.2))
set_option maxRecDepth 20000 in
theorem za_X1_raised : zdo r_X1_raised zq_raised := by
  intro As ws sh rv ws' sh' hx
  refine ⟨zx_fq hx, fun A Us K hA hv hP => ?_⟩
  obtain ⟨⟨k, r⟩, rfl, ⟨hk, hr⟩, hK⟩ := hP
  have hw0 := hx.2.2.2.2.1
  obtain ⟨tys, hw, -⟩ := hw0
  cases As with
  | nil => exact hv.elim
  | cons a1 As =>
  obtain ⟨h1, hv⟩ := hv
  cases As with
  | nil => exact hv.elim
  | cons a2 As =>
  obtain ⟨h2, hv⟩ := hv
  cases As with
  | nil => exact hv.elim
  | cons a3 As =>
  obtain ⟨h3, hv⟩ := hv
  cases As with
  | cons a4 As => exact hv.elim
  | nil =>
  obtain ⟨p, e, rfl, hp⟩ := h1
  have h2 : a2 = .int (Int32.ofNat k) := h2
  have h3 : a3 = .int (Int32.ofNat r) := h3
  subst h2
  subst h3
  obtain ⟨hs, he⟩ := hA.2.2 199 p e hp
  obtain ⟨td, t1, t2⟩ := hw.2.1 199 p e _ hp hs
  have t1 : cw_TT[5]? = some td := t1
  have e1 : td = (0, 1, 0, [(2, 0, 0, [6])]) := Option.some.inj (t1.symm.trans rfl)
  subst e1
  obtain ⟨fs, rfl, hl, hf⟩ := t2
  obtain ⟨v, v1, v2⟩ := hf 0 (2, 0, 0, [6]) rfl
  have z1 : zvr ws v (.ref 200) := he.2 0 v v1
  obtain ⟨a, ea, rfl, ha⟩ := z1
  obtain ⟨hs2, he2⟩ := hA.2.2 200 a ea ha
  obtain ⟨td2, t3, t4⟩ := hw.2.1 200 a ea _ ha hs2
  have t3 : cw_TT[6]? = some td2 := t3
  have e2 : td2 = (2, 64, 1, []) := Option.some.inj (t3.symm.trans rfl)
  subst e2
  obtain ⟨cA, f, -, rfl⟩ := t4
  have zf : zJ A 200 = f := funext he2.2
  obtain ⟨-, sp⟩ := s_X1_raised _ _ _ _ _ _ hx
  obtain ⟨er, eh⟩ := sp ((p, fs, a, cA, f), k, r) rfl ⟨⟨hof_at hA.1 hp, by rw [List.getD_eq_getElem?_getD, v1]; rfl, hof_at hA.1 ha⟩, hk, hr⟩
  obtain ⟨rfl, rfl⟩ := fq_same hx eh
  have hK : K (some (.long (rz (zJ A 200) k r))) A := hK
  rw [zf] at hK
  exact ⟨A, some (.long (rz f k r)), hA, by rw [er]; exact ⟨rfl, trivial⟩, hK⟩
end
section
/-! sets of sets, over places: clear, add -/
theorem fo_J7z : f_ok5 fl_J7 pl_J7 nw_J7 kl_J7 il_J7 = true := by decide +kernel
def zfi (A : zW) (q n : Nat) (v : Int64) : zW := zsJ A q (fun x => if x < n then v else zJ A q x)
def zq_fillJ : zQ := zfu (fun a : Nat × Nat × Int64 => [.ref a.1, .long a.2.2]) (fun a A => zkd A a.1 = a.2.1 ∧ a.2.1 ≤ 64) (fun _ _ => none) (fun a A => zfi A a.1 a.2.1 a.2.2)
def in_zfi (A : zW) (q n : Nat) (v : Int64) : fL_ → List Value → zW → Prop := fun lg vs A' => ∃ t : Int32, f_sub [(3, false, .int t), (4, false, .int (Int32.ofNat n)), (0, false, .ref q), (1, true, .long v)] lg ∧ vs = [] ∧ A' = zsJ A q (fun x => if x < t.toInt.toNat then v else zJ A q x) ∧ 0 ≤ t.toInt ∧ t.toInt ≤ (n : Int)
set_option maxRecDepth 20000 in
set_option maxHeartbeats 4000000 in
theorem za_J7_fillJ : zdo r_J7_fill_d0a16 zq_fillJ := by
  refine zdo_fu [] (fun a A => [(6, in_zfi A a.1 a.2.1 a.2.2)]) 60 fo_J7z rfl zs_nil k_J7_fill_d0a16 (fun a A hp => ?_) (fun a A hp => ?_)
  · obtain ⟨q, n, v⟩ := a
    obtain ⟨hB, hn⟩ := hp
    have hn : n ≤ 64 := hn
    refine List.forall_mem_cons.mpr ⟨?_, fun _ h => absurd h List.not_mem_nil⟩
    rintro lg vs A' ⟨t, hs, rfl, rfl, t0, t1⟩
    have t1 : t.toInt ≤ (n : Int) := t1
    have en := e32N hn
    refine ⟨_, 60, hs, fun h => ?_, fun h => ?_⟩
    · have h : (Int32.ofNat n).toInt ≤ t.toInt := h
      rw [en] at h
      refine ⟨rfl, zsJ_ext (fun x => ?_)⟩
      show (if x < t.toInt.toNat then v else zJ A q x) = if x < n then v else zJ A q x
      rw [show t.toInt.toNat = n by omega]
    · have h : ¬ (Int32.ofNat n).toInt ≤ t.toInt := h
      rw [en] at h
      have hi := i_inc t0 (by omega)
      refine ⟨t + 1, ⟨rfl, rfl, rfl, rfl, trivial⟩, rfl, ?_, (show 0 ≤ (t + 1).toInt by omega), (show (t + 1).toInt ≤ (n : Int) by omega)⟩
      show zuJ (zsJ A q (fun x => if x < t.toInt.toNat then v else zJ A q x)) q t.toInt.toNat v = _
      refine zuJ_zsJ (fun x => ?_)
      show _ = if x = t.toInt.toNat then v else _
      by_cases ex : x = t.toInt.toNat
      · rw [if_pos ex, if_pos (by omega)]
      · rw [if_neg ex]
        by_cases hx : x < t.toInt.toNat
        · rw [if_pos hx, if_pos (by omega)]
        · rw [if_neg hx, if_neg (by omega)]
  · obtain ⟨q, n, v⟩ := a
    obtain ⟨hB, hn⟩ := hp
    have hB : zkd A q = n := hB
    refine ⟨0, ⟨rfl, ?_, rfl, rfl, trivial⟩, rfl, (zsJ_self (fun x => ?_)).symm, by decide, ?_⟩
    · show some (false, Value.int (Int32.ofNat (zkd A q))) = some (false, .int (Int32.ofNat n))
      rw [hB]
    · rw [if_neg (show ¬ x < (0 : Int32).toInt.toNat from fun z => absurd z (Nat.not_lt_zero x))]
    · have e0 : (0 : Int32).toInt = 0 := by decide
      rw [e0]
      omega
def zq_clear : zQ := zfu (fun a : Nat × Nat => [.ref a.1]) (fun a _ => zB a.1 a.2 = true ∧ a.2 ≤ 64) (fun _ _ => none) (fun a A => zfi A (a.1 + 1) a.2 (Int64.ofNat 0))
set_option maxRecDepth 20000 in
theorem za_X1_clear : zdo r_X1_clear zq_clear := by
  refine zdo_fu [(58, 2, zq_fillJ)] (fun _ _ => []) 40 fo_X1 rfl (zs_cons rfl za_J7_fillJ zs_nil) k_X1_clear (fun _ _ _ => no_zh) (fun a A hp => ?_)
  obtain ⟨q, n⟩ := a
  obtain ⟨hB, hn⟩ := hp
  have hB : zB q n = true := hB
  have hn : n ≤ 64 := hn
  refine ⟨(q + 1, n, Int64.ofNat 0), ?_, ⟨(zB_at hB A).2.2, hn⟩, rfl, rfl⟩
  show [zfl A q (kfd fl_X1 13 (zkd A q)), Value.long (Int64.ofNat 0)] = _
  rw [zB_f hB]
theorem zB_n {q n : Nat} (h : zB q n = true) : n ≤ 49152 := by
  have h1 : ∀ t, zn zt_k t ≤ 49152 := fun t => by
    by_cases c : t < 94
    · have h2 : (List.range 94).all (fun t => decide (zn zt_k t ≤ 49152)) = true := by decide +kernel
      exact of_decide_eq_true (List.all_eq_true.mp h2 t (List.mem_range.mpr c))
    · have h3 : ∀ (l : List Nat) (t : Nat), l.length ≤ t → zn l t = 0 := fun l => by
        induction l with
        | nil => exact fun _ _ => rfl
        | cons x l ih =>
          intro t ht
          cases t with
          | zero => exact absurd ht (Nat.not_succ_le_zero _)
          | succ t => exact ih t (Nat.le_of_succ_le_succ ht)
      rw [h3 zt_k t (by rw [show zt_k.length = 94 by decide]; omega)]
      exact Nat.zero_le _
  unfold zB at h
  rw [Bool.and_eq_true, Bool.and_eq_true, Bool.and_eq_true] at h
  have h4 : zkT (q + 1) = n := of_decide_eq_true h.2.2.2
  rw [← h4]
  exact h1 _
/-- a set comes -/
def zad (A : zW) (q S : Nat) : zW := zuJ A (q + 1) (S / 64) (zJ A (q + 1) (S / 64) ||| (Int64.ofNat 1 <<< ((Int32.ofNat (S % 64)).toInt64 &&& 63)))
def zq_add : zQ := zfu (fun a : Nat × Nat × Nat => [.ref a.1, .int (Int32.ofNat a.2.2)]) (fun a _ => zB a.1 a.2.1 = true ∧ a.2.2 / 64 < a.2.1 ∧ a.2.2 < 4096) (fun _ _ => none) (fun a A => zad A a.1 a.2.2)
set_option maxRecDepth 20000 in
set_option maxHeartbeats 4000000 in
theorem za_X1_add : zdo r_X1_add zq_add := by
  refine zdo_fu [] (fun _ _ => []) 60 fo_X1 rfl zs_nil k_X1_add (fun _ _ _ => no_zh) (fun a A hp => ?_)
  obtain ⟨q, n, S⟩ := a
  obtain ⟨hB, hn, hS⟩ := hp
  have hB : zB q n = true := hB
  have hn : S / 64 < n := hn
  have hS : S < 4096 := hS
  have s6 := i32_s6 S hS
  have s63 := i32_63 S hS
  have ts := n64_t (S / 64) (by omega)
  have g := zB_f hB A
  have l := zB_l hB A
  refine ⟨fun h => ?_, fun h => ⟨fun h2 => ?_, fun h2 => ?_⟩⟩
  · have h : (Int32.ofNat S >>> (Int32.ofInt 6 &&& 31)).toInt < 0 := h
    rw [s6, ts] at h
    omega
  · have h2 : (Int32.ofNat (zkd A (rv_ (zfl A q (kfd fl_X1 13 (zkd A q)))))).toInt ≤ (Int32.ofNat S >>> (Int32.ofInt 6 &&& 31)).toInt := h2
    have hn64 : n ≤ 49152 := zB_n hB
    have en : (Int32.ofNat n).toInt = (n : Int) := Int32.toInt_ofNat_of_lt (by omega)
    rw [l, s6, en, ts] at h2
    omega
  · refine ⟨rfl, ?_⟩
    show zuJ A (rv_ (zfl A q (kfd fl_X1 13 (zkd A q)))) (Int32.ofNat S >>> (Int32.ofInt 6 &&& 31)).toInt.toNat (zJ A (rv_ (zfl A q (kfd fl_X1 13 (zkd A q)))) (Int32.ofNat S >>> (Int32.ofInt 6 &&& 31)).toInt.toNat ||| (Int64.ofNat 1 <<< ((Int32.ofNat S &&& Int32.ofInt 63).toInt64 &&& 63))) = zad A q S
    rw [g, s6, s63, ts]
    rfl
end
section
/-! numbers as sets; how many there are -/
theorem n32_bit {a i : Nat} (hi : i < 32) : (Int32.ofNat a).toBitVec.getLsbD i = a.testBit i := by
  show (BitVec.ofNat 32 a).getLsbD i = _
  rw [BitVec.getLsbD_ofNat, decide_eq_true hi, Bool.true_and]
theorem n32_ext {x y : Int32} (h : ∀ i, i < 32 → x.toBitVec.getLsbD i = y.toBitVec.getLsbD i) : x = y := Int32.toBitVec_inj.mp (BitVec.eq_of_getLsbD_eq h)
theorem n32_and (a b : Nat) : Int32.ofNat a &&& Int32.ofNat b = Int32.ofNat (a &&& b) := n32_ext (fun i hi => by
  rw [Int32.toBitVec_and, BitVec.getLsbD_and, n32_bit hi, n32_bit hi, n32_bit hi, Nat.testBit_and])
theorem n32_or (a b : Nat) : Int32.ofNat a ||| Int32.ofNat b = Int32.ofNat (a ||| b) := n32_ext (fun i hi => by
  rw [Int32.toBitVec_or, BitVec.getLsbD_or, n32_bit hi, n32_bit hi, n32_bit hi, Nat.testBit_or])
theorem n32_xor (a b : Nat) : Int32.ofNat a ^^^ Int32.ofNat b = Int32.ofNat (a ^^^ b) := n32_ext (fun i hi => by
  rw [Int32.toBitVec_xor, BitVec.getLsbD_xor, n32_bit hi, n32_bit hi, n32_bit hi, Nat.testBit_xor])
theorem n32_m1 : ∀ i, i < 32 → (Int32.ofInt (-1)).toBitVec.getLsbD i = true := by decide +kernel
/-- the one without the other -/
def dfN (a b : Nat) : Nat := a ^^^ (a &&& b)
theorem dfN_b {a b i : Nat} : (dfN a b).testBit i = (a.testBit i && !b.testBit i) := by
  unfold dfN
  rw [Nat.testBit_xor, Nat.testBit_and]
  cases a.testBit i <;> cases b.testBit i <;> rfl
theorem n32_dif (a b : Nat) : Int32.ofNat a &&& (Int32.ofNat b ^^^ Int32.ofInt (-1)) = Int32.ofNat (dfN a b) := n32_ext (fun i hi => by
  rw [Int32.toBitVec_and, BitVec.getLsbD_and, Int32.toBitVec_xor, BitVec.getLsbD_xor, n32_bit hi, n32_bit hi, n32_bit hi, n32_m1 i hi, dfN_b]
  cases a.testBit i <;> cases b.testBit i <;> rfl)
theorem n32_1 : ∀ e, e < 13 → Int32.ofInt 1 <<< (Int32.ofNat e &&& 31) = Int32.ofNat (2 ^ e) := by decide +kernel
theorem n32_1t : ∀ e, e < 13 → (Int32.ofInt 1 <<< (Int32.ofNat e &&& 31)).toInt = ((2 ^ e : Nat) : Int) := by decide +kernel
theorem n32_t {a : Nat} (h : a < 4096) : (Int32.ofNat a).toInt = (a : Int) := Int32.toInt_ofNat_of_lt (by omega)
theorem n32_i {a b : Nat} (ha : a < 4096) (hb : b < 4096) (h : Int32.ofNat a = Int32.ofNat b) : a = b := by
  have h1 := congrArg Int32.toInt h
  rw [n32_t ha, n32_t hb] at h1
  omega
theorem n32_zbi {a e : Nat} (he : e < 32) : zbi (Int32.ofNat a) e = a.testBit e := n32_bit he
/-- sets by what is in them -/
def vwN (P : Nat → Bool) : Nat → Nat
  | 0 => 0
  | n + 1 => vwN P n + (if P n = true then 2 ^ n else 0)
theorem vwN_lt {P : Nat → Bool} : ∀ {n : Nat}, vwN P n < 2 ^ n
  | 0 => (by decide : 0 < 1)
  | n + 1 => by
    have h := vwN_lt (P := P) (n := n)
    have h2 : 2 ^ (n + 1) = 2 ^ n + 2 ^ n := by rw [Nat.pow_succ]; omega
    show vwN P n + (if P n = true then 2 ^ n else 0) < 2 ^ (n + 1)
    split <;> omega
theorem add_b {x n i : Nat} (h : x < 2 ^ n) : (x + 2 ^ n).testBit i = (x.testBit i || decide (i = n)) := by
  have e : x + 2 ^ n = 2 ^ n * 1 + x := by omega
  rw [e, Nat.testBit_two_pow_mul_add 1 h]
  by_cases c : i < n
  · rw [if_pos c, decide_eq_false (show ¬ i = n by omega), Bool.or_false]
  · rw [if_neg c]
    have hx : x.testBit i = false := Nat.testBit_lt_two_pow (Nat.lt_of_lt_of_le h (Nat.pow_le_pow_right (by decide) (by omega)))
    rw [hx, Bool.false_or]
    by_cases d : i = n
    · subst d
      rw [Nat.sub_self, decide_eq_true rfl]
      rfl
    · rw [decide_eq_false d]
      exact Nat.testBit_lt_two_pow (show 1 < 2 ^ (i - n) from Nat.lt_of_lt_of_le (by decide : 1 < 2 ^ 1) (Nat.pow_le_pow_right (by decide) (by omega)))
theorem vwN_b {P : Nat → Bool} : ∀ {n i : Nat}, (vwN P n).testBit i = (decide (i < n) && P i)
  | 0, i => by
    show (0 : Nat).testBit i = _
    rw [Nat.zero_testBit, decide_eq_false (Nat.not_lt_zero i), Bool.false_and]
  | n + 1, i => by
    show (vwN P n + (if P n = true then 2 ^ n else 0)).testBit i = _
    by_cases hp : P n = true
    · rw [if_pos hp, add_b vwN_lt, vwN_b]
      by_cases d : i = n
      · subst d
        rw [decide_eq_true rfl, Bool.or_true, decide_eq_true (Nat.lt_succ_self i), hp]
        rfl
      · rw [decide_eq_false d, Bool.or_false]
        by_cases c : i < n
        · rw [decide_eq_true c, decide_eq_true (show i < n + 1 by omega)]
        · rw [decide_eq_false c, decide_eq_false (show ¬ i < n + 1 by omega)]
    · rw [if_neg hp, Nat.add_zero, vwN_b]
      by_cases d : i = n
      · subst d
        rw [Bool.eq_false_iff.mpr hp, Bool.and_false, Bool.and_false]
      · by_cases c : i < n
        · rw [decide_eq_true c, decide_eq_true (show i < n + 1 by omega)]
        · rw [decide_eq_false c, decide_eq_false (show ¬ i < n + 1 by omega)]
theorem or_p2 {x n : Nat} (h : x < 2 ^ n) : x ||| 2 ^ n = x + 2 ^ n := Nat.eq_of_testBit_eq (fun i => by
  rw [Nat.testBit_or, add_b h, Nat.testBit_two_pow]
  by_cases d : i = n
  · rw [decide_eq_true d, decide_eq_true d.symm]
  · rw [decide_eq_false d, decide_eq_false (fun z => d z.symm)])
theorem n32_vw {P : Nat → Bool} {n : Nat} (hn : n < 13) (hp : P n = true) : Int32.ofNat (vwN P n) ||| (Int32.ofInt 1 <<< (Int32.ofNat n &&& 31)) = Int32.ofNat (vwN P (n + 1)) := by
  rw [n32_1 n hn, n32_or, or_p2 vwN_lt]
  show _ = Int32.ofNat (vwN P n + (if P n = true then 2 ^ n else 0))
  rw [if_pos hp]
theorem vwN_s {P : Nat → Bool} {n : Nat} (hp : ¬ P n = true) : vwN P (n + 1) = vwN P n := by
  show vwN P n + (if P n = true then 2 ^ n else 0) = _
  rw [if_neg hp, Nat.add_zero]
theorem vwN_eq {P Q : Nat → Bool} : ∀ {n : Nat}, (∀ i, i < n → P i = Q i) → vwN P n = vwN Q n
  | 0, _ => rfl
  | n + 1, h => by
    show vwN P n + (if P n = true then 2 ^ n else 0) = vwN Q n + (if Q n = true then 2 ^ n else 0)
    rw [vwN_eq (fun i hi => h i (by omega)), h n (by omega)]
theorem p2_le : ∀ n, n < 13 → 2 ^ n ≤ 4096 := by decide
/-- how many -/
def cN (p : Nat → Bool) : Nat → Nat
  | 0 => 0
  | n + 1 => cN p n + (if p n = true then 1 else 0)
theorem cN_eq {p q : Nat → Bool} : ∀ {n : Nat}, (∀ i, i < n → p i = q i) → cN p n = cN q n
  | 0, _ => rfl
  | n + 1, h => by
    show cN p n + (if p n = true then 1 else 0) = cN q n + (if q n = true then 1 else 0)
    rw [cN_eq (fun i hi => h i (by omega)), h n (by omega)]
theorem cN_le {p : Nat → Bool} : ∀ {n : Nat}, cN p n ≤ n
  | 0 => Nat.le_refl _
  | n + 1 => by
    have h := cN_le (p := p) (n := n)
    show cN p n + (if p n = true then 1 else 0) ≤ n + 1
    split <;> omega
theorem cN_add {p : Nat → Bool} {m : Nat} : ∀ {k : Nat}, cN p (m + k) = cN p m + cN (fun i => p (m + i)) k
  | 0 => rfl
  | k + 1 => by
    show cN p (m + k) + (if p (m + k) = true then 1 else 0) = cN p m + (cN (fun i => p (m + i)) k + (if p (m + k) = true then 1 else 0))
    rw [cN_add (k := k)]
    omega
theorem cN_mono {p : Nat → Bool} {m n : Nat} (h : m ≤ n) : cN p m ≤ cN p n := by
  obtain ⟨k, rfl⟩ : ∃ k, n = m + k := ⟨n - m, by omega⟩
  rw [cN_add]
  omega
theorem cN_none {p : Nat → Bool} {m : Nat} : ∀ {k : Nat}, (∀ i, m ≤ i → i < m + k → ¬ p i = true) → cN p (m + k) = cN p m
  | 0, _ => rfl
  | k + 1, h => by
    show cN p (m + k) + (if p (m + k) = true then 1 else 0) = cN p m
    rw [if_neg (h (m + k) (by omega) (by omega)), cN_none (fun i a b => h i a (by omega)), Nat.add_zero]
/-- if there are more, there is a next one -/
theorem cN_next {p : Nat → Bool} {m : Nat} : ∀ {k : Nat}, cN p m < cN p (m + k) → ∃ S, m ≤ S ∧ S < m + k ∧ p S = true ∧ ∀ i, m ≤ i → i < S → ¬ p i = true
  | 0, h => absurd h (Nat.lt_irrefl _)
  | k + 1, h => by
    by_cases hk : cN p m < cN p (m + k)
    · obtain ⟨S, h1, h2, h3, h4⟩ := cN_next hk
      exact ⟨S, h1, by omega, h3, h4⟩
    · have h : cN p m < cN p (m + k) + (if p (m + k) = true then 1 else 0) := h
      have hp : p (m + k) = true := by
        by_cases c : p (m + k) = true
        · exact c
        · rw [if_neg c] at h
          omega
      refine ⟨m + k, by omega, by omega, hp, fun i a b c => ?_⟩
      obtain ⟨j, rfl⟩ : ∃ j, i = m + j := ⟨i - m, by omega⟩
      have e1 : cN p (m + j + 1) = cN p (m + j) + 1 := by
        show cN p (m + j) + (if p (m + j) = true then 1 else 0) = _
        rw [if_pos c]
      have e2 := cN_mono (p := p) (show m + j + 1 ≤ m + k by omega)
      have e3 := cN_mono (p := p) (show m ≤ m + j by omega)
      omega
theorem pcN_cN {n : Nat} : ∀ {k : Nat}, pcN k n = cN (fun i => n.testBit i) k
  | 0 => rfl
  | k + 1 => by
    show pcN k n + n / 2 ^ k % 2 = cN (fun i => n.testBit i) k + (if n.testBit k = true then 1 else 0)
    rw [pcN_cN, Nat.testBit_eq_decide_div_mod_eq]
    have h : n / 2 ^ k % 2 = 0 ∨ n / 2 ^ k % 2 = 1 := by omega
    rcases h with h | h <;> rw [h] <;> rfl
theorem nL_b {x : Int64} {i : Nat} : (nL x).testBit i = x.toBitVec.getLsbD i := BitVec.testBit_toNat _
theorem bF_at {f : Nat → Int64} {k i : Nat} (hi : i < 64) : bF f (64 * k + i) = (f k).toBitVec.getLsbD i := by
  unfold bF
  rw [show (64 * k + i) / 64 = k by omega, show (64 * k + i) % 64 = i by omega]
theorem bc_cN {x : Int64} : (bcV x).toInt = (cN (fun i => x.toBitVec.getLsbD i) 64 : Nat) := by
  rw [bcV_eq, pcN_cN]
  have e : cN (fun i => (nL x).testBit i) 64 = cN (fun i => x.toBitVec.getLsbD i) 64 := cN_eq (fun i _ => nL_b)
  rw [e]
theorem szA_cN {f : Nat → Int64} : ∀ {k : Nat}, k ≤ 64 → (szA bcV f k).toInt = (cN (bF f) (64 * k) : Nat)
  | 0, _ => rfl
  | k + 1, h => by
    have ih := szA_cN (f := f) (k := k) (by omega)
    have h2 := bc_cN (x := f k)
    have e : cN (fun i => (f k).toBitVec.getLsbD i) 64 = cN (fun i => bF f (64 * k + i)) 64 := cN_eq (fun i hi => (bF_at hi).symm)
    have l1 := cN_le (p := bF f) (n := 64 * k)
    have l2 := cN_le (p := fun i => bF f (64 * k + i)) (n := 64)
    have ea : cN (bF f) (64 * k + 64) = cN (bF f) (64 * k) + cN (fun i => bF f (64 * k + i)) 64 := cN_add
    rw [e] at h2
    show (szA bcV f k + bcV (f k)).toInt = (cN (bF f) (64 * (k + 1)) : Nat)
    rw [show 64 * (k + 1) = 64 * k + 64 by omega, ea, i_add (by omega) (by omega), ih, h2]
    omega
/-- the lowest bit of a word -/
theorem cN_low {j : Nat} : ∀ {n : Nat}, cN (fun i => decide (i < j)) n = if n ≤ j then n else j
  | 0 => by rw [if_pos (Nat.zero_le _)]; rfl
  | n + 1 => by
    show cN (fun i => decide (i < j)) n + (if decide (n < j) = true then 1 else 0) = _
    rw [cN_low]
    by_cases h : n < j
    · rw [if_pos (by omega), if_pos (decide_eq_true h), if_pos (by omega)]
    · rw [if_neg (show ¬ decide (n < j) = true by rw [decide_eq_false h]; exact Bool.false_ne_true), if_neg (show ¬ n + 1 ≤ j by omega)]
      by_cases e : n ≤ j
      · rw [if_pos e]
        omega
      · rw [if_neg e]
        rfl
theorem pr_b {n j i : Nat} (h1 : n.testBit j = true) (h2 : ∀ i, i < j → n.testBit i = false) : (n - 1).testBit i = if i < j then true else if i = j then false else n.testBit i := by
  obtain ⟨a, b, hb, e⟩ : ∃ a b, b < 2 ^ j ∧ n = 2 ^ j * a + b := ⟨n / 2 ^ j, n % 2 ^ j, Nat.mod_lt _ (Nat.two_pow_pos j), (Nat.div_add_mod n (2 ^ j)).symm⟩
  have b0 : b = 0 := Nat.eq_of_testBit_eq (fun i => by
    rw [Nat.zero_testBit]
    by_cases hi : i < j
    · have h := h2 i hi
      rw [e, Nat.testBit_two_pow_mul_add a hb, if_pos hi] at h
      exact h
    · exact Nat.testBit_lt_two_pow (Nat.lt_of_lt_of_le hb (Nat.pow_le_pow_right (by decide) (by omega))))
  subst b0
  have ha : a.testBit 0 = true := by
    have h := h1
    rw [e, Nat.testBit_two_pow_mul_add a (Nat.two_pow_pos j), if_neg (Nat.lt_irrefl j), Nat.sub_self] at h
    exact h
  have a1 : a % 2 = 1 := by
    rw [Nat.testBit_zero] at ha
    exact of_decide_eq_true ha
  obtain ⟨c, hc⟩ : ∃ c, a = 2 * c + 1 := ⟨a / 2, by omega⟩
  have hp := Nat.two_pow_pos j
  have e1 : n - 1 = 2 ^ j * (2 * c) + (2 ^ j - 1) := by
    rw [e, hc, Nat.mul_add, Nat.mul_one]
    generalize 2 ^ j * (2 * c) = y
    omega
  rw [e1, Nat.testBit_two_pow_mul_add (2 * c) (by omega)]
  by_cases hi : i < j
  · rw [if_pos hi, if_pos hi, Nat.testBit_two_pow_sub_one, decide_eq_true hi]
  · rw [if_neg hi, if_neg hi]
    by_cases ej : i = j
    · rw [if_pos ej, ej, Nat.sub_self, Nat.testBit_zero]
      exact decide_eq_false (by omega)
    · rw [if_neg ej, e, Nat.testBit_two_pow_mul_add a hp, if_neg hi, hc]
      obtain ⟨k, hk⟩ : ∃ k, i - j = k + 1 := ⟨i - j - 1, by omega⟩
      rw [hk, Nat.testBit_succ, Nat.testBit_succ, show 2 * c / 2 = c by omega, show (2 * c + 1) / 2 = c by omega]
theorem m1_64 : ∀ i, i < 64 → (Int64.ofInt (-1)).toBitVec.getLsbD i = true := by decide +kernel
theorem one_64 : nL (Int64.ofNat 1) = 1 := by decide +kernel
/-- its place, as the class finds it -/
def lwV (x : Int64) : Int32 := bcV ((x ^^^ Int64.ofInt (-1)) &&& (x - Int64.ofNat 1))
theorem lwV_ok {x : Int64} {j : Nat} (hj : j < 64) (h1 : x.toBitVec.getLsbD j = true) (h2 : ∀ i, i < j → x.toBitVec.getLsbD i = false) : (lwV x).toInt = (j : Int) := by
  unfold lwV
  rw [bc_cN]
  have hn1 : (nL x).testBit j = true := by rw [nL_b]; exact h1
  have hge := Nat.ge_two_pow_of_testBit hn1
  have hp := Nat.two_pow_pos j
  have es : nL (x - Int64.ofNat 1) = nL x - 1 := by
    rw [nL_sub (by rw [one_64]; omega), one_64]
  have e : cN (fun i => ((x ^^^ Int64.ofInt (-1)) &&& (x - Int64.ofNat 1)).toBitVec.getLsbD i) 64 = cN (fun i => decide (i < j)) 64 := cN_eq (fun i hi => by
    show ((x ^^^ Int64.ofInt (-1)) &&& (x - Int64.ofNat 1)).toBitVec.getLsbD i = decide (i < j)
    rw [Int64.toBitVec_and, BitVec.getLsbD_and, Int64.toBitVec_xor, BitVec.getLsbD_xor, m1_64 i hi, ← nL_b (x := x - Int64.ofNat 1), es, pr_b hn1 (fun i hi => by rw [nL_b]; exact h2 i hi), nL_b]
    by_cases c : i < j
    · rw [if_pos c, decide_eq_true c, h2 i c]
      rfl
    · rw [if_neg c, decide_eq_false c]
      by_cases d : i = j
      · rw [if_pos d, Bool.and_false]
      · rw [if_neg d]
        cases x.toBitVec.getLsbD i <;> rfl)
  rw [e, cN_low, if_neg (by omega)]
theorem ms_sh : ∀ j, j < 64 → ∀ i, i < 64 → (Int64.ofInt (-1) <<< ((Int32.ofNat j).toInt64 &&& 63)).toBitVec.getLsbD i = decide (j ≤ i) := by decide +kernel
theorem l_zero {x : Int64} : x = Int64.ofNat 0 ↔ ∀ i, i < 64 → x.toBitVec.getLsbD i = false := by
  constructor
  · rintro rfl i hi
    show (BitVec.ofNat 64 0).getLsbD i = false
    rw [BitVec.getLsbD_ofNat, Nat.zero_testBit, Bool.and_false]
  · intro h
    refine Int64.toBitVec_inj.mp (BitVec.eq_of_getLsbD_eq (fun i hi => ?_))
    rw [h i hi]
    show false = (BitVec.ofNat 64 0).getLsbD i
    rw [BitVec.getLsbD_ofNat, Nat.zero_testBit, Bool.and_false]
/-- the int's count of bits, below 4096 -/
def icV (a : Int32) : Int32 :=
  let x1 := a - ((a.toUInt32 >>> ((Int32.ofInt 1).toUInt32 &&& Int32.toUInt32 31)).toInt32 &&& Int32.ofInt 1431655765)
  let x2 := (x1 &&& Int32.ofInt 858993459) + ((x1.toUInt32 >>> ((Int32.ofInt 2).toUInt32 &&& Int32.toUInt32 31)).toInt32 &&& Int32.ofInt 858993459)
  let x3 := (x2 + (x2.toUInt32 >>> ((Int32.ofInt 4).toUInt32 &&& Int32.toUInt32 31)).toInt32) &&& Int32.ofInt 252645135
  let x4 := x3 + (x3.toUInt32 >>> ((Int32.ofInt 8).toUInt32 &&& Int32.toUInt32 31)).toInt32
  let x5 := x4 + (x4.toUInt32 >>> ((Int32.ofInt 16).toUInt32 &&& Int32.toUInt32 31)).toInt32
  x5 &&& Int32.ofInt 63
theorem icV_q : ∀ q, q < 64 → ∀ r, r < 64 → icV (Int32.ofNat (64 * q + r)) = Int32.ofNat (pcN 12 (64 * q + r)) := by decide +kernel
theorem icV_ok {a : Nat} (h : a < 4096) : (icV (Int32.ofNat a)).toInt = (pcN 12 a : Nat) := by
  have h1 := icV_q (a / 64) (by omega) (a % 64) (by omega)
  rw [Nat.div_add_mod] at h1
  have h2 := pcN_le (k := 12) (n := a)
  rw [h1, Int32.toInt_ofNat_of_lt (by omega)]
theorem pc_64 {a : Nat} (h : a < 4096) : pcN 64 a = pcN 12 a := by
  rw [pcN_cN, pcN_cN]
  refine cN_none (m := 12) (k := 52) (fun i hi _ hb => ?_)
  have h2 : a < 2 ^ i := Nat.lt_of_lt_of_le (show a < 2 ^ 12 from h) (Nat.pow_le_pow_right (by decide) (by omega))
  rw [Nat.testBit_lt_two_pow h2] at hb
  cases hb
theorem nL_i {a : Nat} (h : a < 4096) : nL (Int32.ofNat a).toInt64 = a := by
  have h1 : (Int32.ofNat a).toInt64.toInt = (a : Int) := by rw [Int32.toInt_toInt64, n32_t h]
  have h2 : (Int32.ofNat a).toInt64 = Int64.ofNat a := Int64.toInt_inj.mp (by rw [h1, Int64.toInt_ofNat_of_lt (by omega)])
  rw [h2]
  show (BitVec.ofNat 64 a).toNat = a
  rw [BitVec.toNat_ofNat]
  exact Nat.mod_eq_of_lt (by omega)
/-- the two count alike -/
theorem ic_cb {a : Nat} (h : a < 4096) : icV (Int32.ofNat a) = cbA (Int32.ofNat a).toInt64 64 := by
  refine Int32.toInt_inj.mp ?_
  rw [icV_ok h, cbA_eq (Nat.le_refl _), nL_i h, pc_64 h]
end
section
/-! the class's sets of sets: closed upwards, the least, the next, how many -/
theorem lg_cmp_0 {x y : Int64} : (lg_cmp x y).toInt = 0 ↔ x = y := by
  rw [ck_lg]
  constructor
  · intro h
    split at h
    · exact absurd h (by decide)
    · split at h
      · rename_i e
        exact Int64.toInt_inj.mp e
      · exact absurd h (by decide)
  · rintro rfl
    rw [if_neg (Int.lt_irrefl _), if_pos rfl]
theorem n32_c {r : Nat} (h : r < 4096) : (Int32.ofNat r).toNatClampNeg = r := by
  show (Int32.ofNat r).toInt.toNat = r
  rw [n32_t h]
  rfl
theorem n32_s {k : Nat} (h : k < 100000) : Int32.ofNat k + Int32.ofInt 1 = Int32.ofNat (k + 1) := by
  have e1 : (Int32.ofInt 1).toInt = 1 := by decide
  have ek : (Int32.ofNat k).toInt = (k : Int) := Int32.toInt_ofNat_of_lt (by omega)
  have es : (Int32.ofNat (k + 1)).toInt = ((k + 1 : Nat) : Int) := Int32.toInt_ofNat_of_lt (by omega)
  refine Int32.toInt_inj.mp ?_
  rw [i_add (by omega) (by omega), ek, e1, es]
  omega
theorem zJ_s {A : zW} {q : Nat} {f : Nat → Int64} : zJ (zsJ A q f) q = f := funext (fun _ => zsJ_at)
theorem zJ_n {A : zW} {q p : Nat} {f : Nat → Int64} (h : p ≠ q) : zJ (zsJ A q f) p = zJ A p := funext (fun _ => zsJ_ne h)
theorem zsJ_zsJ {A : zW} {q : Nat} {f g : Nat → Int64} : zsJ (zsJ A q f) q g = zsJ A q g := by
  show (A.1, (fun j x => bif Nat.beq j q then g x else zJ (zsJ A q f) j x), A.2.2) = (A.1, (fun j x => bif Nat.beq j q then g x else zJ A j x), A.2.2)
  have e : (fun j x => bif Nat.beq j q then g x else zJ (zsJ A q f) j x) = (fun j x => bif Nat.beq j q then g x else zJ A j x) := funext (fun j => funext (fun x => by
    show (bif Nat.beq j q then g x else (bif Nat.beq j q then f x else zJ A j x)) = _
    cases Nat.beq j q <;> rfl))
  rw [e]
def cuR (f : Nat → Int64) : Nat → Nat → Int64
  | 0 => f
  | k + 1 => fun x => if x < 64 then cuR f k x ||| rz (cuR f k) k x else cuR f k x
theorem cuR_bF {f : Nat → Int64} : ∀ {k S : Nat}, k ≤ 12 → S < 4096 → bF (cuR f k) S = cuF (bF f) k S
  | 0, _, _, _ => rfl
  | k + 1, S, hk, hS => by
    have h1 := cuR_bF (f := f) (k := k) (S := S) (by omega) hS
    have h2 := cuR_bF (f := f) (k := k) (S := S - 2 ^ k) (by omega) (Nat.lt_of_le_of_lt (Nat.sub_le _ _) hS)
    show (if S / 64 < 64 then cuR f k (S / 64) ||| rz (cuR f k) k (S / 64) else cuR f k (S / 64)).toBitVec.getLsbD (S % 64) = (cuF (bF f) k S || (S.testBit k && cuF (bF f) k (S - 2 ^ k)))
    rw [if_pos (by omega), Int64.toBitVec_or, BitVec.getLsbD_or, rz_bit (by omega) hS, h2, ← h1]
    rfl
theorem rz_half {c g : Nat → Int64} {k r : Nat} (hg : ∀ x, g x = if x < r then (if x < 64 then c x ||| rz c k x else c x) else c x) : rz g k r = rz c k r := by
  unfold rz
  by_cases h6 : k < 6
  · rw [if_pos h6, if_pos h6, hg r, if_neg (Nat.lt_irrefl r)]
  · rw [if_neg h6, if_neg h6]
    by_cases hb : r.testBit (k - 6) = true
    · rw [if_pos hb, if_pos hb, hg]
      by_cases hx : r - 2 ^ (k - 6) < r
      · rw [if_pos hx]
        by_cases h64 : r - 2 ^ (k - 6) < 64
        · rw [if_pos h64]
          have hz : rz c k (r - 2 ^ (k - 6)) = 0 := by
            unfold rz
            rw [if_neg h6, tb_sub hb, decide_eq_true rfl, Bool.not_true, Bool.and_false, if_neg Bool.false_ne_true]
          rw [hz, Int64.or_zero]
        · rw [if_neg h64]
      · rw [if_neg hx]
    · rw [if_neg hb, if_neg hb]
def zq_closeUp : zQ := zfu (fun _ : Unit => [.ref 199, .int (Int32.ofInt 12)]) (fun _ _ => True) (fun _ _ => none) (fun _ A => zsJ A 200 (cuR (zJ A 200) 12))
theorem zB_199 : zB 199 64 = true := by decide +kernel
theorem zB_201 : zB 201 64 = true := by decide +kernel
def in_cu2 (A : zW) : fL_ → List Value → zW → Prop := fun lg vs A' => ∃ k : Nat, f_sub [(2, false, .int (Int32.ofNat k)), (0, false, .ref 199), (1, false, .int (Int32.ofInt 12))] lg ∧ vs = [] ∧ A' = zsJ A 200 (cuR (zJ A 200) k) ∧ k ≤ 12
def in_cu9 (A : zW) : fL_ → List Value → zW → Prop := fun lg vs A' => ∃ k r : Nat, f_sub [(3, false, .int (Int32.ofNat r)), (2, false, .int (Int32.ofNat k)), (0, false, .ref 199), (1, false, .int (Int32.ofInt 12))] lg ∧ vs = [] ∧ A' = zsJ A 200 (fun x => if x < r then cuR (zJ A 200) (k + 1) x else cuR (zJ A 200) k x) ∧ k < 12 ∧ r ≤ 64
theorem e32_12i : (Int32.ofInt 12).toInt = 12 := by decide
set_option maxRecDepth 20000 in
set_option maxHeartbeats 4000000 in
theorem za_X1_closeUp : zdo r_X1_closeUp zq_closeUp := by
  refine zdo_fu [(177, 3, zq_raised)] (fun _ A => [(2, in_cu2 A), (9, in_cu9 A)]) 80 fo_X1 rfl (zs_cons rfl za_X1_raised zs_nil) k_X1_closeUp (fun a A hp => ?_) (fun a A hp => ?_)
  · refine List.forall_mem_cons.mpr ⟨?_, List.forall_mem_cons.mpr ⟨?_, fun _ h => absurd h List.not_mem_nil⟩⟩
    · rintro lg vs A' ⟨k, hs, rfl, eA, hk⟩
      have tk := n32_t (show k < 4096 by omega)
      refine ⟨_, 60, hs, fun h => ?_, fun h => ?_⟩
      · have h : (Int32.ofInt 12).toInt ≤ (Int32.ofNat k).toInt := h
        rw [e32_12i, tk] at h
        have ek : k = 12 := by omega
        subst ek
        exact ⟨rfl, eA⟩
      · have h : ¬ (Int32.ofInt 12).toInt ≤ (Int32.ofNat k).toInt := h
        rw [e32_12i, tk] at h
        refine ⟨k, 0, ⟨rfl, rfl, rfl, rfl, trivial⟩, rfl, eA.trans (zsJ_ext (fun x => ?_)), (show k < 12 by omega), (by decide : 0 ≤ 64)⟩
        show cuR (zJ A 200) k x = if x < 0 then cuR (zJ A 200) (k + 1) x else cuR (zJ A 200) k x
        rw [if_neg (Nat.not_lt_zero x)]
    · rintro lg vs A' ⟨k, r, hs, rfl, eA, hk, hr⟩
      have hr : r ≤ 64 := hr
      have tr := n32_t (show r < 4096 by omega)
      have e64 : (Int32.ofNat 64).toInt = 64 := by decide
      refine ⟨_, 60, hs, fun h => ?_, fun h => ?_⟩
      · have h : (Int32.ofNat (zkd A' (rv_ (zfl A' 199 (kfd fl_X1 13 (zkd A' 199)))))).toInt ≤ (Int32.ofNat r).toInt := h
        rw [zB_l zB_199, e64, tr] at h
        refine ⟨k + 1, ⟨?_, rfl, rfl, trivial⟩, rfl, eA.trans (zsJ_ext (fun x => ?_)), (show k + 1 ≤ 12 by omega)⟩
        · show some (false, Value.int (Int32.ofNat k + Int32.ofInt 1)) = some (false, .int (Int32.ofNat (k + 1)))
          rw [n32_s (by omega)]
        · show (if x < r then cuR (zJ A 200) (k + 1) x else cuR (zJ A 200) k x) = cuR (zJ A 200) (k + 1) x
          by_cases hx : x < r
          · rw [if_pos hx]
          · rw [if_neg hx]
            show _ = if x < 64 then _ else cuR (zJ A 200) k x
            rw [if_neg (by omega)]
      · have h : ¬ (Int32.ofNat (zkd A' (rv_ (zfl A' 199 (kfd fl_X1 13 (zkd A' 199)))))).toInt ≤ (Int32.ofNat r).toInt := h
        rw [zB_l zB_199, e64, tr] at h
        have hr6 : r < 64 := by omega
        have ef : zJ A' 200 = fun x => if x < r then cuR (zJ A 200) (k + 1) x else cuR (zJ A 200) k x := by rw [eA]; exact zJ_s
        have er : rz (zJ A' 200) k r = rz (cuR (zJ A 200) k) k r := rz_half (fun x => by
          rw [ef]
          rfl)
        have e0 : zJ A' 200 r = cuR (zJ A 200) k r := by
          rw [ef]
          exact if_neg (Nat.lt_irrefl r)
        refine ⟨(k, r), rfl, ⟨hk, hr6⟩, ?_⟩
        refine ⟨k, r + 1, ⟨?_, rfl, rfl, rfl, trivial⟩, rfl, ?_, hk, (show r + 1 ≤ 64 by omega)⟩
        · show some (false, Value.int (Int32.ofNat r + Int32.ofInt 1)) = some (false, .int (Int32.ofNat (r + 1)))
          rw [n32_s (by omega)]
        · show zuJ A' (rv_ (zfl A' 199 (kfd fl_X1 13 (zkd A' 199)))) (Int32.ofNat r).toNatClampNeg (zJ A' (rv_ (zfl A' 199 (kfd fl_X1 13 (zkd A' 199)))) (Int32.ofNat r).toNatClampNeg ||| rz (zJ A' 200) k r) = _
          rw [zB_f zB_199, n32_c (by omega), er]
          show zuJ A' 200 r (zJ A' 200 r ||| rz (cuR (zJ A 200) k) k r) = _
          rw [e0, eA]
          refine zuJ_zsJ (fun x => ?_)
          show (if x < r + 1 then cuR (zJ A 200) (k + 1) x else cuR (zJ A 200) k x) = if x = r then _ else (if x < r then cuR (zJ A 200) (k + 1) x else cuR (zJ A 200) k x)
          by_cases ex : x = r
          · subst ex
            rw [if_pos rfl, if_pos (by omega)]
            show (if x < 64 then _ else _) = _
            rw [if_pos hr6]
          · rw [if_neg ex]
            by_cases hx : x < r
            · rw [if_pos hx, if_pos (by omega)]
            · rw [if_neg hx, if_neg (by omega)]
  · refine ⟨0, ⟨rfl, rfl, rfl, trivial⟩, rfl, (zsJ_self (fun x => rfl)).symm, by decide⟩
/-- the least ones -/
def lwR (f : Nat → Int64) : Nat → Nat → Int64
  | 0 => f
  | k + 1 => fun x => lwR f k x &&& (rz f k x ^^^ Int64.ofInt (-1))
theorem lwR_bF {f : Nat → Int64} : ∀ {k S : Nat}, k ≤ 12 → S < 4096 → (bF (lwR f k) S = true ↔ bF f S = true ∧ ∀ j, j < k → S.testBit j = true → ¬ bF f (S - 2 ^ j) = true)
  | 0, _, _, _ => ⟨fun h => ⟨h, fun j hj => absurd hj (Nat.not_lt_zero j)⟩, fun h => h.1⟩
  | k + 1, S, hk, hS => by
    have h1 := lwR_bF (f := f) (k := k) (S := S) (by omega) hS
    have e : bF (lwR f (k + 1)) S = (bF (lwR f k) S && !(S.testBit k && bF f (S - 2 ^ k))) := by
      show ((lwR f k (S / 64) &&& (rz f k (S / 64) ^^^ Int64.ofInt (-1)))).toBitVec.getLsbD (S % 64) = _
      rw [Int64.toBitVec_and, BitVec.getLsbD_and, Int64.toBitVec_xor, BitVec.getLsbD_xor, rz_bit (by omega) hS, m1_64 _ (by omega), Bool.xor_true]
      rfl
    rw [e, Bool.and_eq_true, h1, Bool.not_eq_true']
    constructor
    · rintro ⟨⟨a, b⟩, c⟩
      refine ⟨a, fun j hj hb => ?_⟩
      by_cases ej : j = k
      · subst ej
        rw [hb, Bool.true_and] at c
        rw [c]
        exact Bool.false_ne_true
      · exact b j (by omega) hb
    · rintro ⟨a, b⟩
      refine ⟨⟨a, fun j hj hb => b j (by omega) hb⟩, ?_⟩
      cases hb : S.testBit k with
      | false => rfl
      | true =>
        have := b k (by omega) hb
        rw [Bool.true_and]
        exact Bool.eq_false_iff.mpr this
def zq_becomeLows : zQ := zfu (fun _ : Unit => [.ref 201, .ref 199, .int (Int32.ofInt 12)]) (fun _ _ => True) (fun _ _ => none) (fun _ A => zsJ A 202 (fun x => if x < 64 then lwR (zJ A 200) 12 x else zJ A 202 x))
def in_bl7 (A : zW) : fL_ → List Value → zW → Prop := fun lg vs A' => ∃ k : Nat, f_sub [(3, false, .int (Int32.ofNat k)), (0, false, .ref 201), (1, false, .ref 199), (2, false, .int (Int32.ofInt 12))] lg ∧ vs = [] ∧ A' = zsJ A 202 (fun x => if x < 64 then lwR (zJ A 200) k x else zJ A 202 x) ∧ k ≤ 12
def in_bl15 (A : zW) : fL_ → List Value → zW → Prop := fun lg vs A' => ∃ k r : Nat, f_sub [(4, false, .int (Int32.ofNat r)), (3, false, .int (Int32.ofNat k)), (0, false, .ref 201), (1, false, .ref 199), (2, false, .int (Int32.ofInt 12))] lg ∧ vs = [] ∧ A' = zsJ A 202 (fun x => if x < 64 then (if x < r then lwR (zJ A 200) (k + 1) x else lwR (zJ A 200) k x) else zJ A 202 x) ∧ k < 12 ∧ r ≤ 64
set_option maxRecDepth 20000 in
set_option maxHeartbeats 4000000 in
theorem za_X1_becomeLows : zdo r_X1_becomeLows zq_becomeLows := by
  refine zdo_fu [(186, 2, zq_become), (177, 3, zq_raised)] (fun _ A => [(7, in_bl7 A), (15, in_bl15 A)]) 80 fo_X1 rfl (zs_cons rfl za_X1_become (zs_cons rfl za_X1_raised zs_nil)) k_X1_becomeLows (fun a A hp => ?_) (fun a A hp => ?_)
  · refine List.forall_mem_cons.mpr ⟨?_, List.forall_mem_cons.mpr ⟨?_, fun _ h => absurd h List.not_mem_nil⟩⟩
    · rintro lg vs A' ⟨k, hs, rfl, eA, hk⟩
      have tk := n32_t (show k < 4096 by omega)
      refine ⟨_, 60, hs, fun h => ?_, fun h => ?_⟩
      · have h : (Int32.ofInt 12).toInt ≤ (Int32.ofNat k).toInt := h
        rw [e32_12i, tk] at h
        have ek : k = 12 := by omega
        subst ek
        exact ⟨rfl, eA⟩
      · have h : ¬ (Int32.ofInt 12).toInt ≤ (Int32.ofNat k).toInt := h
        rw [e32_12i, tk] at h
        refine ⟨k, 0, ⟨rfl, rfl, rfl, rfl, rfl, trivial⟩, rfl, eA.trans (zsJ_ext (fun x => ?_)), (show k < 12 by omega), (by decide : 0 ≤ 64)⟩
        show (if x < 64 then lwR (zJ A 200) k x else zJ A 202 x) = if x < 64 then (if x < 0 then lwR (zJ A 200) (k + 1) x else lwR (zJ A 200) k x) else zJ A 202 x
        rw [if_neg (Nat.not_lt_zero x)]
    · rintro lg vs A' ⟨k, r, hs, rfl, eA, hk, hr⟩
      have hr : r ≤ 64 := hr
      have tr := n32_t (show r < 4096 by omega)
      have e64 : (Int32.ofNat 64).toInt = 64 := by decide
      have done : 64 ≤ r → ∀ x, (if x < 64 then (if x < r then lwR (zJ A 200) (k + 1) x else lwR (zJ A 200) k x) else zJ A 202 x) = (if x < 64 then lwR (zJ A 200) (k + 1) x else zJ A 202 x) := fun h x => by
        by_cases hx : x < 64
        · rw [if_pos hx, if_pos hx, if_pos (by omega)]
        · rw [if_neg hx, if_neg hx]
      have eq1 : some (false, Value.int (Int32.ofNat k + Int32.ofInt 1)) = some (false, .int (Int32.ofNat (k + 1))) := by rw [n32_s (by omega)]
      refine ⟨_, 60, hs, fun h => ?_, fun h => ⟨fun h2 => ?_, fun h2 => ?_⟩⟩
      · have h : (Int32.ofNat (zkd A' (rv_ (zfl A' 201 (kfd fl_X1 13 (zkd A' 201)))))).toInt ≤ (Int32.ofNat r).toInt := h
        rw [zB_l zB_201, e64, tr] at h
        exact ⟨k + 1, ⟨eq1, rfl, rfl, rfl, trivial⟩, rfl, eA.trans (zsJ_ext (done (by omega))), (show k + 1 ≤ 12 by omega)⟩
      · have h2 : (Int32.ofNat (zkd A' (rv_ (zfl A' 199 (kfd fl_X1 13 (zkd A' 199)))))).toInt ≤ (Int32.ofNat r).toInt := h2
        rw [zB_l zB_199, e64, tr] at h2
        exact ⟨k + 1, ⟨eq1, rfl, rfl, rfl, trivial⟩, rfl, eA.trans (zsJ_ext (done (by omega))), (show k + 1 ≤ 12 by omega)⟩
      · have h : ¬ (Int32.ofNat (zkd A' (rv_ (zfl A' 201 (kfd fl_X1 13 (zkd A' 201)))))).toInt ≤ (Int32.ofNat r).toInt := h
        rw [zB_l zB_201, e64, tr] at h
        have hr6 : r < 64 := by omega
        have ef : zJ A' 200 = zJ A 200 := by rw [eA]; exact zJ_n (by decide)
        have e0 : zJ A' 202 r = lwR (zJ A 200) k r := by
          rw [eA, zJ_s]
          show (if r < 64 then (if r < r then _ else lwR (zJ A 200) k r) else _) = _
          rw [if_pos hr6, if_neg (Nat.lt_irrefl r)]
        refine ⟨(k, r), rfl, ⟨hk, hr6⟩, ?_⟩
        refine ⟨k, r + 1, ⟨?_, rfl, rfl, rfl, rfl, trivial⟩, rfl, ?_, hk, (show r + 1 ≤ 64 by omega)⟩
        · show some (false, Value.int (Int32.ofNat r + Int32.ofInt 1)) = some (false, .int (Int32.ofNat (r + 1)))
          rw [n32_s (by omega)]
        · show zuJ A' (rv_ (zfl A' 201 (kfd fl_X1 13 (zkd A' 201)))) (Int32.ofNat r).toNatClampNeg (zJ A' (rv_ (zfl A' 201 (kfd fl_X1 13 (zkd A' 201)))) (Int32.ofNat r).toNatClampNeg &&& (rz (zJ A' 200) k r ^^^ Int64.ofInt (-1))) = _
          rw [zB_f zB_201, n32_c (by omega), ef]
          show zuJ A' 202 r (zJ A' 202 r &&& (rz (zJ A 200) k r ^^^ Int64.ofInt (-1))) = _
          rw [e0, eA]
          refine zuJ_zsJ (fun x => ?_)
          show (if x < 64 then (if x < r + 1 then lwR (zJ A 200) (k + 1) x else lwR (zJ A 200) k x) else zJ A 202 x) = if x = r then _ else (if x < 64 then (if x < r then lwR (zJ A 200) (k + 1) x else lwR (zJ A 200) k x) else zJ A 202 x)
          by_cases ex : x = r
          · subst ex
            rw [if_pos rfl, if_pos hr6, if_pos (by omega)]
            rfl
          · rw [if_neg ex]
            by_cases h64 : x < 64
            · rw [if_pos h64, if_pos h64]
              by_cases hx : x < r
              · rw [if_pos hx, if_pos (by omega)]
              · rw [if_neg hx, if_neg (by omega)]
            · rw [if_neg h64, if_neg h64]
  · refine ⟨(201, 199, 64), rfl, ⟨zB_201, zB_199, (by decide : 64 ≤ 64)⟩, ?_⟩
    exact ⟨0, ⟨rfl, rfl, rfl, rfl, trivial⟩, rfl, rfl, by decide⟩
/-- how many -/
def zq_lbc : zQ := zpu (fun a : Int64 => [.long a]) (fun _ _ => True) (fun a _ => .int (bcV a))
set_option maxRecDepth 20000 in
theorem za_J13_bitCount : zdo r_J13_bitCount_95d88 zq_lbc := by
  refine zdo_pu [] (fun _ _ => []) 60 fo_J13 rfl zs_nil k_J13_bitCount_95d88 (fun _ _ _ => no_zh) (fun a A _ => ?_)
  exact ⟨rfl, rfl⟩
def zq_ibc : zQ := zpu (fun a : Int32 => [.int a]) (fun _ _ => True) (fun a _ => .int (icV a))
theorem fo_J6z : f_ok5 fl_J6 pl_J6 nw_J6 kl_J6 il_J6 = true := by decide +kernel
set_option maxRecDepth 20000 in
theorem za_J6_ibc : zdo r_J6_bitCount_0f7a4 zq_ibc := by
  refine zdo_pu [] (fun _ _ => []) 60 fo_J6z rfl zs_nil k_J6_bitCount_0f7a4 (fun _ _ _ => no_zh) (fun a A _ => ?_)
  exact ⟨rfl, rfl⟩
def zq_size : zQ := zpu (fun a : Nat × Nat => [.ref a.1]) (fun a _ => zB a.1 a.2 = true ∧ a.2 ≤ 64) (fun a A => .int (szA bcV (zJ A (a.1 + 1)) a.2))
def in_zsz (A : zW) (q n : Nat) : fL_ → List Value → zW → Prop := fun lg vs A' => ∃ t : Nat, f_sub [(2, false, .int (Int32.ofNat t)), (1, false, .int (szA bcV (zJ A (q + 1)) t)), (0, false, .ref q)] lg ∧ vs = [] ∧ A' = A ∧ t ≤ n
set_option maxRecDepth 20000 in
set_option maxHeartbeats 4000000 in
theorem za_X1_size : zdo r_X1_size zq_size := by
  refine zdo_pu [(139, 1, zq_lbc)] (fun a A => [(4, in_zsz A a.1 a.2)]) 60 fo_X1 rfl (zs_cons rfl za_J13_bitCount zs_nil) k_X1_size (fun a A hp => ?_) (fun a A hp => ?_)
  · obtain ⟨q, n⟩ := a
    obtain ⟨hB, hn⟩ := hp
    have hB : zB q n = true := hB
    have hn : n ≤ 64 := hn
    refine List.forall_mem_cons.mpr ⟨?_, fun _ h => absurd h List.not_mem_nil⟩
    rintro lg vs A' ⟨t, hs, rfl, rfl, ht⟩
    have ht : t ≤ n := ht
    have tt := n32_t (show t < 4096 by omega)
    have tn := n32_t (show n < 4096 by omega)
    refine ⟨_, 60, hs, fun h => ?_, fun h => ?_⟩
    · have h : (Int32.ofNat (zkd A' (rv_ (zfl A' q (kfd fl_X1 13 (zkd A' q)))))).toInt ≤ (Int32.ofNat t).toInt := h
      rw [zB_l hB, tt, tn] at h
      refine ⟨?_, rfl⟩
      show some (Value.int (szA bcV (zJ A' (q + 1)) t)) = some (.int (szA bcV (zJ A' (q + 1)) n))
      rw [show t = n by omega]
    · have h : ¬ (Int32.ofNat (zkd A' (rv_ (zfl A' q (kfd fl_X1 13 (zkd A' q)))))).toInt ≤ (Int32.ofNat t).toInt := h
      rw [zB_l hB, tt, tn] at h
      refine ⟨zJ A' (q + 1) t, ?_, trivial, ?_⟩
      · show [Value.long (zJ A' (rv_ (zfl A' q (kfd fl_X1 13 (zkd A' q)))) (Int32.ofNat t).toNatClampNeg)] = [.long (zJ A' (q + 1) t)]
        rw [zB_f hB, n32_c (by omega)]
        rfl
      · refine ⟨t + 1, ⟨?_, rfl, rfl, trivial⟩, rfl, rfl, (show t + 1 ≤ n by omega)⟩
        show some (false, Value.int (Int32.ofNat t + Int32.ofInt 1)) = some (false, .int (Int32.ofNat (t + 1)))
        rw [n32_s (by omega)]
  · exact ⟨0, ⟨rfl, rfl, rfl, trivial⟩, rfl, rfl, Nat.zero_le _⟩
def zq_lowest : zQ := zpu (fun a : Int64 => [.long a]) (fun _ _ => True) (fun a _ => .int (lwV a))
set_option maxRecDepth 20000 in
theorem za_X1_lowest : zdo r_X1_lowest zq_lowest := by
  refine zdo_pu [(139, 1, zq_lbc)] (fun _ _ => []) 60 fo_X1 rfl (zs_cons rfl za_J13_bitCount zs_nil) k_X1_lowest (fun _ _ _ => no_zh) (fun a A _ => ?_)
  exact ⟨_, rfl, trivial, rfl, rfl⟩
/-- the next one -/
def rowA (f : Nat → Int64) (F r : Nat) : Int64 := if r = F / 64 then f r &&& (Int64.ofInt (-1) <<< ((Int32.ofNat (F % 64)).toInt64 &&& 63)) else f r
theorem rowA_b {f : Nat → Int64} {F r i : Nat} (hF : F / 64 ≤ r) (hi : i < 64) : (rowA f F r).toBitVec.getLsbD i = (bF f (64 * r + i) && decide (F ≤ 64 * r + i)) := by
  rw [bF_at hi]
  unfold rowA
  by_cases h : r = F / 64
  · rw [if_pos h, Int64.toBitVec_and, BitVec.getLsbD_and, ms_sh _ (by omega) i hi]
    by_cases c : F % 64 ≤ i
    · rw [decide_eq_true c, decide_eq_true (show F ≤ 64 * r + i by omega)]
    · rw [decide_eq_false c, decide_eq_false (show ¬ F ≤ 64 * r + i by omega)]
  · rw [if_neg h, decide_eq_true (show F ≤ 64 * r + i by omega), Bool.and_true]
theorem n32_s6 : ∀ r, r < 64 → (Int32.ofNat r <<< (Int32.ofInt 6 &&& 31)) = Int32.ofNat (64 * r) := by decide +kernel
def nxP (f : Nat → Int64) (x : Int32) (S : Nat) : Prop := (-1 ≤ x.toInt ∧ x.toInt < (S : Int)) ∧ S < 4096 ∧ bF f S = true ∧ ∀ T : Nat, x.toInt < (T : Int) → T < S → ¬ bF f T = true
def zq_after : zQ := zpu (fun a : Nat × Int32 × Nat => [.ref a.1, .int a.2.1]) (fun a A => zB a.1 64 = true ∧ nxP (zJ A (a.1 + 1)) a.2.1 a.2.2) (fun a _ => .int (Int32.ofNat a.2.2))
def in_zaf (A : zW) (q F S : Nat) : fL_ → List Value → zW → Prop := fun lg vs A' => ∃ r : Nat, f_sub [(3, false, .int (Int32.ofNat r)), (2, false, .int (Int32.ofNat F)), (0, false, .ref q)] lg ∧ vs = [] ∧ A' = A ∧ F / 64 ≤ r ∧ r ≤ S / 64
set_option maxRecDepth 20000 in
set_option maxHeartbeats 8000000 in
theorem za_X1_after : zdo r_X1_after zq_after := by
  refine zdo_pu [(157, 1, zq_lowest)] (fun a A => [(15, in_zaf A a.1 (a.2.1.toInt + 1).toNat a.2.2)]) 80 fo_X1 rfl (zs_cons rfl za_X1_lowest zs_nil) k_X1_after (fun a A hp => ?_) (fun a A hp => ?_)
  · obtain ⟨q, x, S⟩ := a
    obtain ⟨hB, ⟨x0, x1⟩, hS, hb, hn⟩ := hp
    have hB : zB q 64 = true := hB
    have hS : S < 4096 := hS
    have x0 : -1 ≤ x.toInt := x0
    have x1 : x.toInt < (S : Int) := x1
    have hb : bF (zJ A (q + 1)) S = true := hb
    have hn : ∀ T : Nat, x.toInt < (T : Int) → T < S → ¬ bF (zJ A (q + 1)) T = true := hn
    obtain ⟨F, hF⟩ : ∃ F : Nat, F = (x.toInt + 1).toNat := ⟨_, rfl⟩
    refine List.forall_mem_cons.mpr ⟨?_, fun _ h => absurd h List.not_mem_nil⟩
    show ∀ (lg : fL_) (vs : List Value) (A' : zW), in_zaf A q (x.toInt + 1).toNat S lg vs A' → _
    rw [← hF]
    rintro lg vs A' ⟨r, hs, rfl, rfl, r0, r1⟩
    have r0 : F / 64 ≤ r := r0
    have r1 : r ≤ S / 64 := r1
    have tr := n32_t (show r < 4096 by omega)
    have e64 : (Int32.ofNat 64).toInt = 64 := by decide
    have s6 := i32_s6 F (by omega)
    have s63 := i32_63 F (by omega)
    have tF := n32_t (show F / 64 < 4096 by omega)
    -- a row without one: on; else the answer
    have eq1 : some (false, Value.int (Int32.ofNat r + Int32.ofInt 1)) = some (false, .int (Int32.ofNat (r + 1))) := by rw [n32_s (by omega)]
    have nx : rowA (zJ A' (q + 1)) F r = Int64.ofNat 0 → r + 1 ≤ S / 64 := fun hz => by
      have hz := l_zero.mp hz
      by_cases e : r = S / 64
      · have h1 := hz (S % 64) (by omega)
        rw [rowA_b r0 (by omega), show 64 * r + S % 64 = S by omega, hb, decide_eq_true (show F ≤ S by omega)] at h1
        cases h1
      · omega
    have ans : ¬ rowA (zJ A' (q + 1)) F r = Int64.ofNat 0 → (Int32.ofNat r <<< (Int32.ofInt 6 &&& 31)) + lwV (rowA (zJ A' (q + 1)) F r) = Int32.ofNat S := fun hz => by
      obtain ⟨i, hi, hbi⟩ : ∃ i, i < 64 ∧ (rowA (zJ A' (q + 1)) F r).toBitVec.getLsbD i = true := Classical.byContradiction (fun z => hz (l_zero.mpr (fun i hi => by
        cases c : (rowA (zJ A' (q + 1)) F r).toBitVec.getLsbD i with
        | false => rfl
        | true => exact absurd ⟨i, hi, c⟩ z)))
      rw [rowA_b r0 hi, Bool.and_eq_true] at hbi
      have hle := of_decide_eq_true hbi.2
      have hge : S ≤ 64 * r + i := by
        by_cases c : S ≤ 64 * r + i
        · exact c
        · exact absurd hbi.1 (hn _ (by omega) (by omega))
      have er : r = S / 64 := by omega
      have hl := lwV_ok (x := rowA (zJ A' (q + 1)) F r) (j := S % 64) (by omega) (by
        rw [rowA_b r0 (by omega), show 64 * r + S % 64 = S by omega, hb, decide_eq_true (show F ≤ S by omega)]
        rfl) (fun u hu => by
        rw [rowA_b r0 (by omega)]
        by_cases c : F ≤ 64 * r + u
        · rw [Bool.eq_false_iff.mpr (hn (64 * r + u) (by omega) (by omega)), Bool.false_and]
        · rw [decide_eq_false c, Bool.and_false])
      refine Int32.toInt_inj.mp ?_
      have t1 := n32_t (show 64 * r < 4096 by omega)
      rw [n32_s6 r (by omega), i_add (by rw [t1, hl]; omega) (by rw [t1, hl]; omega), t1, hl, n32_t hS]
      omega
    refine ⟨_, 80, hs, fun h => ?_, fun h => ⟨fun h2 => ?_, fun h2 => ?_⟩⟩
    · have h : (Int32.ofNat (zkd A' (rv_ (zfl A' q (kfd fl_X1 13 (zkd A' q)))))).toInt ≤ (Int32.ofNat r).toInt := h
      rw [zB_l hB, e64, tr] at h
      omega
    · have h2 : ¬ (Int32.ofNat r).toInt = (Int32.ofNat F >>> (Int32.ofInt 6 &&& 31)).toInt := h2
      rw [s6, tr, tF] at h2
      have eR : zJ A' (rv_ (zfl A' q (kfd fl_X1 13 (zkd A' q)))) (Int32.ofNat r).toNatClampNeg = rowA (zJ A' (q + 1)) F r := by
        rw [zB_f hB, n32_c (by omega)]
        unfold rowA
        rw [if_neg (by omega)]
        rfl
      refine ⟨fun h3 => ?_, fun h3 => ?_⟩
      · have h3 : (lg_cmp (zJ A' (rv_ (zfl A' q (kfd fl_X1 13 (zkd A' q)))) (Int32.ofNat r).toNatClampNeg) (Int64.ofNat 0)).toInt = 0 := h3
        rw [eR] at h3
        exact ⟨r + 1, ⟨eq1, rfl, rfl, trivial⟩, rfl, rfl, (show F / 64 ≤ r + 1 by omega), nx (lg_cmp_0.mp h3)⟩
      · have h3 : ¬ (lg_cmp (zJ A' (rv_ (zfl A' q (kfd fl_X1 13 (zkd A' q)))) (Int32.ofNat r).toNatClampNeg) (Int64.ofNat 0)).toInt = 0 := h3
        rw [eR] at h3
        refine ⟨_, rfl, trivial, ?_, rfl⟩
        show some (Value.int ((Int32.ofNat r <<< (Int32.ofInt 6 &&& 31)) + lwV (zJ A' (rv_ (zfl A' q (kfd fl_X1 13 (zkd A' q)))) (Int32.ofNat r).toNatClampNeg))) = some (.int (Int32.ofNat S))
        rw [eR, ans (fun z => h3 (lg_cmp_0.mpr z))]
    · have h2 : ¬ ¬ (Int32.ofNat r).toInt = (Int32.ofNat F >>> (Int32.ofInt 6 &&& 31)).toInt := h2
      rw [s6, tr, tF] at h2
      have h2 := Classical.not_not.mp h2
      have eR : zJ A' (rv_ (zfl A' q (kfd fl_X1 13 (zkd A' q)))) (Int32.ofNat r).toNatClampNeg &&& (Int64.ofInt (-1) <<< ((Int32.ofNat F &&& Int32.ofInt 63).toInt64 &&& 63)) = rowA (zJ A' (q + 1)) F r := by
        rw [zB_f hB, n32_c (by omega), s63]
        unfold rowA
        rw [if_pos (by omega)]
        rfl
      refine ⟨fun h3 => ?_, fun h3 => ?_⟩
      · have h3 : (lg_cmp (zJ A' (rv_ (zfl A' q (kfd fl_X1 13 (zkd A' q)))) (Int32.ofNat r).toNatClampNeg &&& (Int64.ofInt (-1) <<< ((Int32.ofNat F &&& Int32.ofInt 63).toInt64 &&& 63))) (Int64.ofNat 0)).toInt = 0 := h3
        rw [eR] at h3
        exact ⟨r + 1, ⟨eq1, rfl, rfl, trivial⟩, rfl, rfl, (show F / 64 ≤ r + 1 by omega), nx (lg_cmp_0.mp h3)⟩
      · have h3 : ¬ (lg_cmp (zJ A' (rv_ (zfl A' q (kfd fl_X1 13 (zkd A' q)))) (Int32.ofNat r).toNatClampNeg &&& (Int64.ofInt (-1) <<< ((Int32.ofNat F &&& Int32.ofInt 63).toInt64 &&& 63))) (Int64.ofNat 0)).toInt = 0 := h3
        rw [eR] at h3
        refine ⟨_, rfl, trivial, ?_, rfl⟩
        show some (Value.int ((Int32.ofNat r <<< (Int32.ofInt 6 &&& 31)) + lwV (zJ A' (rv_ (zfl A' q (kfd fl_X1 13 (zkd A' q)))) (Int32.ofNat r).toNatClampNeg &&& (Int64.ofInt (-1) <<< ((Int32.ofNat F &&& Int32.ofInt 63).toInt64 &&& 63))))) = some (.int (Int32.ofNat S))
        rw [eR, ans (fun z => h3 (lg_cmp_0.mpr z))]
  · obtain ⟨q, x, S⟩ := a
    obtain ⟨hB, ⟨x0, x1⟩, hS, hb, hn⟩ := hp
    have hS : S < 4096 := hS
    have x0 : -1 ≤ x.toInt := x0
    have x1 : x.toInt < (S : Int) := x1
    have e1 : (Int32.ofInt 1).toInt = 1 := by decide
    obtain ⟨F, hF⟩ : ∃ F : Nat, F = (x.toInt + 1).toNat := ⟨_, rfl⟩
    have ex : x + Int32.ofInt 1 = Int32.ofNat F := Int32.toInt_inj.mp (by
      rw [i_add (by omega) (by omega), e1, n32_t (by omega)]
      omega)
    have tF := n32_t (show F < 4096 by omega)
    refine ⟨fun h => ?_, fun h => ?_⟩
    · have h : 0 ≤ (x + Int32.ofInt 1).toInt := h
      show in_zaf A q (x.toInt + 1).toNat S _ _ _
      rw [← hF]
      refine ⟨F / 64, ⟨?_, ?_, rfl, trivial⟩, rfl, rfl, Nat.le_refl _, (show F / 64 ≤ S / 64 by omega)⟩
      · show some (false, Value.int ((x + Int32.ofInt 1) >>> (Int32.ofInt 6 &&& 31))) = some (false, .int (Int32.ofNat (F / 64)))
        rw [ex, i32_s6 F (by omega)]
      · show some (false, Value.int (x + Int32.ofInt 1)) = some (false, .int (Int32.ofNat F))
        rw [ex]
    · have h : ¬ 0 ≤ (x + Int32.ofInt 1).toInt := h
      rw [ex, tF] at h
      omega
end
section
/-! the class: what is in view, its cuts, the least of them, what is given up -/
/-- entries that are there -/
def zeV (A : zW) (n : Int32) : Prop := zcE A n ∧ ∀ e : Nat, (e : Int) < n.toInt → ∃ j : Nat, zR A 195 e = .ref j ∧ 385 ≤ j ∧ (zK A j).1 = 4
def cvP (A : zW) (t k : Int32) (e : Nat) : Bool := decide ((iv (zF A (rv_ (zR A 195 e)) 3)).toInt ≤ t.toInt ∧ t.toInt ≤ (iv (zF A (rv_ (zR A 195 e)) 4)).toInt ∧ (iv (zF A (rv_ (zR A 195 e)) 5)).toInt ≤ k.toInt ∧ ((iv (zF A (rv_ (zR A 195 e)) 6)).toInt = -9 ∨ k.toInt < (iv (zF A (rv_ (zR A 195 e)) 6)).toInt))
def zen (A : zW) (n : Int32) (e : Nat) : Value := zat n (Int32.ofNat e) (zR A 195 (Int32.ofNat e).toInt.toNat)
theorem zen_at {A : zW} {n : Int32} {e j : Nat} (he : (e : Int) < n.toInt) (h : e < 4096) (hj : zR A 195 e = .ref j) : zen A n e = .ref j := by
  have te := n32_t h
  unfold zen zat
  rw [if_pos (by omega), te]
  exact hj
def zef (A : zW) (n : Int32) (e i : Nat) : Value := zfl A (rv_ (zen A n e)) (kfd fl_X2 i (zkd A (rv_ (zen A n e))))
theorem zef_at {A : zW} {n : Int32} {e j i k : Nat} (he : (e : Int) < n.toInt) (h : e < 4096) (hj : zR A 195 e = .ref j) (h1 : 385 ≤ j) (h2 : (zK A j).1 = 4) (hk : kfd fl_X2 i 4 = k) : zef A n e i = zF A (rv_ (zR A 195 e)) k := by
  unfold zef
  rw [zen_at he h hj, hj]
  show zfl A j (kfd fl_X2 i (zkd A j)) = zF A j k
  rw [zkd_d h1, h2, hk, zfl_d h1]
def zq_inViewC : zQ := zpu (fun _ : Int32 × Int32 × Int32 => [.ref 193]) (fun a A => zeV A a.1 ∧ zF A 193 2 = .int a.2.1 ∧ zF A 193 3 = .int a.2.2) (fun a A => .int (Int32.ofNat (vwN (cvP A a.2.1 a.2.2) a.1.toInt.toNat)))
def in_ivc (A : zW) (n t k : Int32) : fL_ → List Value → zW → Prop := fun lg vs A' => ∃ e : Nat, f_sub [(2, false, .int (Int32.ofNat e)), (1, false, .int (Int32.ofNat (vwN (cvP A t k) e))), (0, false, .ref 193)] lg ∧ vs = [] ∧ A' = A ∧ (e : Int) ≤ n.toInt
theorem em9 : (Int32.ofInt (-9)).toInt = -9 := by decide
set_option maxRecDepth 20000 in
set_option maxHeartbeats 8000000 in
theorem zc_X2_inView : zdo r_X2_inView zq_inViewC := by
  refine zdo_pu [(204, 2, zq_entryAt)] (fun a A => [(4, in_ivc A a.1 a.2.1 a.2.2)]) 80 fo_X2 rfl (zs_cons rfl za_X2_entryAt zs_nil) k_X2_inView (fun a A hp => ?_) (fun a A hp => ?_)
  · obtain ⟨n, t, k⟩ := a
    obtain ⟨⟨⟨hn, n0, n1⟩, hE⟩, ht, hk⟩ := hp
    have hn : zF A 193 1 = .int n := hn
    have n0 : 0 ≤ n.toInt := n0
    have n1 : n.toInt ≤ 12 := n1
    have ht : zF A 193 2 = .int t := ht
    have hk : zF A 193 3 = .int k := hk
    have hE : ∀ e : Nat, (e : Int) < n.toInt → ∃ j : Nat, zR A 195 e = .ref j ∧ 385 ≤ j ∧ (zK A j).1 = 4 := hE
    refine List.forall_mem_cons.mpr ⟨?_, fun _ h => absurd h List.not_mem_nil⟩
    rintro lg vs A' ⟨e, hs, rfl, rfl, he⟩
    have he : (e : Int) ≤ n.toInt := he
    have te := n32_t (show e < 4096 by omega)
    have eq1 : some (false, Value.int (Int32.ofNat e + Int32.ofInt 1)) = some (false, .int (Int32.ofNat (e + 1))) := by rw [n32_s (by omega)]
    refine ⟨_, 80, hs, fun h => ?_, fun h => ?_⟩
    · have h : (iv (zF A' 193 1)).toInt ≤ (Int32.ofNat e).toInt := h
      rw [hn, te] at h
      have h : n.toInt ≤ (e : Int) := h
      refine ⟨?_, rfl⟩
      show some (Value.int (Int32.ofNat (vwN (cvP A' t k) e))) = some (.int (Int32.ofNat (vwN (cvP A' t k) n.toInt.toNat)))
      rw [show n.toInt.toNat = e by omega]
    · have h : ¬ (iv (zF A' 193 1)).toInt ≤ (Int32.ofNat e).toInt := h
      rw [hn, te] at h
      have h : ¬ n.toInt ≤ (e : Int) := h
      obtain ⟨j, g1, g2, g3⟩ := hE e (by omega)
      have ez := zen_at (A := A') (n := n) (e := e) (by omega) (by omega) g1
      have f3 := zef_at (i := 72) (k := 3) (n := n) (by omega) (by omega) g1 g2 g3 rfl
      have f4 := zef_at (i := 78) (k := 4) (n := n) (by omega) (by omega) g1 g2 g3 rfl
      have f5 := zef_at (i := 81) (k := 5) (n := n) (by omega) (by omega) g1 g2 g3 rfl
      have f6 := zef_at (i := 84) (k := 6) (n := n) (by omega) (by omega) g1 g2 g3 rfl
      have eqn : ¬ cvP A' t k e = true → some (false, Value.int (Int32.ofNat (vwN (cvP A' t k) e))) = some (false, .int (Int32.ofNat (vwN (cvP A' t k) (e + 1)))) := fun z => by rw [vwN_s z]
      have eqy : cvP A' t k e = true → some (false, Value.int (Int32.ofNat (vwN (cvP A' t k) e) ||| (Int32.ofInt 1 <<< (Int32.ofNat e &&& 31)))) = some (false, .int (Int32.ofNat (vwN (cvP A' t k) (e + 1)))) := fun z => by rw [n32_vw (by omega) z]
      have le1 : ((e + 1 : Nat) : Int) ≤ n.toInt := by omega
      refine ⟨(Int32.ofNat e, n), rfl, ⟨hn, n0, n1⟩, fun h2 => ?_, fun h2 => ⟨fun h3 => ?_, fun h3 => ⟨fun h4 => ?_, fun h4 => ⟨fun h5 => ⟨fun h6 => ?_, fun h6 => ⟨fun h7 => ?_, fun h7 => ?_⟩⟩, fun h5 => ?_⟩⟩⟩⟩
      · have h2 : zen A' n e = .null := h2
        rw [ez] at h2
        cases h2
      · have h3 : (iv (zF A' 193 2)).toInt < (iv (zef A' n e 72)).toInt := h3
        rw [f3, ht] at h3
        have h3 : t.toInt < (iv (zF A' (rv_ (zR A' 195 e)) 3)).toInt := h3
        exact ⟨e + 1, ⟨eq1, eqn (fun z => by have := (of_decide_eq_true z).1; omega), rfl, trivial⟩, rfl, rfl, le1⟩
      · have h4 : (iv (zef A' n e 78)).toInt < (iv (zF A' 193 2)).toInt := h4
        rw [f4, ht] at h4
        have h4 : (iv (zF A' (rv_ (zR A' 195 e)) 4)).toInt < t.toInt := h4
        exact ⟨e + 1, ⟨eq1, eqn (fun z => by have := (of_decide_eq_true z).2.1; omega), rfl, trivial⟩, rfl, rfl, le1⟩
      · have h3 : ¬ (iv (zF A' 193 2)).toInt < (iv (zef A' n e 72)).toInt := h3
        have h4 : ¬ (iv (zef A' n e 78)).toInt < (iv (zF A' 193 2)).toInt := h4
        have h5 : (iv (zef A' n e 81)).toInt ≤ (iv (zF A' 193 3)).toInt := h5
        have h6 : (iv (zef A' n e 84)).toInt = (Int32.ofInt (-9)).toInt := h6
        rw [f3, ht] at h3
        rw [f4, ht] at h4
        rw [f5, hk] at h5
        rw [f6, em9] at h6
        have h3 : ¬ t.toInt < (iv (zF A' (rv_ (zR A' 195 e)) 3)).toInt := h3
        have h4 : ¬ (iv (zF A' (rv_ (zR A' 195 e)) 4)).toInt < t.toInt := h4
        have h5 : (iv (zF A' (rv_ (zR A' 195 e)) 5)).toInt ≤ k.toInt := h5
        exact ⟨e + 1, ⟨eq1, eqy (decide_eq_true ⟨by omega, by omega, h5, Or.inl h6⟩), rfl, trivial⟩, rfl, rfl, le1⟩
      · have h6 : ¬ (iv (zef A' n e 84)).toInt = (Int32.ofInt (-9)).toInt := h6
        have h7 : (iv (zef A' n e 84)).toInt ≤ (iv (zF A' 193 3)).toInt := h7
        rw [f6, em9] at h6
        rw [f6, hk] at h7
        have h7 : (iv (zF A' (rv_ (zR A' 195 e)) 6)).toInt ≤ k.toInt := h7
        exact ⟨e + 1, ⟨eq1, eqn (fun z => by
          rcases (of_decide_eq_true z).2.2.2 with y | y
          · exact h6 y
          · omega), rfl, trivial⟩, rfl, rfl, le1⟩
      · have h3 : ¬ (iv (zF A' 193 2)).toInt < (iv (zef A' n e 72)).toInt := h3
        have h4 : ¬ (iv (zef A' n e 78)).toInt < (iv (zF A' 193 2)).toInt := h4
        have h5 : (iv (zef A' n e 81)).toInt ≤ (iv (zF A' 193 3)).toInt := h5
        have h7 : ¬ (iv (zef A' n e 84)).toInt ≤ (iv (zF A' 193 3)).toInt := h7
        rw [f3, ht] at h3
        rw [f4, ht] at h4
        rw [f5, hk] at h5
        rw [f6, hk] at h7
        have h3 : ¬ t.toInt < (iv (zF A' (rv_ (zR A' 195 e)) 3)).toInt := h3
        have h4 : ¬ (iv (zF A' (rv_ (zR A' 195 e)) 4)).toInt < t.toInt := h4
        have h5 : (iv (zF A' (rv_ (zR A' 195 e)) 5)).toInt ≤ k.toInt := h5
        have h7 : ¬ (iv (zF A' (rv_ (zR A' 195 e)) 6)).toInt ≤ k.toInt := h7
        exact ⟨e + 1, ⟨eq1, eqy (decide_eq_true ⟨by omega, by omega, h5, Or.inr (by omega)⟩), rfl, trivial⟩, rfl, rfl, le1⟩
      · have h5 : ¬ (iv (zef A' n e 81)).toInt ≤ (iv (zF A' 193 3)).toInt := h5
        rw [f5, hk] at h5
        have h5 : ¬ (iv (zF A' (rv_ (zR A' 195 e)) 5)).toInt ≤ k.toInt := h5
        exact ⟨e + 1, ⟨eq1, eqn (fun z => h5 (of_decide_eq_true z).2.2.1), rfl, trivial⟩, rfl, rfl, le1⟩
  · obtain ⟨n, t, k⟩ := a
    obtain ⟨⟨⟨hn, n0, n1⟩, hE⟩, ht, hk⟩ := hp
    exact ⟨0, ⟨rfl, rfl, rfl, trivial⟩, rfl, rfl, n0⟩
/-! of each world but some: what is in view and not true there -/
def addF (f : Nat → Int64) (S : Nat) : Nat → Int64 := fun x => if x = S / 64 then f x ||| (Int64.ofNat 1 <<< ((Int32.ofNat (S % 64)).toInt64 &&& 63)) else f x
def fmF (m : Nat) (out : Nat → Bool) (sS : Nat → Nat) (o : Nat → Int64) : Nat → Nat → Int64
  | 0 => fun x => if x < m then Int64.ofNat 0 else o x
  | w + 1 => if out w = true then addF (fmF m out sS o w) (sS w) else fmF m out sS o w
theorem addF_b {f : Nat → Int64} {S T : Nat} : bF (addF f S) T = (decide (T = S) || bF f T) := bF_add (by
  unfold addF
  rw [if_pos rfl]) (fun r hr => by
  unfold addF
  rw [if_neg hr]) T
theorem fmF_b {m : Nat} {out : Nat → Bool} {sS : Nat → Nat} {o : Nat → Int64} {T : Nat} (hT : T / 64 < m) : ∀ {n : Nat}, bF (fmF m out sS o n) T = true ↔ ∃ w, w < n ∧ out w = true ∧ sS w = T
  | 0 => by
    constructor
    · intro h
      have h : ((if T / 64 < m then Int64.ofNat 0 else o (T / 64))).toBitVec.getLsbD (T % 64) = true := h
      rw [if_pos hT, l_zero.mp rfl _ (by omega)] at h
      cases h
    · rintro ⟨w, h, -⟩
      exact absurd h (Nat.not_lt_zero w)
  | n + 1 => by
    have ih := fmF_b (m := m) (out := out) (sS := sS) (o := o) hT (n := n)
    show bF (if out n = true then addF (fmF m out sS o n) (sS n) else fmF m out sS o n) T = true ↔ _
    by_cases ho : out n = true
    · rw [if_pos ho, addF_b, Bool.or_eq_true, ih]
      constructor
      · rintro (h | ⟨w, a, b, c⟩)
        · exact ⟨n, Nat.lt_succ_self n, ho, (of_decide_eq_true h).symm⟩
        · exact ⟨w, Nat.lt_succ_of_lt a, b, c⟩
      · rintro ⟨w, a, b, c⟩
        by_cases e : w = n
        · subst e
          exact Or.inl (decide_eq_true c.symm)
        · exact Or.inr ⟨w, by omega, b, c⟩
    · rw [if_neg ho, ih]
      constructor
      · rintro ⟨w, a, b, c⟩
        exact ⟨w, Nat.lt_succ_of_lt a, b, c⟩
      · rintro ⟨w, a, b, c⟩
        by_cases e : w = n
        · subst e
          exact absurd b ho
        · exact ⟨w, by omega, b, c⟩
/-- the entries true in each world -/
def ztw (A : zW) (w : Nat) : Nat := (zI A 196 w).toInt.toNat
def zti (A : zW) : Prop := ∀ w, w < 256 → zI A 196 w = Int32.ofNat (ztw A w) ∧ ztw A w < 4096
def zouF (A : zW) (q : Nat) (w : Nat) : Bool := !(zhW (zJ A (q + 1)) w)
def zsS (A : zW) (V : Nat) (w : Nat) : Nat := (ztw A w &&& V) ^^^ V
theorem zsS_lt {A : zW} {V w : Nat} (hV : V < 4096) : zsS A V w < 4096 := Nat.xor_lt_two_pow (n := 12) (Nat.and_lt_two_pow _ hV) hV
theorem zsS_b {A : zW} {V w i : Nat} : (zsS A V w).testBit i = true ↔ V.testBit i = true ∧ ¬ (ztw A w).testBit i = true := by
  unfold zsS
  rw [Nat.testBit_xor, Nat.testBit_and]
  cases (ztw A w).testBit i <;> cases V.testBit i <;> decide
set_option maxRecDepth 20000 in
theorem zad_s {A : zW} {f : Nat → Int64} {S : Nat} : zad (zsJ A 200 f) 199 S = zsJ A 200 (addF f S) := by
  unfold zad
  show zuJ (zsJ A 200 f) 200 (S / 64) (zJ (zsJ A 200 f) 200 (S / 64) ||| _) = _
  rw [zsJ_at]
  refine zuJ_zsJ (fun x => ?_)
  unfold addF
  by_cases h : x = S / 64
  · rw [if_pos h, if_pos h, h]
  · rw [if_neg h, if_neg h]
def zclF (A : zW) (q V n : Nat) : Nat → Int64 := fmF 64 (zouF A q) (zsS A V) (zJ A 200) n
def zq_collect : zQ := zfu (fun a : Nat × Nat => [.ref 193, .ref a.1, .int (Int32.ofNat a.2), .int (Int32.ofNat a.2)]) (fun a A => zB a.1 4 = true ∧ a.1 ≠ 199 ∧ a.2 < 4096 ∧ zti A) (fun _ _ => none) (fun a A => zsJ A 200 (zclF A a.1 a.2 256))
def in_zcl (A : zW) (q V : Nat) : fL_ → List Value → zW → Prop := fun lg vs A' => ∃ w : Nat, f_sub [(4, false, .int (Int32.ofNat w)), (0, false, .ref 193), (1, false, .ref q), (2, false, .int (Int32.ofNat V)), (3, false, .int (Int32.ofNat V))] lg ∧ vs = [] ∧ A' = zsJ A 200 (zclF A q V w) ∧ w ≤ 256
theorem e256 : (Int32.ofInt 256).toInt = 256 := by decide
set_option maxRecDepth 20000 in
set_option maxHeartbeats 8000000 in
theorem za_X2_collect : zdo r_X2_collect zq_collect := by
  refine zdo_fu [(279, 1, zq_clear), (183, 2, zq_has), (288, 2, zq_add)] (fun a A => [(10, in_zcl A a.1 a.2)]) 80 fo_X2 rfl (zs_cons rfl za_X1_clear (zs_cons rfl za_X1_has (zs_cons rfl za_X1_add zs_nil))) k_X2_collect (fun a A hp => ?_) (fun a A hp => ?_)
  · obtain ⟨q, V⟩ := a
    obtain ⟨hB, hq, hV, hT⟩ := hp
    have hB : zB q 4 = true := hB
    have hq : q ≠ 199 := hq
    have hV : V < 4096 := hV
    have hT : zti A := hT
    refine List.forall_mem_cons.mpr ⟨?_, fun _ h => absurd h List.not_mem_nil⟩
    rintro lg vs A' ⟨w, hs, rfl, eA, hw⟩
    have hw : w ≤ 256 := hw
    have tw := n32_t (show w < 4096 by omega)
    have eq1 : some (false, Value.int (Int32.ofNat w + Int32.ofInt 1)) = some (false, .int (Int32.ofNat (w + 1))) := by rw [n32_s (by omega)]
    refine ⟨_, 80, hs, fun h => ?_, fun h => ?_⟩
    · have h : (Int32.ofInt 256).toInt ≤ (Int32.ofNat w).toInt := h
      rw [e256, tw] at h
      refine ⟨rfl, ?_⟩
      rw [eA, show w = 256 by omega]
    · have h : ¬ (Int32.ofInt 256).toInt ≤ (Int32.ofNat w).toInt := h
      rw [e256, tw] at h
      have eJ : zJ A' (q + 1) = zJ A (q + 1) := by rw [eA]; exact zJ_n (by omega)
      obtain ⟨hi, ht⟩ := hT w (by omega)
      refine ⟨(q, Int32.ofNat w), rfl, ⟨hB, (show 0 ≤ (Int32.ofNat w).toInt by omega), (show (Int32.ofNat w).toInt < 256 by omega)⟩, fun h2 => ?_, fun h2 => ?_⟩
      · have h2 : ¬ (zb (zhW (zJ A' (q + 1)) (Int32.ofNat w).toInt.toNat)).toInt = 0 := h2
        have h2 := zb_t h2
        rw [eJ, tw] at h2
        refine ⟨w + 1, ⟨eq1, rfl, rfl, rfl, rfl, trivial⟩, rfl, ?_, (show w + 1 ≤ 256 by omega)⟩
        rw [eA]
        show zsJ A 200 (fmF 64 (zouF A q) (zsS A V) (zJ A 200) w) = zsJ A 200 (if zouF A q w = true then _ else _)
        rw [if_neg (show ¬ zouF A q w = true by unfold zouF; rw [show zhW (zJ A (q + 1)) w = true from h2]; exact Bool.false_ne_true)]
      · have h2 : ¬ ¬ (zb (zhW (zJ A' (q + 1)) (Int32.ofNat w).toInt.toNat)).toInt = 0 := h2
        have h2 := zb_f (Classical.not_not.mp h2)
        rw [eJ, tw] at h2
        have eS : (zI A' 196 (Int32.ofNat w).toNatClampNeg &&& Int32.ofNat V) ^^^ Int32.ofNat V = Int32.ofNat (zsS A V w) := by
          rw [n32_c (by omega), show zI A' 196 w = zI A 196 w by rw [eA]; rfl, hi, n32_and, n32_xor]
          rfl
        refine ⟨(199, 64, zsS A V w), ?_, ⟨zB_199, (by have := zsS_lt (A := A) (w := w) hV; show zsS A V w / 64 < 64; omega), zsS_lt hV⟩, ?_⟩
        · show [Value.ref 199, .int ((zI A' 196 (Int32.ofNat w).toNatClampNeg &&& Int32.ofNat V) ^^^ Int32.ofNat V)] = [.ref 199, .int (Int32.ofNat (zsS A V w))]
          rw [eS]
        · refine ⟨w + 1, ⟨eq1, rfl, rfl, rfl, rfl, trivial⟩, rfl, ?_, (show w + 1 ≤ 256 by omega)⟩
          show zad A' 199 (zsS A V w) = zsJ A 200 (if zouF A q w = true then _ else _)
          rw [if_pos (show zouF A q w = true by unfold zouF; rw [show zhW (zJ A (q + 1)) w = false from h2]; rfl), eA, zad_s]
          rfl
  · obtain ⟨q, V⟩ := a
    refine ⟨(199, 64), rfl, ⟨zB_199, (by decide : 64 ≤ 64)⟩, ?_⟩
    exact ⟨0, ⟨rfl, rfl, rfl, rfl, rfl, trivial⟩, rfl, rfl, by decide⟩
/-! its cuts -/
def zcuG (A : zW) (q V : Nat) : Nat → Int64 := cuR (zclF A q V 256) 12
def zcuW (A : zW) (q V : Nat) : zW := zsJ (zsJ A 200 (zcuG A q V)) 202 (fun x => if x < 64 then lwR (zcuG A q V) 12 x else zJ A 202 x)
abbrev zcuA : Type := Nat × Int32 × Int32 × Int32
def zcuP (a : zcuA) (A : zW) : Prop := (zB a.1 4 = true ∧ a.1 ≠ 199) ∧ (zeV A a.2.1 ∧ zF A 193 2 = .int a.2.2.1 ∧ zF A 193 3 = .int a.2.2.2) ∧ zti A
def zcuV (a : zcuA) (A : zW) : Nat := vwN (cvP A a.2.2.1 a.2.2.2) a.2.1.toInt.toNat
set_option maxRecDepth 20000 in
theorem zcuV_lt {a : zcuA} {A : zW} (h : zcuP a A) : zcuV a A < 4096 := by
  obtain ⟨-, ⟨⟨⟨-, n0, n1⟩, -⟩, -⟩, -⟩ := h
  have h1 := vwN_lt (P := cvP A a.2.2.1 a.2.2.2) (n := a.2.1.toInt.toNat)
  have h2 := p2_le a.2.1.toInt.toNat (by omega)
  unfold zcuV
  omega
def zq_cutsFor : zQ := zfu (fun a : zcuA => [.ref 193, .ref a.1]) zcuP (fun _ _ => some (.ref 201)) (fun a A => zcuW A a.1 (zcuV a A))
set_option maxRecDepth 20000 in
theorem zc_X2_cutsFor : zdo r_X2_cutsFor zq_cutsFor := by
  refine zdo_fu [(297, 1, zq_inViewC), (309, 4, zq_collect), (351, 2, zq_closeUp), (339, 3, zq_becomeLows)] (fun _ _ => []) 80 fo_X2 rfl (zs_cons rfl zc_X2_inView (zs_cons rfl za_X2_collect (zs_cons rfl za_X1_closeUp (zs_cons rfl za_X1_becomeLows zs_nil)))) k_X2_cutsFor (fun _ _ _ => no_zh) (fun a A hp => ?_)
  have hV := zcuV_lt hp
  obtain ⟨q, n, t, k⟩ := a
  obtain ⟨⟨hB, hq⟩, hE, hT⟩ := hp
  refine ⟨(n, t, k), rfl, hE, ?_⟩
  refine ⟨(q, vwN (cvP A t k) n.toInt.toNat), rfl, ⟨hB, hq, hV, hT⟩, ?_⟩
  refine ⟨(), rfl, trivial, ?_⟩
  refine ⟨(), rfl, trivial, ?_⟩
  refine ⟨rfl, ?_⟩
  show zsJ (zsJ (zsJ A 200 (zclF A q _ 256)) 200 (cuR (zJ (zsJ A 200 (zclF A q _ 256)) 200) 12)) 202 (fun x => if x < 64 then lwR (zJ (zsJ (zsJ A 200 (zclF A q _ 256)) 200 (cuR (zJ (zsJ A 200 (zclF A q _ 256)) 200) 12)) 200) 12 x else zJ (zsJ (zsJ A 200 (zclF A q _ 256)) 200 (cuR (zJ (zsJ A 200 (zclF A q _ 256)) 200) 12)) 202 x) = _
  rw [zJ_s, zsJ_zsJ, zJ_s, zJ_n (show (202 : Nat) ≠ 200 by decide)]
  rfl
set_option maxRecDepth 20000 in
/-- what they are -/
theorem zcu_iff {A : zW} {q V S : Nat} (hV : V < 4096) (hS : S < 4096) : bF (fun x => if x < 64 then lwR (zcuG A q V) 12 x else zJ A 202 x) S = true ↔ isC (fun w => zouF A q w = true) (ztw A) V S := by
  have e : bF (fun x => if x < 64 then lwR (zcuG A q V) 12 x else zJ A 202 x) S = bF (lwR (zcuG A q V) 12) S := by
    show (if S / 64 < 64 then _ else _ : Int64).toBitVec.getLsbD (S % 64) = _
    rw [if_pos (by omega)]
    rfl
  have key : ∀ T, T < 4096 → (bF (zcuG A q V) T = true ↔ opS (fun w => zouF A q w = true) (ztw A) V T) := fun T hT => by
    unfold zcuG
    rw [cuR_bF (Nat.le_refl _) hT, cuF_iff]
    constructor
    · rintro ⟨U, h1, h2, h3⟩
      have hU : U < 4096 := by
        refine Nat.lt_pow_two_of_testBit (n := 12) U (fun i hi => ?_)
        cases c : U.testBit i with
        | false => rfl
        | true =>
          have h4 := h2 i c
          rw [Nat.testBit_lt_two_pow (Nat.lt_of_lt_of_le (show T < 2 ^ 12 from hT) (Nat.pow_le_pow_right (by decide) hi))] at h4
          cases h4
      obtain ⟨w, w1, w2, w3⟩ := (fmF_b (m := 64) (by omega)).mp h1
      refine ⟨w, w1, w2, fun i a c => h2 i ?_⟩
      rw [← w3]
      exact zsS_b.mpr ⟨a, c⟩
    · rintro ⟨w, w1, w2, w3⟩
      refine ⟨zsS A V w, (fmF_b (m := 64) (by have := zsS_lt (A := A) (w := w) hV; omega)).mpr ⟨w, w1, w2, rfl⟩, fun i a => w3 i (zsS_b.mp a).1 (zsS_b.mp a).2, fun i a _ => ?_⟩
      by_cases h12 : i < 12
      · exact h12
      · rw [Nat.testBit_lt_two_pow (Nat.lt_of_lt_of_le (show T < 2 ^ 12 from hT) (Nat.pow_le_pow_right (by decide) (by omega)))] at a
        cases a
  rw [e, lwR_bF (Nat.le_refl _) hS, cut_iff, key S hS]
  constructor
  · rintro ⟨a, b⟩
    refine ⟨a, fun k hk z => ?_⟩
    have h12 : k < 12 := by
      by_cases h12 : k < 12
      · exact h12
      · rw [Nat.testBit_lt_two_pow (Nat.lt_of_lt_of_le (show S < 2 ^ 12 from hS) (Nat.pow_le_pow_right (by decide) (by omega)))] at hk
        cases hk
    exact b k h12 hk ((key _ (Nat.lt_of_le_of_lt (Nat.sub_le _ _) hS)).mpr z)
  · rintro ⟨a, b⟩
    exact ⟨a, fun k h12 hk z => b k hk ((key _ (Nat.lt_of_le_of_lt (Nat.sub_le _ _) hS)).mp z)⟩
/-! the least of them -/
set_option maxRecDepth 20000 in
theorem zcw_J {A : zW} {q : Nat} {f : Nat → Int64} {set : Int32} : ∀ {n : Nat}, zcw (zsJ A q f) set n = zcw A set n
  | 0 => rfl
  | n + 1 => by
    show (if zbi set n = true then zcw (zsJ A q f) set n + zI A 194 (zsr A n).toInt.toNat else zcw (zsJ A q f) set n) = (if zbi set n = true then zcw A set n + zI A 194 (zsr A n).toInt.toNat else zcw A set n)
    rw [zcw_J]
set_option maxRecDepth 20000 in
theorem zcw_le {A : zW} {set : Int32} : ∀ {n : Nat}, n ≤ 12 → (∀ e, e < n → 0 ≤ (zI A 194 (zsr A e).toInt.toNat).toInt ∧ (zI A 194 (zsr A e).toInt.toNat).toInt ≤ 9) → 0 ≤ (zcw A set n).toInt ∧ (zcw A set n).toInt ≤ 9 * (n : Int)
  | 0, _, _ => ⟨(by decide : 0 ≤ (0 : Int32).toInt), (by decide : (0 : Int32).toInt ≤ 9 * ((0 : Nat) : Int))⟩
  | n + 1, hn, h => by
    obtain ⟨a, b⟩ := zcw_le (A := A) (set := set) (n := n) (by omega) (fun e he => h e (by omega))
    obtain ⟨c, d⟩ := h n (by omega)
    show 0 ≤ (if zbi set n = true then zcw A set n + zI A 194 (zsr A n).toInt.toNat else zcw A set n).toInt ∧ (if zbi set n = true then zcw A set n + zI A 194 (zsr A n).toInt.toNat else zcw A set n).toInt ≤ 9 * ((n + 1 : Nat) : Int)
    split
    · rw [i_add (by omega) (by omega)]
      omega
    · omega
def costC (A : zW) (n S : Nat) : Int := (zcw A (Int32.ofNat S) n).toInt * 16 + ((pcN 12 S : Nat) : Int)
def encL (c : Nat → Int) : Option Nat → Int32 × Int
  | none => (Int32.ofInt 0, 2147483647)
  | some b => (Int32.ofNat b, c b)
theorem lstF_none {p : Nat → Bool} {c : Nat → Int} {m : Nat} : ∀ {k : Nat}, (∀ i, m ≤ i → i < m + k → ¬ p i = true) → lstF p c (m + k) = lstF p c m
  | 0, _ => rfl
  | k + 1, h => by
    show (if p (m + k) = true then _ else lstF p c (m + k)) = _
    rw [if_neg (h (m + k) (by omega) (by omega)), lstF_none (fun i a b => h i a (by omega))]
theorem lstF_hit {p : Nat → Bool} {c : Nat → Int} {S : Nat} (h : p S = true) : lstF p c (S + 1) = (match lstF p c S with
    | none => some S
    | some b => if c S < c b then some S else some b) := by
  show (if p S = true then _ else lstF p c S) = _
  rw [if_pos h]
  cases lstF p c S <;> rfl
def zlcP (a : zcuA) (A : zW) : Prop := zcuP a A ∧ zeS A a.2.1 ∧ ∀ i, i < 6 → 0 ≤ (zI A 194 i).toInt ∧ (zI A 194 i).toInt ≤ 9
def zlcF (a : zcuA) (A : zW) : Nat → Bool := bF (fun x => if x < 64 then lwR (zcuG A a.1 (zcuV a A)) 12 x else zJ A 202 x)
def zlcV (a : zcuA) (A : zW) : Int32 := (encL (costC A a.2.1.toInt.toNat) (lstF (zlcF a A) (costC A a.2.1.toInt.toNat) 4096)).1
def zq_leastCut : zQ := zfu (fun a : zcuA => [.ref 193, .ref a.1]) zlcP (fun a A => some (.int (zlcV a A))) (fun a A => zcuW A a.1 (zcuV a A))
def in_zlc (a : zcuA) (A : zW) : fL_ → List Value → zW → Prop := fun lg vs A' => ∃ (x l g c : Int32) (F : Nat), f_sub [(3, false, .int l), (4, false, .int x), (5, false, .int g), (6, false, .int c), (0, false, .ref 193), (2, false, .ref 201)] lg ∧ vs = [] ∧ A' = zcuW A a.1 (zcuV a A) ∧ ((F : Int) = x.toInt + 1 ∧ F ≤ 4096) ∧ c.toInt = ((cN (zlcF a A) 4096 - cN (zlcF a A) F : Nat) : Int) ∧ (l, g.toInt) = encL (costC A a.2.1.toInt.toNat) (lstF (zlcF a A) (costC A a.2.1.toInt.toNat) F)
theorem eMax : (Int32.ofInt 2147483647).toInt = 2147483647 := by decide
set_option maxRecDepth 20000 in
set_option maxHeartbeats 8000000 in
theorem zc_X2_leastCut : zdo r_X2_leastCut zq_leastCut := by
  refine zdo_fu [(489, 2, zq_cutsFor), (381, 1, zq_size), (390, 2, zq_after), (402, 2, zq_weigh), (511, 1, zq_ibc)] (fun a A => [(21, in_zlc a A)]) 80 fo_X2 rfl (zs_cons rfl zc_X2_cutsFor (zs_cons rfl za_X1_size (zs_cons rfl za_X1_after (zs_cons rfl za_X2_weigh (zs_cons rfl za_J6_ibc zs_nil))))) k_X2_leastCut (fun a A hp => ?_) (fun a A hp => ?_)
  · have hP := hp
    obtain ⟨hcu, hS, hT⟩ := hp
    obtain ⟨⟨hn, n0, n1⟩, hE⟩ := id hS
    have n0 : 0 ≤ a.2.1.toInt := n0
    have n1 : a.2.1.toInt ≤ 12 := n1
    refine List.forall_mem_cons.mpr ⟨?_, fun _ h => absurd h List.not_mem_nil⟩
    rintro lg vs A' ⟨x, l, g, c, F, hs, rfl, eA, ⟨hF, hF4⟩, hc, hlg⟩
    have eJ : zJ A' 202 = fun x => if x < 64 then lwR (zcuG A a.1 (zcuV a A)) 12 x else zJ A 202 x := by rw [eA]; exact zJ_s
    have el := cN_le (p := zlcF a A) (n := 4096)
    refine ⟨_, 80, hs, fun h => ?_, fun h => ?_⟩
    · have h : c.toInt ≤ 0 := h
      rw [hc] at h
      refine ⟨?_, eA⟩
      have e4 : F + (4096 - F) = 4096 := by omega
      have e1 : lstF (zlcF a A) (costC A a.2.1.toInt.toNat) (F + (4096 - F)) = lstF (zlcF a A) (costC A a.2.1.toInt.toNat) F := lstF_none (fun i i1 i2 hi => by
        have m1 := cN_mono (p := zlcF a A) i1
        have m2 : cN (zlcF a A) (i + 1) = cN (zlcF a A) i + 1 := by
          show cN (zlcF a A) i + (if zlcF a A i = true then 1 else 0) = _
          rw [if_pos hi]
        have m3 := cN_mono (p := zlcF a A) (show i + 1 ≤ 4096 by omega)
        omega)
      rw [e4] at e1
      show some (Value.int l) = some (.int (encL (costC A a.2.1.toInt.toNat) (lstF (zlcF a A) (costC A a.2.1.toInt.toNat) 4096)).1)
      rw [e1, ← hlg]
    · have h : ¬ c.toInt ≤ 0 := h
      rw [hc] at h
      obtain ⟨S, s1, s2, s3, s4⟩ := cN_next (p := zlcF a A) (m := F) (k := 4096 - F) (by rw [show F + (4096 - F) = 4096 by omega]; omega)
      have s2 : S < 4096 := by omega
      have tS := n32_t s2
      have hsr : ∀ e, e < a.2.1.toInt.toNat → 0 ≤ (zI A 194 (zsr A e).toInt.toNat).toInt ∧ (zI A 194 (zsr A e).toInt.toNat).toInt ≤ 9 := fun e he => by
        obtain ⟨j, u, g1, g2, g3, g4, u0, u1⟩ := hE e (by omega)
        have es : zsr A e = u := by
          unfold zsr
          rw [g1]
          show iv (zF A j 2) = u
          rw [g4]
          rfl
        rw [es]
        exact hT u.toInt.toNat (by omega)
      obtain ⟨w0, w1⟩ := zcw_le (A := A) (set := Int32.ofNat S) (n := a.2.1.toInt.toNat) (by omega) hsr
      have ew : zcw A' (Int32.ofNat S) a.2.1.toInt.toNat = zcw A (Int32.ofNat S) a.2.1.toInt.toNat := by
        rw [eA]
        unfold zcuW
        rw [zcw_J, zcw_J]
      have eic := icV_ok s2
      have pc := pcN_le (k := 12) (n := S)
      have e16 : (Int32.ofInt 16).toInt = 16 := by decide
      have eC : (zcw A' (Int32.ofNat S) a.2.1.toInt.toNat * Int32.ofInt 16 + icV (Int32.ofNat S)).toInt = costC A a.2.1.toInt.toNat S := by
        rw [ew]
        have m1 : (zcw A (Int32.ofNat S) a.2.1.toInt.toNat * Int32.ofInt 16).toInt = (zcw A (Int32.ofNat S) a.2.1.toInt.toNat).toInt * 16 := by
          rw [i_mul (by rw [e16]; omega) (by rw [e16]; omega), e16]
        rw [i_add (by rw [m1, eic]; omega) (by rw [m1, eic]; omega), m1, eic]
        rfl
      have hcs : costC A a.2.1.toInt.toNat S < 2147483647 := by
        unfold costC
        omega
      have em1 : (Int32.ofInt (-1)).toInt = -1 := by decide
      have q1 : cN (zlcF a A) (S + 1) = cN (zlcF a A) S + 1 := by
        show cN (zlcF a A) S + (if zlcF a A S = true then 1 else 0) = _
        rw [if_pos s3]
      have q2 : cN (zlcF a A) S = cN (zlcF a A) F := by
        have e := cN_none (p := zlcF a A) (m := F) (k := S - F) (fun i i1 i2 => s4 i i1 (by omega))
        rw [show F + (S - F) = S by omega] at e
        exact e
      have ec : (c + Int32.ofInt (-1)).toInt = ((cN (zlcF a A) 4096 - cN (zlcF a A) (S + 1) : Nat) : Int) := by
        rw [i_add (by rw [hc, em1]; omega) (by rw [hc, em1]; omega), hc, em1]
        omega
      have eL : lstF (zlcF a A) (costC A a.2.1.toInt.toNat) S = lstF (zlcF a A) (costC A a.2.1.toInt.toNat) F := by
        have e := lstF_none (p := zlcF a A) (c := costC A a.2.1.toInt.toNat) (m := F) (k := S - F) (fun i i1 i2 => s4 i i1 (by omega))
        rw [show F + (S - F) = S by omega] at e
        exact e
      have eH := lstF_hit (c := costC A a.2.1.toInt.toNat) s3
      rw [eL] at eH
      have hx : ((S + 1 : Nat) : Int) = (Int32.ofNat S).toInt + 1 ∧ S + 1 ≤ 4096 := ⟨by rw [tS]; omega, by omega⟩
      refine ⟨(201, x, S), rfl, ⟨zB_201, ⟨(show -1 ≤ x.toInt by omega), (show x.toInt < (S : Int) by omega)⟩, s2, ?_, fun T t1 t2 => ?_⟩, ?_⟩
      · show bF (zJ A' 202) S = true
        rw [eJ]
        exact s3
      · show ¬ bF (zJ A' 202) T = true
        have t1 : x.toInt < (T : Int) := t1
        rw [eJ]
        exact s4 T (by omega) t2
      refine ⟨(Int32.ofNat S, a.2.1), rfl, (by rw [eA]; exact hS), ?_⟩
      refine ⟨Int32.ofNat S, rfl, trivial, fun h7 => ?_, fun h7 => ?_⟩
      · have h7 : g.toInt ≤ (zcw A' (Int32.ofNat S) a.2.1.toInt.toNat * Int32.ofInt 16 + icV (Int32.ofNat S)).toInt := h7
        rw [eC] at h7
        refine ⟨Int32.ofNat S, l, g, c + Int32.ofInt (-1), S + 1, ⟨rfl, rfl, rfl, rfl, rfl, rfl, trivial⟩, rfl, eA, hx, ec, ?_⟩
        rw [eH]
        cases hb : lstF (zlcF a A) (costC A a.2.1.toInt.toNat) F with
        | none =>
          rw [hb] at hlg
          have hg : g.toInt = 2147483647 := congrArg Prod.snd hlg
          omega
        | some b =>
          rw [hb] at hlg
          have hg : g.toInt = costC A a.2.1.toInt.toNat b := congrArg Prod.snd hlg
          show (l, g.toInt) = encL (costC A a.2.1.toInt.toNat) (if costC A a.2.1.toInt.toNat S < costC A a.2.1.toInt.toNat b then some S else some b)
          rw [if_neg (by omega)]
          exact hlg
      · have h7 : ¬ g.toInt ≤ (zcw A' (Int32.ofNat S) a.2.1.toInt.toNat * Int32.ofInt 16 + icV (Int32.ofNat S)).toInt := h7
        rw [eC] at h7
        refine ⟨Int32.ofNat S, Int32.ofNat S, zcw A' (Int32.ofNat S) a.2.1.toInt.toNat * Int32.ofInt 16 + icV (Int32.ofNat S), c + Int32.ofInt (-1), S + 1, ⟨rfl, rfl, rfl, rfl, rfl, rfl, trivial⟩, rfl, eA, hx, ec, ?_⟩
        rw [eC, eH]
        cases hb : lstF (zlcF a A) (costC A a.2.1.toInt.toNat) F with
        | none => rfl
        | some b =>
          rw [hb] at hlg
          have hg : g.toInt = costC A a.2.1.toInt.toNat b := congrArg Prod.snd hlg
          show (Int32.ofNat S, costC A a.2.1.toInt.toNat S) = encL (costC A a.2.1.toInt.toNat) (if costC A a.2.1.toInt.toNat S < costC A a.2.1.toInt.toNat b then some S else some b)
          rw [if_pos (by omega)]
          rfl
  · obtain ⟨hcu, hS, hT⟩ := hp
    have eJ : zJ (zcuW A a.1 (zcuV a A)) 202 = fun x => if x < 64 then lwR (zcuG A a.1 (zcuV a A)) 12 x else zJ A 202 x := zJ_s
    have e := szA_cN (f := zJ (zcuW A a.1 (zcuV a A)) 202) (k := 64) (by decide)
    rw [show (64 : Nat) * 64 = 4096 from rfl] at e
    refine ⟨a, rfl, hcu, ?_⟩
    refine ⟨(201, 64), rfl, ⟨zB_201, (by decide : 64 ≤ 64)⟩, ?_⟩
    refine ⟨Int32.ofInt (-1), Int32.ofInt 0, Int32.ofInt 2147483647, szA bcV (zJ (zcuW A a.1 (zcuV a A)) 202) 64, 0, ⟨rfl, rfl, rfl, rfl, rfl, rfl, trivial⟩, rfl, rfl, ⟨by decide, by decide⟩, ?_, ?_⟩
    · show _ = ((cN (zlcF a A) 4096 - 0 : Nat) : Int)
      rw [Nat.sub_zero, e, eJ]
      rfl
    · rw [eMax]
      rfl
/-! what is given up -/
def zabF (A : zW) (set : Int32) (v : Value) : Nat → zW
  | 0 => A
  | e + 1 => if zbi set e = true then zuF (zabF A set v e) (rv_ (zR A 195 e)) 6 v else zabF A set v e
set_option maxRecDepth 20000 in
theorem zabF_k {A : zW} {set : Int32} {v : Value} : ∀ {e : Nat}, (∀ i, i < e → 385 ≤ rv_ (zR A 195 i)) → (∀ q k, q < 385 → zF (zabF A set v e) q k = zF A q k) ∧ (∀ q k, zR (zabF A set v e) q k = zR A q k) ∧ (∀ q k, zI (zabF A set v e) q k = zI A q k) ∧ (∀ q k, zJ (zabF A set v e) q k = zJ A q k) ∧ (∀ q, zK (zabF A set v e) q = zK A q) ∧ zN (zabF A set v e) = zN A ∧ ∀ q k, k ≠ 6 → zF (zabF A set v e) q k = zF A q k
  | 0, _ => ⟨fun _ _ _ => rfl, fun _ _ => rfl, fun _ _ => rfl, fun _ _ => rfl, fun _ => rfl, rfl, fun _ _ _ => rfl⟩
  | e + 1, h => by
    obtain ⟨a1, a2, a3, a4, a5, a6, a7⟩ := zabF_k (A := A) (set := set) (v := v) (e := e) (fun i hi => h i (by omega))
    have he := h e (by omega)
    show (∀ q k, q < 385 → zF (if zbi set e = true then zuF (zabF A set v e) (rv_ (zR A 195 e)) 6 v else zabF A set v e) q k = zF A q k) ∧ (∀ q k, zR (if zbi set e = true then zuF (zabF A set v e) (rv_ (zR A 195 e)) 6 v else zabF A set v e) q k = zR A q k) ∧ (∀ q k, zI (if zbi set e = true then zuF (zabF A set v e) (rv_ (zR A 195 e)) 6 v else zabF A set v e) q k = zI A q k) ∧ (∀ q k, zJ (if zbi set e = true then zuF (zabF A set v e) (rv_ (zR A 195 e)) 6 v else zabF A set v e) q k = zJ A q k) ∧ (∀ q, zK (if zbi set e = true then zuF (zabF A set v e) (rv_ (zR A 195 e)) 6 v else zabF A set v e) q = zK A q) ∧ zN (if zbi set e = true then zuF (zabF A set v e) (rv_ (zR A 195 e)) 6 v else zabF A set v e) = zN A ∧ ∀ q k, k ≠ 6 → zF (if zbi set e = true then zuF (zabF A set v e) (rv_ (zR A 195 e)) 6 v else zabF A set v e) q k = zF A q k
    by_cases hb : zbi set e = true
    · rw [if_pos hb]
      refine ⟨fun q k hq => (zuF_ne (by omega)).trans (a1 q k hq), fun q k => zR_uF.trans (a2 q k), fun q k => zI_uF.trans (a3 q k), fun q k => a4 q k, fun q => by rw [zK_uF]; exact a5 q, by rw [zN_uF]; exact a6, fun q k hk => ?_⟩
      rw [zuF_x, if_neg (fun z => hk z.2)]
      exact a7 q k hk
    · rw [if_neg hb]
      exact ⟨a1, a2, a3, a4, a5, a6, a7⟩
def zq_abandonC : zQ := zfu (fun a : Int32 × Int32 => [.ref 193, .int a.1]) (fun a A => zeV A a.2) (fun _ _ => none) (fun a A => zabF A a.1 (zF A 193 3) a.2.toInt.toNat)
def in_zab (A : zW) (set n : Int32) : fL_ → List Value → zW → Prop := fun lg vs A' => ∃ e : Nat, f_sub [(2, false, .int (Int32.ofNat e)), (0, false, .ref 193), (1, false, .int set)] lg ∧ vs = [] ∧ A' = zabF A set (zF A 193 3) e ∧ (e : Int) ≤ n.toInt
set_option maxRecDepth 20000 in
set_option maxHeartbeats 8000000 in
theorem zc_X2_abandon : zdo r_X2_abandon zq_abandonC := by
  refine zdo_fu [(204, 2, zq_entryAt)] (fun a A => [(2, in_zab A a.1 a.2)]) 80 fo_X2 rfl (zs_cons rfl za_X2_entryAt zs_nil) k_X2_abandon (fun a A hp => ?_) (fun a A hp => ?_)
  · obtain ⟨set, n⟩ := a
    obtain ⟨⟨hn, n0, n1⟩, hE⟩ := hp
    have hn : zF A 193 1 = .int n := hn
    have n0 : 0 ≤ n.toInt := n0
    have n1 : n.toInt ≤ 12 := n1
    have hE : ∀ e : Nat, (e : Int) < n.toInt → ∃ j : Nat, zR A 195 e = .ref j ∧ 385 ≤ j ∧ (zK A j).1 = 4 := hE
    refine List.forall_mem_cons.mpr ⟨?_, fun _ h => absurd h List.not_mem_nil⟩
    rintro lg vs A' ⟨e, hs, rfl, eA, he⟩
    have he : (e : Int) ≤ n.toInt := he
    have te := n32_t (show e < 4096 by omega)
    have eq1 : some (false, Value.int (Int32.ofNat e + Int32.ofInt 1)) = some (false, .int (Int32.ofNat (e + 1))) := by rw [n32_s (by omega)]
    obtain ⟨k1, k2, k3, k4, k5, k6, -⟩ := zabF_k (A := A) (set := set) (v := zF A 193 3) (e := e) (fun i hi => by
      obtain ⟨j, g1, g2, -⟩ := hE i (by omega)
      rw [g1]
      exact g2)
    rw [← eA] at k1 k2 k3 k4 k5 k6
    have hn' : zF A' 193 1 = .int n := (k1 193 1 (by decide)).trans hn
    refine ⟨_, 80, hs, fun h => ?_, fun h => ?_⟩
    · have h : (iv (zF A' 193 1)).toInt ≤ (Int32.ofNat e).toInt := h
      rw [hn', te] at h
      have h : n.toInt ≤ (e : Int) := h
      refine ⟨rfl, ?_⟩
      rw [eA]
      show zabF A set (zF A 193 3) e = zabF A set (zF A 193 3) n.toInt.toNat
      rw [show n.toInt.toNat = e by omega]
    · have h : ¬ (iv (zF A' 193 1)).toInt ≤ (Int32.ofNat e).toInt := h
      rw [hn', te] at h
      have h : ¬ n.toInt ≤ (e : Int) := h
      obtain ⟨j, g1, g2, g3⟩ := hE e (by omega)
      have g1' : zR A' 195 e = .ref j := (k2 195 e).trans g1
      have g3' : (zK A' j).1 = 4 := by rw [k5]; exact g3
      have ez := zen_at (A := A') (n := n) (e := e) (by omega) (by omega) g1'
      have le1 : ((e + 1 : Nat) : Int) ≤ n.toInt := by omega
      have eb : (set >>> (Int32.ofNat e &&& 31) &&& Int32.ofInt 1).toInt = if zbi set e = true then 1 else 0 := zbt_c (by omega)
      have e1 : (Int32.ofInt 1).toInt = 1 := by decide
      refine ⟨(Int32.ofNat e, n), rfl, ⟨hn', n0, n1⟩, fun h2 => ?_, fun h2 => ⟨fun h3 => ?_, fun h3 => ⟨?_, ?_⟩⟩⟩
      · have h2 : ¬ (set >>> (Int32.ofNat e &&& 31) &&& Int32.ofInt 1).toInt = (Int32.ofInt 1).toInt := h2
        rw [eb, e1] at h2
        have hb : ¬ zbi set e = true := fun z => h2 (if_pos z)
        refine ⟨e + 1, ⟨eq1, rfl, rfl, trivial⟩, rfl, ?_, le1⟩
        rw [eA]
        show zabF A set (zF A 193 3) e = if zbi set e = true then _ else _
        rw [if_neg hb]
      · have h3 : zen A' n e = .null := h3
        rw [ez] at h3
        cases h3
      · show zc (rv_ (zen A' n e)) (kpd pl_X2 84 (zkd A' (rv_ (zen A' n e)))) = 0
        rw [ez]
        exact zc_d g2
      · have h2 : ¬ ¬ (set >>> (Int32.ofNat e &&& 31) &&& Int32.ofInt 1).toInt = (Int32.ofInt 1).toInt := h2
        rw [eb, e1] at h2
        have hb : zbi set e = true := by
          cases z : zbi set e with
          | true => rfl
          | false =>
            rw [z] at h2
            exact absurd (fun y => absurd y (by decide)) h2
        refine ⟨e + 1, ⟨eq1, rfl, rfl, trivial⟩, rfl, ?_, le1⟩
        show zuF A' (rv_ (zen A' n e)) (kpd pl_X2 84 (zkd A' (rv_ (zen A' n e)))) (zF A' 193 3) = if zbi set e = true then zuF (zabF A set (zF A 193 3) e) (rv_ (zR A 195 e)) 6 (zF A 193 3) else _
        rw [if_pos hb, ez, k1 193 3 (by decide), g1, ← eA]
        show zuF A' j (kpd pl_X2 84 (zkd A' j)) (zF A 193 3) = zuF A' j 6 (zF A 193 3)
        rw [zkd_d g2, g3']
        rfl
  · obtain ⟨set, n⟩ := a
    obtain ⟨⟨hn, n0, n1⟩, hE⟩ := hp
    exact ⟨0, ⟨rfl, rfl, rfl, trivial⟩, rfl, rfl, n0⟩
end
section
/-! the reference: the worlds of sets of entries -/
/-- an entry's sentence, and a word of it -/
def ses (A : zW) (e : Nat) : Nat := (zI A 348 e).toInt.toNat
def sew (A : zW) (e q : Nat) : Int64 := zJ A 344 (4 * ses A e + q)
def sei (A : zW) (n : Nat) : Prop := ∀ e, e < n → 0 ≤ (zI A 348 e).toInt ∧ (zI A 348 e).toInt < 60
/-- the rows of the sets below m -/
def lwOK (A : zW) (f : Nat → Int64) (m : Nat) : Prop := ∀ S, S < m → ∀ q, q < 4 → ∀ i, i < 64 → ((f (4 * S + q)).toBitVec.getLsbD i = true ↔ ∀ e, S.testBit e = true → (sew A e q).toBitVec.getLsbD i = true)
def zlw (A : zW) (l : Int32) (f : Nat → Int64) : zW := zsJ (zuF A 343 17 (.int l)) 354 f
theorem n32_m {S q : Nat} (hS : S < 4096) (hq : q < 4) : (Int32.ofInt 4 * Int32.ofNat S + Int32.ofNat q).toNatClampNeg = 4 * S + q := by
  have e4 : (Int32.ofInt 4).toInt = 4 := by decide
  have tS := n32_t hS
  have tq := n32_t (show q < 4096 by omega)
  have m1 : (Int32.ofInt 4 * Int32.ofNat S).toInt = 4 * (S : Int) := by
    rw [i_mul (by rw [e4, tS]; omega) (by rw [e4, tS]; omega), e4, tS]
  show (Int32.ofInt 4 * Int32.ofNat S + Int32.ofNat q).toInt.toNat = _
  rw [i_add (by rw [m1, tq]; omega) (by rw [m1, tq]; omega), m1, tq]
  omega
theorem n32_ms {s : Int32} {q : Nat} (h0 : 0 ≤ s.toInt) (h1 : s.toInt < 60) (hq : q < 4) : (Int32.ofInt 4 * s + Int32.ofNat q).toNatClampNeg = 4 * s.toInt.toNat + q := by
  have es : s = Int32.ofNat s.toInt.toNat := n32_of (by omega)
  have h := n32_m (S := s.toInt.toNat) (q := q) (by omega) hq
  rw [← es] at h
  exact h
theorem n32_p {S : Nat} (h1 : 1 ≤ S) (h2 : S < 4096) : Int32.ofNat S - Int32.ofInt 1 = Int32.ofNat (S - 1) := by
  have e1 : (Int32.ofInt 1).toInt = 1 := by decide
  have tS := n32_t h2
  refine Int32.toInt_inj.mp ?_
  rw [n32_t (by omega), Int32.toInt_sub, tS, e1]
  rw [Int.bmod_eq_of_le (by omega) (by omega)]
  omega
/-- a set without its lowest element -/
theorem low_b {S e i : Nat} (h1 : S.testBit e = true) (h2 : ∀ i, i < e → S.testBit i = false) : (S &&& (S - 1)).testBit i = true ↔ S.testBit i = true ∧ i ≠ e := by
  rw [Nat.testBit_and, pr_b h1 h2, Bool.and_eq_true]
  by_cases c : i < e
  · rw [if_pos c, h2 i c]
    exact ⟨fun z => absurd z.1 Bool.false_ne_true, fun z => absurd z.1 Bool.false_ne_true⟩
  · rw [if_neg c]
    by_cases d : i = e
    · rw [if_pos d]
      exact ⟨fun z => absurd z.2 Bool.false_ne_true, fun z => absurd d z.2⟩
    · rw [if_neg d]
      exact ⟨fun z => ⟨z.1, d⟩, fun z => ⟨z.1, z.1⟩⟩
theorem low_12 {S e : Nat} (h0 : 1 ≤ S) (hS : S < 4096) (h : ∀ i, i < e → S.testBit i = false) : e < 12 := by
  refine Nat.lt_of_not_le (fun he => ?_)
  have e0 : S = 0 := Nat.eq_of_testBit_eq (fun i => by
    rw [Nat.zero_testBit]
    by_cases c : i < e
    · exact h i c
    · exact Nat.testBit_lt_two_pow (Nat.lt_of_lt_of_le (show S < 2 ^ 12 from hS) (Nat.pow_le_pow_right (by decide) (by omega))))
  omega
abbrev lyA : Type := Int32 × Int32
def lyP (a : lyA) (A : zW) : Prop := (zF A 343 8 = .int a.1 ∧ 0 ≤ a.1.toInt ∧ a.1.toInt ≤ 12) ∧ sei A a.1.toInt.toNat ∧ zF A 343 17 = .int a.2 ∧ (¬ a.2.toInt = 0 → lwOK A (zJ A 354) (2 ^ a.1.toInt.toNat))
def lyQ (a : lyA) (A : zW) (rv : Option Value) (A' : zW) : Prop := rv = none ∧ ∃ (l : Int32) (f : Nat → Int64), A' = zlw A l f ∧ ¬ l.toInt = 0 ∧ lwOK A f (2 ^ a.1.toInt.toNat)
def zq_layW : zQ := zs (fun _ : lyA => [.ref 343]) lyP lyQ
def in_lw15 (A : zW) : fL_ → List Value → zW → Prop := fun lg vs A' => ∃ (i : Nat) (f : Nat → Int64), f_sub [(1, false, .int (Int32.ofNat i)), (0, false, .ref 343)] lg ∧ vs = [] ∧ A' = zlw A (Int32.ofInt 1) f ∧ i ≤ 4 ∧ ∀ x, x < i → f x = Int64.ofInt (-1)
def in_lw37 (A : zW) (m : Nat) : fL_ → List Value → zW → Prop := fun lg vs A' => ∃ (S : Nat) (f : Nat → Int64), f_sub [(1, false, .int (Int32.ofNat S)), (0, false, .ref 343)] lg ∧ vs = [] ∧ A' = zlw A (Int32.ofInt 1) f ∧ 1 ≤ S ∧ S ≤ m ∧ lwOK A f S
def in_lw49 (A : zW) (m : Nat) : fL_ → List Value → zW → Prop := fun lg vs A' => ∃ (S e : Nat) (f : Nat → Int64), f_sub [(2, false, .int (Int32.ofNat e)), (1, false, .int (Int32.ofNat S)), (0, false, .ref 343)] lg ∧ vs = [] ∧ A' = zlw A (Int32.ofInt 1) f ∧ 1 ≤ S ∧ S < m ∧ lwOK A f S ∧ ∀ i, i < e → S.testBit i = false
def lwQ (A : zW) (f : Nat → Int64) (S q : Nat) : Prop := ∀ y, y < q → ∀ i, i < 64 → ((f (4 * S + y)).toBitVec.getLsbD i = true ↔ ∀ e, S.testBit e = true → (sew A e y).toBitVec.getLsbD i = true)
def in_lw66 (A : zW) (m : Nat) : fL_ → List Value → zW → Prop := fun lg vs A' => ∃ (S e q : Nat) (f : Nat → Int64), f_sub [(3, false, .int (Int32.ofNat q)), (2, false, .int (Int32.ofNat e)), (1, false, .int (Int32.ofNat S)), (0, false, .ref 343)] lg ∧ vs = [] ∧ A' = zlw A (Int32.ofInt 1) f ∧ 1 ≤ S ∧ S < m ∧ lwOK A f S ∧ (S.testBit e = true ∧ ∀ i, i < e → S.testBit i = false) ∧ q ≤ 4 ∧ lwQ A f S q
theorem e4i : (Int32.ofInt 4).toInt = 4 := by decide
theorem n32_n {n : Int32} (h0 : 0 ≤ n.toInt) (h1 : n.toInt ≤ 12) : (Int32.ofInt 1 <<< (n &&& 31)).toInt = ((2 ^ n.toInt.toNat : Nat) : Int) := by
  have en : n = Int32.ofNat n.toInt.toNat := n32_of (by omega)
  have h := n32_1t n.toInt.toNat (by omega)
  rw [← en] at h
  exact h
set_option maxRecDepth 20000 in
set_option maxHeartbeats 8000000 in
theorem zc_X12_layWorlds : zdo r_X12_layWorlds zq_layW := by
  refine zdo_of _ _ _ [(475, 2, zq_hasBit)] (fun a A => [(15, in_lw15 A), (37, in_lw37 A (2 ^ a.1.toInt.toNat)), (49, in_lw49 A (2 ^ a.1.toInt.toNat)), (66, in_lw66 A (2 ^ a.1.toInt.toNat))]) 100 fo_X12 rfl (zs_cons rfl za_X12_hasBit zs_nil) k_X12_layWorlds (fun a A hp => ?_) (fun a A hp => ?_)
  · obtain ⟨n, l⟩ := a
    obtain ⟨⟨hn, n0, n1⟩, hs0, hl, hlw⟩ := hp
    have hn : zF A 343 8 = .int n := hn
    have n0 : 0 ≤ n.toInt := n0
    have n1 : n.toInt ≤ 12 := n1
    have hs0 : sei A n.toInt.toNat := hs0
    have hm := p2_le n.toInt.toNat (by omega)
    have h2n := n32_n n0 n1
    show ∀ x ∈ [(15, in_lw15 A), (37, in_lw37 A (2 ^ n.toInt.toNat)), (49, in_lw49 A (2 ^ n.toInt.toNat)), (66, in_lw66 A (2 ^ n.toInt.toNat))], _
    obtain ⟨m, em⟩ : ∃ m : Nat, m = 2 ^ n.toInt.toNat := ⟨_, rfl⟩
    have out : ∀ (f : Nat → Int64) (A' : zW), A' = zlw A (Int32.ofInt 1) f → lwOK A f m → lyQ (n, l) A none A' := fun f A' e1 e2 => ⟨rfl, Int32.ofInt 1, f, e1, by decide, by rw [em] at e2; exact e2⟩
    have bnd : ∀ e S : Nat, S < m → S.testBit e = true → e < n.toInt.toNat := fun e S hS hb => by
      refine Nat.lt_of_not_le (fun c => ?_)
      rw [em] at hS
      rw [Nat.testBit_lt_two_pow (Nat.lt_of_lt_of_le hS (Nat.pow_le_pow_right (by decide) c))] at hb
      cases hb
    rw [← em] at hm h2n ⊢
    refine List.forall_mem_cons.mpr ⟨?_, List.forall_mem_cons.mpr ⟨?_, List.forall_mem_cons.mpr ⟨?_, List.forall_mem_cons.mpr ⟨?_, fun _ h => absurd h List.not_mem_nil⟩⟩⟩⟩
    · rintro lg vs A' ⟨i, f, hs, rfl, eA, hi, hf⟩
      have hi : i ≤ 4 := hi
      have ti := n32_t (show i < 4096 by omega)
      refine ⟨_, 60, hs, fun h => ?_, fun h => ?_⟩
      · have h : (Int32.ofInt 4).toInt ≤ (Int32.ofNat i).toInt := h
        rw [e4i, ti] at h
        refine ⟨1, f, ⟨rfl, rfl, trivial⟩, rfl, eA, (by decide : 1 ≤ 1), (by rw [em]; exact Nat.two_pow_pos _), fun S hS q hq x hx => ?_⟩
        have e0 : S = 0 := by omega
        subst e0
        rw [hf _ (by omega), m1_64 x hx]
        refine ⟨fun _ e he => ?_, fun _ => rfl⟩
        rw [Nat.zero_testBit] at he
        cases he
      · have h : ¬ (Int32.ofInt 4).toInt ≤ (Int32.ofNat i).toInt := h
        rw [e4i, ti] at h
        refine ⟨i + 1, fun x => if x = i then Int64.ofInt (-1) else f x, ⟨?_, rfl, trivial⟩, rfl, ?_, (show i + 1 ≤ 4 by omega), fun x hx => ?_⟩
        · show some (false, Value.int (Int32.ofNat i + Int32.ofInt 1)) = some (false, .int (Int32.ofNat (i + 1)))
          rw [n32_s (by omega)]
        · show zuJ A' 354 (Int32.ofNat i).toNatClampNeg (Int64.ofInt (-1)) = _
          rw [n32_c (by omega), eA]
          exact zuJ_zsJ (fun x => rfl)
        · show (if x = i then _ else f x) = _
          by_cases c : x = i
          · rw [if_pos c]
          · rw [if_neg c]
            exact hf x (by omega)
    · rintro lg vs A' ⟨S, f, hs, rfl, eA, hS1, hSm, hf⟩
      have hSm : S ≤ m := hSm
      have tS : (Int32.ofNat S).toInt = (S : Int) := Int32.toInt_ofNat_of_lt (by omega)
      have en : zF A' 343 8 = .int n := by
        rw [eA]
        show zF (zuF A 343 17 (.int (Int32.ofInt 1))) 343 8 = _
        rw [zuF_x, if_neg (by decide)]
        exact hn
      refine ⟨_, 60, hs, fun h => ?_, fun h => ?_⟩
      · have h : (Int32.ofInt 1 <<< (iv (zF A' 343 8) &&& 31)).toInt ≤ (Int32.ofNat S).toInt := h
        rw [en] at h
        have h : (Int32.ofInt 1 <<< (n &&& 31)).toInt ≤ (Int32.ofNat S).toInt := h
        rw [h2n, tS] at h
        exact out f A' eA (by rw [show m = S by omega]; exact hf)
      · have h : ¬ (Int32.ofInt 1 <<< (iv (zF A' 343 8) &&& 31)).toInt ≤ (Int32.ofNat S).toInt := h
        rw [en] at h
        have h : ¬ (Int32.ofInt 1 <<< (n &&& 31)).toInt ≤ (Int32.ofNat S).toInt := h
        rw [h2n, tS] at h
        exact ⟨S, 0, f, ⟨rfl, rfl, rfl, trivial⟩, rfl, eA, hS1, (show S < m by omega), hf, fun i hi => absurd hi (Nat.not_lt_zero i)⟩
    · rintro lg vs A' ⟨S, e, f, hs, rfl, eA, hS1, hSm, hf, he⟩
      have hSm : S < m := hSm
      have hS4 : S < 4096 := by omega
      have he12 := low_12 hS1 hS4 he
      refine ⟨_, 60, hs, ((Int32.ofNat S).toInt64, Int32.ofNat e), rfl, trivial, fun h => ?_, fun h => ?_⟩
      · have h : ¬ (zb (hbB (Int32.ofNat S).toInt64 (Int32.ofNat e))).toInt = 0 := h
        have h := zb_t h
        rw [zbt_m (by omega), n32_zbi (by omega)] at h
        exact ⟨S, e, 0, f, ⟨rfl, rfl, rfl, rfl, trivial⟩, rfl, eA, hS1, hSm, hf, ⟨h, he⟩, (by decide : 0 ≤ 4), fun y hy => absurd hy (Nat.not_lt_zero y)⟩
      · have h : ¬ ¬ (zb (hbB (Int32.ofNat S).toInt64 (Int32.ofNat e))).toInt = 0 := h
        have h := zb_f (Classical.not_not.mp h)
        rw [zbt_m (by omega), n32_zbi (by omega)] at h
        refine ⟨S, e + 1, f, ⟨?_, rfl, rfl, trivial⟩, rfl, eA, hS1, hSm, hf, fun i hi => ?_⟩
        · show some (false, Value.int (Int32.ofNat e + Int32.ofInt 1)) = some (false, .int (Int32.ofNat (e + 1)))
          rw [n32_s (by omega)]
        · by_cases c : i = e
          · rw [c]
            exact h
          · exact he i (by omega)
    · rintro lg vs A' ⟨S, e, q, f, hs, rfl, eA, hS1, hSm, hf, ⟨hb, he⟩, hq, hqf⟩
      have hSm : S < m := hSm
      have hq : q ≤ 4 := hq
      have hS4 : S < 4096 := by omega
      have he12 := low_12 hS1 hS4 he
      have tq := n32_t (show q < 4096 by omega)
      refine ⟨_, 60, hs, fun h => ?_, fun h => ?_⟩
      · have h : (Int32.ofInt 4).toInt ≤ (Int32.ofNat q).toInt := h
        rw [e4i, tq] at h
        refine ⟨S + 1, f, ⟨?_, rfl, trivial⟩, rfl, eA, (show 1 ≤ S + 1 by omega), (show S + 1 ≤ m by omega), fun T hT y hy i hi => ?_⟩
        · show some (false, Value.int (Int32.ofNat S + Int32.ofInt 1)) = some (false, .int (Int32.ofNat (S + 1)))
          refine congrArg (fun z => some (false, Value.int z)) (Int32.toInt_inj.mp ?_)
          have e1 : (Int32.ofInt 1).toInt = 1 := by decide
          have tS := n32_t hS4
          rw [i_add (by omega) (by omega), tS, e1, Int32.toInt_ofNat_of_lt (by omega)]
          omega
        · by_cases c : T = S
          · rw [c]
            exact hqf y (by omega) i hi
          · exact hf T (by omega) y hy i hi
      · have h : ¬ (Int32.ofInt 4).toInt ≤ (Int32.ofNat q).toInt := h
        rw [e4i, tq] at h
        have hq4 : q < 4 := by omega
        have hen := bnd e S hSm hb
        obtain ⟨s0, s1⟩ := hs0 e hen
        have eJ : zJ A' 354 = f := by rw [eA]; exact zJ_s
        have eT : zJ A' 344 = zJ A 344 := by rw [eA]; exact zJ_n (by decide)
        have eI : ∀ x, zI A' 348 x = zI A 348 x := fun x => by rw [eA]; rfl
        have eand : Int32.ofNat S &&& (Int32.ofNat S - Int32.ofInt 1) = Int32.ofNat (S &&& (S - 1)) := by rw [n32_p hS1 hS4, n32_and]
        have hlt : S &&& (S - 1) < S := Nat.lt_of_le_of_lt Nat.and_le_right (by omega)
        have i1 := n32_m hS4 hq4
        have i2 : (Int32.ofInt 4 * (Int32.ofNat S &&& (Int32.ofNat S - Int32.ofInt 1)) + Int32.ofNat q).toNatClampNeg = 4 * (S &&& (S - 1)) + q := by
          rw [eand]
          exact n32_m (by omega) hq4
        have i3 : (Int32.ofInt 4 * zI A' 348 (Int32.ofNat e).toNatClampNeg + Int32.ofNat q).toNatClampNeg = 4 * ses A e + q := by
          rw [n32_c (by omega), eI]
          exact n32_ms s0 s1 hq4
        refine ⟨S, e, q + 1, fun x => if x = 4 * S + q then f (4 * (S &&& (S - 1)) + q) &&& sew A e q else f x, ⟨?_, rfl, rfl, rfl, trivial⟩, rfl, ?_, hS1, hSm, fun T hT y hy i hi => ?_, ⟨hb, he⟩, (show q + 1 ≤ 4 by omega), fun y hy i hi => ?_⟩
        · show some (false, Value.int (Int32.ofNat q + Int32.ofInt 1)) = some (false, .int (Int32.ofNat (q + 1)))
          rw [n32_s (by omega)]
        · show zuJ A' 354 (Int32.ofInt 4 * Int32.ofNat S + Int32.ofNat q).toNatClampNeg (zJ A' 354 (Int32.ofInt 4 * (Int32.ofNat S &&& (Int32.ofNat S - Int32.ofInt 1)) + Int32.ofNat q).toNatClampNeg &&& zJ A' 344 (Int32.ofInt 4 * zI A' 348 (Int32.ofNat e).toNatClampNeg + Int32.ofNat q).toNatClampNeg) = _
          rw [i1, i2, i3, eJ, eT, eA]
          exact zuJ_zsJ (fun x => rfl)
        · show ((if 4 * T + y = 4 * S + q then _ else f (4 * T + y)) : Int64).toBitVec.getLsbD i = true ↔ _
          rw [if_neg (by omega)]
          exact hf T hT y hy i hi
        · show ((if 4 * S + y = 4 * S + q then _ else f (4 * S + y)) : Int64).toBitVec.getLsbD i = true ↔ _
          by_cases c : y = q
          · subst c
            rw [if_pos rfl, Int64.toBitVec_and, BitVec.getLsbD_and, Bool.and_eq_true, hf _ hlt y hq4 i hi]
            constructor
            · rintro ⟨a, b⟩ x hx
              by_cases d : x = e
              · rw [d]
                exact b
              · exact a x ((low_b hb he).mpr ⟨hx, d⟩)
            · intro a
              exact ⟨fun x hx => a x ((low_b hb he).mp hx).1, a e hb⟩
          · rw [if_neg (by omega)]
            exact hqf y (by omega) i hi
  · obtain ⟨n, l⟩ := a
    obtain ⟨⟨hn, n0, n1⟩, hs0, hl, hlw⟩ := hp
    have hl : zF A 343 17 = .int l := hl
    refine ⟨fun h => ?_, fun h => ?_⟩
    · have h : (iv (zF A 343 17)).toInt = 0 := h
      refine ⟨rfl, 0, zJ A 354, ⟨rfl, rfl, trivial⟩, rfl, ?_, (by decide : 0 ≤ 4), fun x hx => absurd hx (Nat.not_lt_zero x)⟩
      show zuF A 343 17 (.int (Int32.ofInt 1)) = zsJ (zuF A 343 17 (.int (Int32.ofInt 1))) 354 (zJ A 354)
      exact (zsJ_self (fun _ => rfl)).symm
    · have h : ¬ (iv (zF A 343 17)).toInt = 0 := h
      rw [hl] at h
      refine ⟨rfl, l, zJ A 354, ?_, h, hlw h⟩
      show A = zsJ (zuF A 343 17 (.int l)) 354 (zJ A 354)
      rw [zuF_self hl]
      exact (zsJ_self (fun _ => rfl)).symm
end
