/-! what a method keeps: a table of what its locals and its stack hold of places, checked instruction by instruction -/
/-- alike in a part of it, longs too -/
def agj (S : List (Nat × Nat)) (A' A : zW) : Prop := agl S A' A ∧ ∀ q i, q < 385 → (zn lp_sh q, 0) ∈ S → zJ A' q i = zJ A q i
section
variable {S : List (Nat × Nat)} {A B C X : zW} {q i : Nat} {v : Value} {x : Int32} {y : Int64}
theorem agj.rf : agj S A A := ⟨agl.rf, fun _ _ _ _ => rfl⟩
theorem agj.tr (h1 : agj S B A) (h2 : agj S C B) : agj S C A := ⟨h1.1.tr h2.1, fun q i a b => (h2.2 q i a b).trans (h1.2 q i a b)⟩
theorem agj.sub {S' : List (Nat × Nat)} (h : agj S B A) (hs : ∀ y ∈ S', y ∈ S) : agj S' B A := ⟨h.1.sub hs, fun q i a b => h.2 q i a (hs _ b)⟩
theorem zhv_bJ {Wr : List (Nat × Nat)} {A X : zW} {q k : Nat} (hq : q < 385) (h : zwr Wr (zn lp_sh q) 0 = false) : zJ (zhv Wr A X) q k = zJ A q k := by
  show (bif zold A q && !(zwr Wr (zty A q) 0) then zJ A q k else zJ X q k) = _
  rw [zold_b hq]
  unfold zty
  rw [nltT hq]
  show (bif true && !(zwr Wr (zn lp_sh q) 0) then zJ A q k else zJ X q k) = _
  rw [h]
  rfl
theorem agj.hv {Wr : List (Nat × Nat)} (hw : nW S Wr = true) (hN : zN A ≤ zN X) : agj S (zhv Wr A X) A := ⟨agl.hv hw hN, fun _ _ hq hm => zhv_bJ hq (nw_of hw hm)⟩
theorem agj.nF (hq : q < 385) (hs : ¬ (zn lp_sh q, i) ∈ S) : agj S (zuF A q i v) A := ⟨agl.nF hq hs, fun _ _ _ _ => rfl⟩
theorem agj.nI (hq : q < 385) (hs : ¬ (zn lp_sh q, 0) ∈ S) : agj S (zuI A q i x) A := ⟨agl.nI hq hs, fun _ _ _ _ => rfl⟩
theorem agj.nR (hq : q < 385) (hs : ¬ (zn lp_sh q, 0) ∈ S) : agj S (zuR A q i v) A := ⟨agl.nR hq hs, fun _ _ _ _ => rfl⟩
theorem agj.nJ (hs : ¬ (zn lp_sh q, 0) ∈ S) : agj S (zuJ A q i y) A := by
  refine ⟨⟨fun _ _ _ _ => rfl, fun _ _ _ _ => ⟨rfl, rfl⟩, Nat.le_refl _, fun _ _ _ _ _ h => ⟨h, fun _ _ => rfl⟩⟩, fun p k hp hm => ?_⟩
  refine zuJ_ne (fun e => ?_)
  subst e
  exact hs hm
theorem agj.new {ci t : Nat} {D : Nat → Value} (hN : 385 ≤ zN A) : agj S (zuN A ci t D) A := ⟨agl.new hN, fun _ _ _ _ => rfl⟩
theorem agj.dF (h : agj S B A) (hq : zN A ≤ q) (hN : 385 ≤ zN A) : agj S (zuF B q i v) A := ⟨h.1.dF hq hN, h.2⟩
theorem agj.uF (h : agj S B A) : agj S (zuF B q i v) (zuF A q i v) := ⟨h.1.uF, h.2⟩
theorem agj_ov (h : ¬ (17, 19) ∈ S ∧ ¬ (17, 33) ∈ S ∧ ¬ (17, 55) ∈ S) : agj S (zov A) A := ⟨agl_ov h, fun _ _ _ _ => rfl⟩
end
/-! tags: 0 anything, 1 of one slot, q + 2 the place q -/
abbrev kL : Type := List (Nat × Bool × Nat)
abbrev kE : Type := Nat × kL × List Nat
def ktg : Nat → Value → Prop
  | 0, _ => True
  | 1, u => u.category = 1
  | q + 2, u => u = .ref q
def kts : List Nat → List Value → Prop
  | [], [] => True
  | t :: ts, u :: us => ktg t u ∧ kts ts us
  | _, _ => False
def ktl (L : kL) (lg : fL_) : Prop := ∀ x ∈ L, ∃ v, lkb lg x.1 = some (x.2.1, v) ∧ ktg x.2.2 v
def kle (t s : Nat) : Bool := Nat.beq t 0 || (Nat.beq t s || (Nat.beq t 1 && Nat.ble 2 s))
theorem kle_ok {t s : Nat} {u : Value} (h : kle t s = true) (hs : ktg s u) : ktg t u := by
  unfold kle at h
  rw [Bool.or_eq_true, Bool.or_eq_true, Bool.and_eq_true] at h
  rcases h with h | h | ⟨h1, h2⟩
  · have e : t = 0 := Nat.eq_of_beq_eq_true h
    subst e
    exact trivial
  · have e : t = s := Nat.eq_of_beq_eq_true h
    subst e
    exact hs
  · have e : t = 1 := Nat.eq_of_beq_eq_true h1
    subst e
    have h2 : 2 ≤ s := Nat.le_of_ble_eq_true h2
    obtain ⟨q, rfl⟩ : ∃ q, s = q + 2 := ⟨s - 2, by omega⟩
    have hs : u = .ref q := hs
    rw [hs]
    rfl
def ksl : List Nat → List Nat → Bool
  | [], [] => true
  | t :: ts, s :: ss => kle t s && ksl ts ss
  | _, _ => false
theorem ksl_ok : ∀ {ts ss : List Nat} {us : List Value}, ksl ts ss = true → kts ss us → kts ts us
  | [], [], _, _, h => h
  | t :: ts, s :: ss, [], _, h => h.elim
  | t :: ts, s :: ss, u :: us, h, hs => by
    have h : (kle t s && ksl ts ss) = true := h
    rw [Bool.and_eq_true] at h
    exact ⟨kle_ok h.1 hs.1, ksl_ok h.2 hs.2⟩
  | [], _ :: _, _, h, _ => by cases h
  | _ :: _, [], _, h, _ => by cases h
def kll (L2 L : kL) : Bool := L2.all (fun x => L.any (fun y => Nat.beq y.1 x.1 && ((y.2.1 == x.2.1) && kle x.2.2 y.2.2)))
theorem kll_ok {L2 L : kL} {lg : fL_} (h : kll L2 L = true) (hl : ktl L lg) : ktl L2 lg := fun x hx => by
  have h1 := List.all_eq_true.mp h x hx
  obtain ⟨y, y1, y2⟩ := List.any_eq_true.mp h1
  rw [Bool.and_eq_true, Bool.and_eq_true] at y2
  obtain ⟨a, b, c⟩ := y2
  obtain ⟨v, v1, v2⟩ := hl y y1
  have e1 : y.1 = x.1 := Nat.eq_of_beq_eq_true a
  have e2 : y.2.1 = x.2.1 := eq_of_beq b
  rw [e1, e2] at v1
  exact ⟨v, v1, kle_ok c v2⟩
theorem kts1 {a : Nat} {r : List Nat} {us : List Value} (h : kts (a :: r) us) : ∃ u s, us = u :: s ∧ ktg a u ∧ kts r s := by
  cases us with
  | nil => exact h.elim
  | cons u s => exact ⟨u, s, rfl, h.1, h.2⟩
theorem kts2 {a b : Nat} {r : List Nat} {us : List Value} (h : kts (a :: b :: r) us) : ∃ u1 u2 s, us = u1 :: u2 :: s ∧ ktg a u1 ∧ ktg b u2 ∧ kts r s := by
  obtain ⟨u1, s1, rfl, h1, h2⟩ := kts1 h
  obtain ⟨u2, s2, rfl, h3, h4⟩ := kts1 h2
  exact ⟨u1, u2, s2, rfl, h1, h3, h4⟩
theorem kts3 {a b c : Nat} {r : List Nat} {us : List Value} (h : kts (a :: b :: c :: r) us) : ∃ u1 u2 u3 s, us = u1 :: u2 :: u3 :: s ∧ ktg a u1 ∧ ktg b u2 ∧ ktg c u3 ∧ kts r s := by
  obtain ⟨u1, s1, rfl, h1, h2⟩ := kts1 h
  obtain ⟨u2, u3, s2, rfl, h3, h4, h5⟩ := kts2 h2
  exact ⟨u1, u2, u3, s2, rfl, h1, h3, h4, h5⟩
theorem kts_take : ∀ {n : Nat} {S : List Nat} {us : List Value}, kts S us → kts (S.take n) (us.take n)
  | 0, _, _, _ => by
    rw [List.take_zero, List.take_zero]
    exact trivial
  | n + 1, [], [], _ => trivial
  | n + 1, _ :: _, _ :: _, h => ⟨h.1, kts_take h.2⟩
  | n + 1, [], _ :: _, h => h.elim
  | n + 1, _ :: _, [], h => h.elim
theorem kts_drop : ∀ {n : Nat} {S : List Nat} {us : List Value}, kts S us → kts (S.drop n) (us.drop n)
  | 0, _, _, h => h
  | n + 1, [], [], _ => trivial
  | n + 1, _ :: _, _ :: _, h => (kts_drop (n := n) h.2 : kts (List.drop n _) (List.drop n _))
  | n + 1, [], _ :: _, h => h.elim
  | n + 1, _ :: _, [], h => h.elim
theorem kts_app : ∀ {a : List Nat} {b : List Value} {c : List Nat} {d : List Value}, kts a b → kts c d → kts (a ++ c) (b ++ d)
  | [], [], _, _, _, h2 => h2
  | _ :: _, _ :: _, _, _, h1, h2 => ⟨h1.1, kts_app h1.2 h2⟩
  | [], _ :: _, _, _, h1, _ => h1.elim
  | _ :: _, [], _, _, h1, _ => h1.elim
theorem kts_rev : ∀ {a : List Nat} {b : List Value}, kts a b → kts a.reverse b.reverse
  | [], [], _ => trivial
  | t :: a, u :: b, h => by
    rw [List.reverse_cons, List.reverse_cons]
    exact kts_app (kts_rev h.2) ⟨h.1, trivial⟩
  | [], _ :: _, h => h.elim
  | _ :: _, [], h => h.elim
/-! locals -/
def klk (L : kL) (i : Nat) : Option Nat := match L.find? (fun x => Nat.beq x.1 i) with
  | some x => some x.2.2
  | none => none
theorem lk_lkb : ∀ {l : fL_} {i : Nat} {b : Bool} {v : Value}, lkb l i = some (b, v) → lk l i = some v
  | [], _, _, _, h => by cases h
  | x :: l, i, b, v, h => by
    have h : (bif x.1 == i then some x.2 else lkb l i) = some (b, v) := h
    show (bif x.1 == i then some x.2.2 else lk l i) = some v
    cases hx : x.1 == i with
    | true =>
      rw [hx] at h
      have h : some x.2 = some (b, v) := h
      have e := Option.some.inj h
      show some x.2.2 = some v
      rw [e]
    | false =>
      rw [hx] at h
      exact lk_lkb (l := l) h
theorem klk_ok {L : kL} {lg : fL_} {i t : Nat} (h : klk L i = some t) (hl : ktl L lg) : ∃ v, lk lg i = some v ∧ ktg t v := by
  unfold klk at h
  split at h
  · rename_i x hx
    have hm := List.mem_of_find?_eq_some hx
    have hp := List.find?_some hx
    have e : x.1 = i := Nat.eq_of_beq_eq_true hp
    obtain ⟨v, v1, v2⟩ := hl x hm
    rw [e] at v1
    have h := Option.some.inj h
    rw [h] at v2
    exact ⟨v, lk_lkb v1, v2⟩
  · cases h
theorem lkb_flt {p : Nat × Bool × Value → Bool} : ∀ {l : fL_} {i : Nat} {b : Bool} {v : Value}, lkb l i = some (b, v) → p (i, b, v) = true → lkb (l.filter p) i = some (b, v)
  | [], _, _, _, h, _ => by cases h
  | x :: l, i, b, v, h, hp => by
    have h : (bif x.1 == i then some x.2 else lkb l i) = some (b, v) := h
    cases hx : x.1 == i with
    | true =>
      rw [hx] at h
      have h : some x.2 = some (b, v) := h
      have e := Option.some.inj h
      have e1 : x.1 = i := eq_of_beq hx
      have ex : x = (i, b, v) := by rw [← e1, ← e]
      rw [List.filter_cons_of_pos (by rw [ex]; exact hp)]
      show (bif x.1 == i then some x.2 else lkb (l.filter p) i) = some (b, v)
      rw [hx, e]
      rfl
    | false =>
      rw [hx] at h
      have ih := lkb_flt (p := p) (l := l) h hp
      by_cases c : p x = true
      · rw [List.filter_cons_of_pos c]
        show (bif x.1 == i then some x.2 else lkb (l.filter p) i) = some (b, v)
        rw [hx]
        exact ih
      · rw [List.filter_cons_of_neg c]
        exact ih
def ks1 (L : kL) (i t : Nat) : kL := (i, false, t) :: L.filter (fun q => !(q.1 == i) && !(q.1 + 1 == i && q.2.1))
def ks2 (L : kL) (i t : Nat) : kL := (i, true, t) :: L.filter (fun q => !(q.1 == i) && (!(q.1 == i + 1) && !(q.1 + 1 == i && q.2.1)))
theorem ktl.st1 {L : kL} {lg : fL_} {i t : Nat} {v : Value} (hl : ktl L lg) (ht : ktg t v) : ktl (ks1 L i t) (ls1 lg i v) := fun x hx => by
  rcases List.mem_cons.mp hx with rfl | hx
  · refine ⟨v, ?_, ht⟩
    show (bif i == i then some (false, v) else lkb _ i) = some (false, v)
    rw [beq_self_eq_true]
    rfl
  · obtain ⟨h1, h2⟩ := List.mem_filter.mp hx
    obtain ⟨u, u1, u2⟩ := hl x h1
    refine ⟨u, ?_, u2⟩
    have hf := lkb_flt (p := fun q => !(q.1 == i) && !(q.1 + 1 == i && q.2.1)) u1 h2
    rw [Bool.and_eq_true, Bool.not_eq_true'] at h2
    have hne : (i == x.1) = false := beq_eq_false_iff_ne.mpr (fun e => (beq_eq_false_iff_ne.mp h2.1) e.symm)
    show (bif i == x.1 then some (false, v) else lkb (lg.filter _) x.1) = some (x.2.1, u)
    rw [hne]
    exact hf
theorem ktl.st2 {L : kL} {lg : fL_} {i t : Nat} {v : Value} (hl : ktl L lg) (ht : ktg t v) : ktl (ks2 L i t) (ls2 lg i v) := fun x hx => by
  rcases List.mem_cons.mp hx with rfl | hx
  · refine ⟨v, ?_, ht⟩
    show (bif i == i then some (true, v) else lkb _ i) = some (true, v)
    rw [beq_self_eq_true]
    rfl
  · obtain ⟨h1, h2⟩ := List.mem_filter.mp hx
    obtain ⟨u, u1, u2⟩ := hl x h1
    refine ⟨u, ?_, u2⟩
    have hf := lkb_flt (p := fun q => !(q.1 == i) && (!(q.1 == i + 1) && !(q.1 + 1 == i && q.2.1))) u1 h2
    rw [Bool.and_eq_true, Bool.not_eq_true'] at h2
    have hne : (i == x.1) = false := beq_eq_false_iff_ne.mpr (fun e => (beq_eq_false_iff_ne.mp h2.1) e.symm)
    show (bif i == x.1 then some (true, v) else lkb (lg.filter _) x.1) = some (x.2.1, u)
    rw [hne]
    exact hf
/-! a step -/
/-- slots that stay; calls: key, arity, tags of the answer, tags of the arguments -/
abbrev kP : Type := List (Nat × Nat) × List (Nat × Nat × List Nat × List Nat)
def kzk (q : Nat) : Nat := zn zt_k (zn lp_sh q)
theorem zkd_k {A : zW} {q : Nat} (h : q < 385) : zkd A q = kzk q := by
  unfold zkd
  rw [nltT h]
  rfl
def kgf (fl : List (Nat × Nat × Nat)) (i q : Nat) : Nat := match zc q (kfd fl i (kzk q)) with
  | 0 => 0
  | r + 1 => r + 3
theorem kgf_ok {fl : List (Nat × Nat × Nat)} {A : zW} {i q : Nat} (h : q < 385) : ktg (kgf fl i q) (zfl A q (kfd fl i (zkd A q))) := by
  rw [zkd_k h]
  unfold kgf zfl
  cases zc q (kfd fl i (kzk q)) with
  | zero => exact trivial
  | succ r => exact (rfl : Value.ref (r + 1) = .ref (r + 1))
def kin (S : List (Nat × Nat)) (t k : Nat) : Bool := S.any (fun x => Nat.beq x.1 t && Nat.beq x.2 k)
theorem kin_f {S : List (Nat × Nat)} {t k : Nat} (h : kin S t k = false) : ¬ (t, k) ∈ S := zwr_f h
def kcl (P : kP) (key pc : Nat) (L : kL) (S : List Nat) : Option (List kE) := match P.2.find? (fun x => x.1 == key) with
  | some x => match ksl x.2.2.2 (S.take x.2.1).reverse with
    | true => some [(pc + 3, L, x.2.2.1 ++ S.drop x.2.1)]
    | false => none
  | none => none
def kst (fl : List (Nat × Nat × Nat)) (pl : List (Nat × Nat × Nat × Nat)) (kl : List (Nat × Nat × Int)) (P : kP) (ins : Instr) (len pc : Nat) (L : kL) (S : List Nat) : Option (List kE) := match ins, S with
  | .iconst _, S => some [(pc + len, L, 1 :: S)]
  | .bipush v, S => match decide (-128 ≤ v ∧ v < 128) with
    | true => some [(pc + len, L, 1 :: S)]
    | false => none
  | .sipush v, S => match decide (-32768 ≤ v ∧ v < 32768) with
    | true => some [(pc + len, L, 1 :: S)]
    | false => none
  | .lconst _, S => some [(pc + len, L, 0 :: S)]
  | .ldc i, S => match kl.find? (fun x => x.1 == i && x.2.1 == 0) with
    | some _ => some [(pc + len, L, 1 :: S)]
    | none => none
  | .ldc_w i, S => match kl.find? (fun x => x.1 == i && x.2.1 == 0) with
    | some _ => some [(pc + len, L, 1 :: S)]
    | none => none
  | .ldc2_w i, S => match kl.find? (fun x => x.1 == i && x.2.1 == 1) with
    | some _ => some [(pc + len, L, 0 :: S)]
    | none => none
  | .iload_n i, S => match klk L i with
    | some t => some [(pc + len, L, t :: S)]
    | none => none
  | .iload i, S => match klk L i with
    | some t => some [(pc + len, L, t :: S)]
    | none => none
  | .lload_n i, S => match klk L i with
    | some t => some [(pc + len, L, t :: S)]
    | none => none
  | .lload i, S => match klk L i with
    | some t => some [(pc + len, L, t :: S)]
    | none => none
  | .aload_n i, S => match klk L i with
    | some t => some [(pc + len, L, t :: S)]
    | none => none
  | .aload i, S => match klk L i with
    | some t => some [(pc + len, L, t :: S)]
    | none => none
  | .istore_n i, t :: r => some [(pc + len, ks1 L i t, r)]
  | .istore i, t :: r => some [(pc + len, ks1 L i t, r)]
  | .astore_n i, t :: r => some [(pc + len, ks1 L i t, r)]
  | .astore i, t :: r => some [(pc + len, ks1 L i t, r)]
  | .lstore_n i, t :: r => some [(pc + len, ks2 L i t, r)]
  | .lstore i, t :: r => some [(pc + len, ks2 L i t, r)]
  | .iinc i _, S => match klk L i with
    | some _ => some [(pc + len, ks1 L i 1, S)]
    | none => none
  | .iadd, _ :: _ :: r => some [(pc + 1, L, 1 :: r)]
  | .isub, _ :: _ :: r => some [(pc + 1, L, 1 :: r)]
  | .imul, _ :: _ :: r => some [(pc + 1, L, 1 :: r)]
  | .iand, _ :: _ :: r => some [(pc + 1, L, 1 :: r)]
  | .ior, _ :: _ :: r => some [(pc + 1, L, 1 :: r)]
  | .ixor, _ :: _ :: r => some [(pc + 1, L, 1 :: r)]
  | .ishl, _ :: _ :: r => some [(pc + 1, L, 1 :: r)]
  | .ishr, _ :: _ :: r => some [(pc + 1, L, 1 :: r)]
  | .iushr, _ :: _ :: r => some [(pc + 1, L, 1 :: r)]
  | .idiv, _ :: _ :: r => some [(pc + 1, L, 1 :: r)]
  | .irem, _ :: _ :: r => some [(pc + 1, L, 1 :: r)]
  | .ladd, _ :: _ :: r => some [(pc + 1, L, 0 :: r)]
  | .lsub, _ :: _ :: r => some [(pc + 1, L, 0 :: r)]
  | .lmul, _ :: _ :: r => some [(pc + 1, L, 0 :: r)]
  | .land, _ :: _ :: r => some [(pc + 1, L, 0 :: r)]
  | .lor, _ :: _ :: r => some [(pc + 1, L, 0 :: r)]
  | .lxor, _ :: _ :: r => some [(pc + 1, L, 0 :: r)]
  | .lushr, _ :: _ :: r => some [(pc + 1, L, 0 :: r)]
  | .lshr, _ :: _ :: r => some [(pc + 1, L, 0 :: r)]
  | .lshl, _ :: _ :: r => some [(pc + 1, L, 0 :: r)]
  | .ineg, _ :: r => some [(pc + 1, L, 1 :: r)]
  | .i2l, _ :: r => some [(pc + 1, L, 0 :: r)]
  | .l2i, _ :: r => some [(pc + 1, L, 1 :: r)]
  | .i2b, _ :: r => some [(pc + 1, L, 1 :: r)]
  | .i2s, _ :: r => some [(pc + 1, L, 1 :: r)]
  | .lcmp, _ :: _ :: r => some [(pc + 1, L, 1 :: r)]
  | .aconst_null, S => some [(pc + 1, L, 0 :: S)]
  | .dup, t :: r => some [(pc + 1, L, t :: t :: r)]
  | .pop, _ :: r => some [(pc + 1, L, r)]
  | .pop2, _ :: r => some [(pc + 1, L, r)]
  | .dup2, t :: s :: r => some [(pc + 1, L, t :: s :: t :: s :: r)]
  | .goto off, S => some [(f_tg pc off, L, S)]
  | .ifCond _ off, _ :: r => some [(f_tg pc off, L, r), (pc + 3, L, r)]
  | .if_icmp _ off, _ :: _ :: r => some [(f_tg pc off, L, r), (pc + 3, L, r)]
  | .ifnull off, _ :: r => some [(f_tg pc off, L, r), (pc + 3, L, r)]
  | .ifnonnull off, _ :: r => some [(f_tg pc off, L, r), (pc + 3, L, r)]
  | .tableswitch d _ _ os, _ :: r => some ((f_tg pc d, L, r) :: os.toList.map (fun o => (f_tg pc o, L, r)))
  | .getfield i, t :: r => match t with
    | q + 2 => match Nat.blt q 385 with
      | true => some [(pc + 3, L, kgf fl i q :: r)]
      | false => none
    | _ => some [(pc + 3, L, 0 :: r)]
  | .putfield i, _ :: t :: r => match t with
    | q + 2 => match Nat.blt q 385 && (Nat.beq (zc q (kpd pl i (kzk q))) 0 && !(kin P.1 (zn lp_sh q) (kpd pl i (kzk q)))) with
      | true => some [(pc + 3, L, r)]
      | false => none
    | _ => none
  | .iaload, _ :: _ :: r => some [(pc + 1, L, 1 :: r)]
  | .laload, _ :: _ :: r => some [(pc + 1, L, 0 :: r)]
  | .baload, _ :: _ :: r => some [(pc + 1, L, 1 :: r)]
  | .aaload, _ :: _ :: r => some [(pc + 1, L, 0 :: r)]
  | .iastore, _ :: _ :: t :: r => match t with
    | q + 2 => match Nat.blt q 385 && !(kin P.1 (zn lp_sh q) 0) with
      | true => some [(pc + 1, L, r)]
      | false => none
    | _ => none
  | .lastore, _ :: _ :: t :: r => match t with
    | q + 2 => match Nat.blt q 385 && !(kin P.1 (zn lp_sh q) 0) with
      | true => some [(pc + 1, L, r)]
      | false => none
    | _ => none
  | .bastore, _ :: _ :: t :: r => match t with
    | q + 2 => match Nat.blt q 385 && !(kin P.1 (zn lp_sh q) 0) with
      | true => some [(pc + 1, L, r)]
      | false => none
    | _ => none
  | .arraylength, _ :: r => some [(pc + 1, L, 1 :: r)]
  | .instanceof _, _ :: r => some [(pc + 3, L, 1 :: r)]
  | .checkcast _, S => some [(pc + 3, L, S)]
  | .invokevirtual i, S => kcl P (3 * i) pc L S
  | .invokestatic i, S => kcl P (3 * i + 1) pc L S
  | .invokespecial i, S => kcl P (3 * i + 2) pc L S
  | .return_, [] => some []
  | .ireturn, [_] => some []
  | .lreturn, [_] => some []
  | .areturn, [_] => some []
  | _, _ => none
section
variable {T : fT} {Sp : zP} {P : kP} {K : zW → Prop} {k : Nat → fL_ → List Value → zW → Prop} {len pc : Nat} {lg : fL_} {us : List Value} {A : zW} {L : kL} {S : List Nat} {ss : List kE}
/-- the calls keep it -/
def kpc (Sp : zP) (P : kP) (K : zW → Prop) : Prop := ∀ x ∈ P.2, ∃ y : Nat × Nat × zQ, Sp.find? (fun z => z.1 == x.1) = some y ∧ y.2.1 = x.2.1 ∧ ∀ (Us : List Value) (A : zW) (Kt : Option Value → zW → Prop), kts x.2.2.2 Us → K A → (∀ (rv : Option Value) (A' : zW), kts x.2.2.1 rv.toList → K A' → Kt rv A') → y.2.2 Us A Kt
def kgo (K : zW → Prop) (k : Nat → fL_ → List Value → zW → Prop) (ss : List kE) : Prop := ∀ s ∈ ss, ∀ (lg : fL_) (us : List Value) (A : zW), ktl s.2.1 lg → kts s.2.2 us → K A → k s.1 lg us A
theorem kgo.at0 {pc : Nat} {L : kL} {S : List Nat} {r : List kE} (h : kgo K k ((pc, L, S) :: r)) (hl : ktl L lg) (hs : kts S us) (hK : K A) : k pc lg us A := h _ List.mem_cons_self lg us A hl hs hK
theorem kgo.tl {s : kE} {r : List kE} (h : kgo K k (s :: r)) : kgo K k r := fun x hx => h x (List.mem_cons_of_mem _ hx)
theorem kcl_ok {key : Nat} (hP : kpc Sp P K) (h : kcl P key pc L S = some ss) (hl : ktl L lg) (hs : kts S us) (hK : K A) (hk : kgo K k ss) : zcall Sp k key pc lg us A := by
  unfold kcl at h
  split at h
  · rename_i x hx
    have hm := List.mem_of_find?_eq_some hx
    have hp0 := List.find?_some hx
    have hp : x.1 = key := eq_of_beq hp0
    split at h
    · rename_i hle
      have h := Option.some.inj h
      subst h
      obtain ⟨y, y1, y2, y3⟩ := hP x hm
      rw [hp] at y1
      unfold zcall
      rw [y1]
      show y.2.2 (us.take y.2.1).reverse A (fun rv A' => k (pc + 3) lg (rv.toList ++ us.drop y.2.1) A')
      rw [y2]
      exact y3 _ _ _ (ksl_ok hle (kts_rev (kts_take hs))) hK (fun rv A' hr hK' => hk.at0 hl (kts_app hr (kts_drop hs)) hK')
    · cases h
  · cases h
theorem kwT {off : List Int} : ∀ {os : List Int} {r : List Nat} {s : List Value} {x : Int32} {lo : Int}, kgo K k (os.map (fun o => (f_tg pc o, L, r))) → ktl L lg → kts r s → K A → wT k pc lg s A x lo os
  | [], _, _, _, _, _, _, _, _ => trivial
  | _ :: os, _, _, _, _, h, hl, hs, hK => ⟨fun _ => h.at0 hl hs hK, kwT (off := off) (os := os) h.tl hl hs hK⟩
set_option maxHeartbeats 4000000 in
theorem kst_ok {Post : Option Value → zW → Prop} {ins : Instr} (hP : kpc Sp P K) (hS : ∀ A A', K A → agj P.1 A' A → K A') (hR : ∀ rv A, K A → Post rv A) (h : kst T.1 T.2.1 T.2.2.2.1 P ins len pc L S = some ss) (hl : ktl L lg) (hs : kts S us) (hK : K A) (hk : kgo K k ss) : zstep T Sp Post k ins len pc lg us A := by
  unfold kst at h
  split at h
  · have h := Option.some.inj h
    subst h
    exact hk.at0 hl ⟨rfl, hs⟩ hK
  · rename_i v
    split at h
    · rename_i hd
      have h := Option.some.inj h
      subst h
      show (match decide (-128 ≤ v ∧ v < 128) with
        | true => k (pc + len) lg (.int (Int32.ofInt v) :: us) A
        | false => False)
      rw [hd]
      exact hk.at0 hl ⟨rfl, hs⟩ hK
    · cases h
  · rename_i v
    split at h
    · rename_i hd
      have h := Option.some.inj h
      subst h
      show (match decide (-32768 ≤ v ∧ v < 32768) with
        | true => k (pc + len) lg (.int (Int32.ofInt v) :: us) A
        | false => False)
      rw [hd]
      exact hk.at0 hl ⟨rfl, hs⟩ hK
    · cases h
  · have h := Option.some.inj h
    subst h
    exact hk.at0 hl ⟨trivial, hs⟩ hK
  · rename_i i
    split at h
    · rename_i x hx
      have h := Option.some.inj h
      subst h
      show (match T.2.2.2.1.find? (fun x => x.1 == i && x.2.1 == 0) with
        | some x => k (pc + len) lg (.int (Int32.ofInt x.2.2) :: us) A
        | none => False)
      rw [hx]
      exact hk.at0 hl ⟨rfl, hs⟩ hK
    · cases h
  · rename_i i
    split at h
    · rename_i x hx
      have h := Option.some.inj h
      subst h
      show (match T.2.2.2.1.find? (fun x => x.1 == i && x.2.1 == 0) with
        | some x => k (pc + len) lg (.int (Int32.ofInt x.2.2) :: us) A
        | none => False)
      rw [hx]
      exact hk.at0 hl ⟨rfl, hs⟩ hK
    · cases h
  · rename_i i
    split at h
    · rename_i x hx
      have h := Option.some.inj h
      subst h
      show (match T.2.2.2.1.find? (fun x => x.1 == i && x.2.1 == 1) with
        | some x => k (pc + len) lg (.long (Int64.ofInt x.2.2) :: us) A
        | none => False)
      rw [hx]
      exact hk.at0 hl ⟨trivial, hs⟩ hK
    · cases h
  · rename_i i
    split at h
    · rename_i t ht
      have h := Option.some.inj h
      subst h
      obtain ⟨v, v1, v2⟩ := klk_ok ht hl
      show (match lk lg _ with
        | some v => k (pc + len) lg (v :: us) A
        | none => False)
      rw [v1]
      exact hk.at0 hl ⟨v2, hs⟩ hK
    · cases h
  · rename_i i
    split at h
    · rename_i t ht
      have h := Option.some.inj h
      subst h
      obtain ⟨v, v1, v2⟩ := klk_ok ht hl
      show (match lk lg _ with
        | some v => k (pc + len) lg (v :: us) A
        | none => False)
      rw [v1]
      exact hk.at0 hl ⟨v2, hs⟩ hK
    · cases h
  · rename_i i
    split at h
    · rename_i t ht
      have h := Option.some.inj h
      subst h
      obtain ⟨v, v1, v2⟩ := klk_ok ht hl
      show (match lk lg _ with
        | some v => k (pc + len) lg (v :: us) A
        | none => False)
      rw [v1]
      exact hk.at0 hl ⟨v2, hs⟩ hK
    · cases h
  · rename_i i
    split at h
    · rename_i t ht
      have h := Option.some.inj h
      subst h
      obtain ⟨v, v1, v2⟩ := klk_ok ht hl
      show (match lk lg _ with
        | some v => k (pc + len) lg (v :: us) A
        | none => False)
      rw [v1]
      exact hk.at0 hl ⟨v2, hs⟩ hK
    · cases h
  · rename_i i
    split at h
    · rename_i t ht
      have h := Option.some.inj h
      subst h
      obtain ⟨v, v1, v2⟩ := klk_ok ht hl
      show (match lk lg _ with
        | some v => k (pc + len) lg (v :: us) A
        | none => False)
      rw [v1]
      exact hk.at0 hl ⟨v2, hs⟩ hK
    · cases h
  · rename_i i
    split at h
    · rename_i t ht
      have h := Option.some.inj h
      subst h
      obtain ⟨v, v1, v2⟩ := klk_ok ht hl
      show (match lk lg _ with
        | some v => k (pc + len) lg (v :: us) A
        | none => False)
      rw [v1]
      exact hk.at0 hl ⟨v2, hs⟩ hK
    · cases h
  · have h := Option.some.inj h
    subst h
    obtain ⟨u, s, rfl, h1, h2⟩ := kts1 hs
    exact hk.at0 (hl.st1 h1) h2 hK
  · have h := Option.some.inj h
    subst h
    obtain ⟨u, s, rfl, h1, h2⟩ := kts1 hs
    exact hk.at0 (hl.st1 h1) h2 hK
  · have h := Option.some.inj h
    subst h
    obtain ⟨u, s, rfl, h1, h2⟩ := kts1 hs
    exact hk.at0 (hl.st1 h1) h2 hK
  · have h := Option.some.inj h
    subst h
    obtain ⟨u, s, rfl, h1, h2⟩ := kts1 hs
    exact hk.at0 (hl.st1 h1) h2 hK
  · have h := Option.some.inj h
    subst h
    obtain ⟨u, s, rfl, h1, h2⟩ := kts1 hs
    exact hk.at0 (hl.st2 h1) h2 hK
  · have h := Option.some.inj h
    subst h
    obtain ⟨u, s, rfl, h1, h2⟩ := kts1 hs
    exact hk.at0 (hl.st2 h1) h2 hK
  · rename_i i c
    split at h
    · rename_i t ht
      have h := Option.some.inj h
      subst h
      obtain ⟨v, v1, v2⟩ := klk_ok ht hl
      show (match lk lg i with
        | some v => k (pc + len) (ls1 lg i (.int (iv v + Int32.ofInt _))) us A
        | none => False)
      rw [v1]
      exact hk.at0 (hl.st1 (t := 1) rfl) hs hK
    · cases h
  · have h := Option.some.inj h
    subst h
    obtain ⟨u1, u2, s, rfl, h1, h2, h3⟩ := kts2 hs
    exact hk.at0 hl ⟨rfl, h3⟩ hK
  · have h := Option.some.inj h
    subst h
    obtain ⟨u1, u2, s, rfl, h1, h2, h3⟩ := kts2 hs
    exact hk.at0 hl ⟨rfl, h3⟩ hK
  · have h := Option.some.inj h
    subst h
    obtain ⟨u1, u2, s, rfl, h1, h2, h3⟩ := kts2 hs
    exact hk.at0 hl ⟨rfl, h3⟩ hK
  · have h := Option.some.inj h
    subst h
    obtain ⟨u1, u2, s, rfl, h1, h2, h3⟩ := kts2 hs
    exact hk.at0 hl ⟨rfl, h3⟩ hK
  · have h := Option.some.inj h
    subst h
    obtain ⟨u1, u2, s, rfl, h1, h2, h3⟩ := kts2 hs
    exact hk.at0 hl ⟨rfl, h3⟩ hK
  · have h := Option.some.inj h
    subst h
    obtain ⟨u1, u2, s, rfl, h1, h2, h3⟩ := kts2 hs
    exact hk.at0 hl ⟨rfl, h3⟩ hK
  · have h := Option.some.inj h
    subst h
    obtain ⟨u1, u2, s, rfl, h1, h2, h3⟩ := kts2 hs
    exact hk.at0 hl ⟨rfl, h3⟩ hK
  · have h := Option.some.inj h
    subst h
    obtain ⟨u1, u2, s, rfl, h1, h2, h3⟩ := kts2 hs
    exact hk.at0 hl ⟨rfl, h3⟩ hK
  · have h := Option.some.inj h
    subst h
    obtain ⟨u1, u2, s, rfl, h1, h2, h3⟩ := kts2 hs
    exact hk.at0 hl ⟨rfl, h3⟩ hK
  · have h := Option.some.inj h
    subst h
    obtain ⟨u1, u2, s, rfl, h1, h2, h3⟩ := kts2 hs
    exact hk.at0 hl ⟨rfl, h3⟩ hK
  · have h := Option.some.inj h
    subst h
    obtain ⟨u1, u2, s, rfl, h1, h2, h3⟩ := kts2 hs
    exact hk.at0 hl ⟨rfl, h3⟩ hK
  · have h := Option.some.inj h
    subst h
    obtain ⟨u1, u2, s, rfl, h1, h2, h3⟩ := kts2 hs
    exact hk.at0 hl ⟨trivial, h3⟩ hK
  · have h := Option.some.inj h
    subst h
    obtain ⟨u1, u2, s, rfl, h1, h2, h3⟩ := kts2 hs
    exact hk.at0 hl ⟨trivial, h3⟩ hK
  · have h := Option.some.inj h
    subst h
    obtain ⟨u1, u2, s, rfl, h1, h2, h3⟩ := kts2 hs
    exact hk.at0 hl ⟨trivial, h3⟩ hK
  · have h := Option.some.inj h
    subst h
    obtain ⟨u1, u2, s, rfl, h1, h2, h3⟩ := kts2 hs
    exact hk.at0 hl ⟨trivial, h3⟩ hK
  · have h := Option.some.inj h
    subst h
    obtain ⟨u1, u2, s, rfl, h1, h2, h3⟩ := kts2 hs
    exact hk.at0 hl ⟨trivial, h3⟩ hK
  · have h := Option.some.inj h
    subst h
    obtain ⟨u1, u2, s, rfl, h1, h2, h3⟩ := kts2 hs
    exact hk.at0 hl ⟨trivial, h3⟩ hK
  · have h := Option.some.inj h
    subst h
    obtain ⟨u1, u2, s, rfl, h1, h2, h3⟩ := kts2 hs
    exact hk.at0 hl ⟨trivial, h3⟩ hK
  · have h := Option.some.inj h
    subst h
    obtain ⟨u1, u2, s, rfl, h1, h2, h3⟩ := kts2 hs
    exact hk.at0 hl ⟨trivial, h3⟩ hK
  · have h := Option.some.inj h
    subst h
    obtain ⟨u1, u2, s, rfl, h1, h2, h3⟩ := kts2 hs
    exact hk.at0 hl ⟨trivial, h3⟩ hK
  · have h := Option.some.inj h
    subst h
    obtain ⟨u1, s, rfl, h1, h2⟩ := kts1 hs
    exact hk.at0 hl ⟨rfl, h2⟩ hK
  · have h := Option.some.inj h
    subst h
    obtain ⟨u1, s, rfl, h1, h2⟩ := kts1 hs
    exact hk.at0 hl ⟨trivial, h2⟩ hK
  · have h := Option.some.inj h
    subst h
    obtain ⟨u1, s, rfl, h1, h2⟩ := kts1 hs
    exact hk.at0 hl ⟨rfl, h2⟩ hK
  · have h := Option.some.inj h
    subst h
    obtain ⟨u1, s, rfl, h1, h2⟩ := kts1 hs
    exact hk.at0 hl ⟨rfl, h2⟩ hK
  · have h := Option.some.inj h
    subst h
    obtain ⟨u1, s, rfl, h1, h2⟩ := kts1 hs
    exact hk.at0 hl ⟨rfl, h2⟩ hK
  · have h := Option.some.inj h
    subst h
    obtain ⟨u1, u2, s, rfl, h1, h2, h3⟩ := kts2 hs
    exact hk.at0 hl ⟨rfl, h3⟩ hK
  · have h := Option.some.inj h
    subst h
    exact hk.at0 hl ⟨trivial, hs⟩ hK
  · have h := Option.some.inj h
    subst h
    obtain ⟨u1, s, rfl, h1, h2⟩ := kts1 hs
    exact hk.at0 hl ⟨h1, h1, h2⟩ hK
  · have h := Option.some.inj h
    subst h
    obtain ⟨u1, s, rfl, h1, h2⟩ := kts1 hs
    exact hk.at0 hl h2 hK
  · have h := Option.some.inj h
    subst h
    obtain ⟨u1, s, rfl, h1, h2⟩ := kts1 hs
    exact hk.at0 hl h2 hK
  · have h := Option.some.inj h
    subst h
    obtain ⟨u1, u2, s, rfl, h1, h2, h3⟩ := kts2 hs
    exact hk.at0 hl ⟨h1, h2, h1, h2, h3⟩ hK
  · have h := Option.some.inj h
    subst h
    exact hk.at0 hl hs hK
  · have h := Option.some.inj h
    subst h
    obtain ⟨u1, s, rfl, h1, h2⟩ := kts1 hs
    exact ⟨fun _ => hk.at0 hl h2 hK, fun _ => hk.tl.at0 hl h2 hK⟩
  · have h := Option.some.inj h
    subst h
    obtain ⟨u1, u2, s, rfl, h1, h2, h3⟩ := kts2 hs
    exact ⟨fun _ => hk.at0 hl h3 hK, fun _ => hk.tl.at0 hl h3 hK⟩
  · have h := Option.some.inj h
    subst h
    obtain ⟨u1, s, rfl, h1, h2⟩ := kts1 hs
    exact ⟨fun _ => hk.at0 hl h2 hK, fun _ => hk.tl.at0 hl h2 hK⟩
  · have h := Option.some.inj h
    subst h
    obtain ⟨u1, s, rfl, h1, h2⟩ := kts1 hs
    exact ⟨fun _ => hk.at0 hl h2 hK, fun _ => hk.tl.at0 hl h2 hK⟩
  · have h := Option.some.inj h
    subst h
    obtain ⟨u1, s, rfl, h1, h2⟩ := kts1 hs
    exact ⟨fun _ => hk.at0 hl h2 hK, fun _ _ => kwT (off := []) hk.tl hl h2 hK⟩
  · obtain ⟨u1, s, rfl, h1, h2⟩ := kts1 hs
    split at h
    · rename_i q
      have h1 : u1 = .ref q := h1
      subst h1
      split at h
      · rename_i hb
        have h := Option.some.inj h
        subst h
        exact hk.at0 hl ⟨kgf_ok (Nat.le_of_ble_eq_true hb), h2⟩ hK
      · cases h
    · have h := Option.some.inj h
      subst h
      exact hk.at0 hl ⟨trivial, h2⟩ hK
  · rename_i i _ t r
    obtain ⟨u1, u2, s, rfl, h1, h2, h3⟩ := kts2 hs
    split at h
    · rename_i q
      have h2 : u2 = .ref q := h2
      subst h2
      split at h
      · rename_i hb
        have h := Option.some.inj h
        subst h
        rw [Bool.and_eq_true, Bool.and_eq_true, Bool.not_eq_true'] at hb
        obtain ⟨b1, b2, b3⟩ := hb
        have hq : q < 385 := Nat.le_of_ble_eq_true b1
        show zc q (kpd T.2.1 i (zkd A q)) = 0 ∧ k (pc + 3) lg s (zuF A q (kpd T.2.1 i (zkd A q)) u1)
        rw [zkd_k hq]
        exact ⟨Nat.eq_of_beq_eq_true b2, hk.at0 hl h3 (hS _ _ hK (agj.nF hq (kin_f b3)))⟩
      · cases h
    · cases h
  · have h := Option.some.inj h
    subst h
    obtain ⟨u1, u2, s, rfl, h1, h2, h3⟩ := kts2 hs
    exact hk.at0 hl ⟨rfl, h3⟩ hK
  · have h := Option.some.inj h
    subst h
    obtain ⟨u1, u2, s, rfl, h1, h2, h3⟩ := kts2 hs
    exact hk.at0 hl ⟨trivial, h3⟩ hK
  · have h := Option.some.inj h
    subst h
    obtain ⟨u1, u2, s, rfl, h1, h2, h3⟩ := kts2 hs
    exact hk.at0 hl ⟨rfl, h3⟩ hK
  · have h := Option.some.inj h
    subst h
    obtain ⟨u1, u2, s, rfl, h1, h2, h3⟩ := kts2 hs
    exact hk.at0 hl ⟨trivial, h3⟩ hK
  · obtain ⟨u1, u2, u3, s, rfl, h1, h2, h3, h4⟩ := kts3 hs
    split at h
    · rename_i q
      have h3 : u3 = .ref q := h3
      subst h3
      split at h
      · rename_i hb
        have h := Option.some.inj h
        subst h
        rw [Bool.and_eq_true, Bool.not_eq_true'] at hb
        obtain ⟨b1, b3⟩ := hb
        have hq : q < 385 := Nat.le_of_ble_eq_true b1
        exact hk.at0 hl h4 (hS _ _ hK (agj.nI hq (kin_f b3)))
      · cases h
    · cases h
  · obtain ⟨u1, u2, u3, s, rfl, h1, h2, h3, h4⟩ := kts3 hs
    split at h
    · rename_i q
      have h3 : u3 = .ref q := h3
      subst h3
      split at h
      · rename_i hb
        have h := Option.some.inj h
        subst h
        rw [Bool.and_eq_true, Bool.not_eq_true'] at hb
        obtain ⟨b1, b3⟩ := hb
        have hq : q < 385 := Nat.le_of_ble_eq_true b1
        exact hk.at0 hl h4 (hS _ _ hK (agj.nJ (kin_f b3)))
      · cases h
    · cases h
  · obtain ⟨u1, u2, u3, s, rfl, h1, h2, h3, h4⟩ := kts3 hs
    split at h
    · rename_i q
      have h3 : u3 = .ref q := h3
      subst h3
      split at h
      · rename_i hb
        have h := Option.some.inj h
        subst h
        rw [Bool.and_eq_true, Bool.not_eq_true'] at hb
        obtain ⟨b1, b3⟩ := hb
        have hq : q < 385 := Nat.le_of_ble_eq_true b1
        exact hk.at0 hl h4 (hS _ _ hK (agj.nI hq (kin_f b3)))
      · cases h
    · cases h
  · have h := Option.some.inj h
    subst h
    obtain ⟨u1, s, rfl, h1, h2⟩ := kts1 hs
    exact hk.at0 hl ⟨rfl, h2⟩ hK
  · have h := Option.some.inj h
    subst h
    obtain ⟨u1, s, rfl, h1, h2⟩ := kts1 hs
    exact hk.at0 hl ⟨rfl, h2⟩ hK
  · have h := Option.some.inj h
    subst h
    exact hk.at0 hl hs hK
  · exact kcl_ok hP h hl hs hK hk
  · exact kcl_ok hP h hl hs hK hk
  · exact kcl_ok hP h hl hs hK hk
  · cases us with
    | nil => exact hR _ _ hK
    | cons u s => exact hs.elim
  · obtain ⟨u1, s, rfl, h1, h2⟩ := kts1 hs
    cases s with
    | nil => exact hR _ _ hK
    | cons u s => exact h2.elim
  · obtain ⟨u1, s, rfl, h1, h2⟩ := kts1 hs
    cases s with
    | nil => exact hR _ _ hK
    | cons u s => exact h2.elim
  · obtain ⟨u1, s, rfl, h1, h2⟩ := kts1 hs
    cases s with
    | nil => exact hR _ _ hK
    | cons u s => exact h2.elim
  · cases h
end
/-! a method -/
def kchk (fl : List (Nat × Nat × Nat)) (pl : List (Nat × Nat × Nat × Nat)) (kl : List (Nat × Nat × Int)) (P : kP) (code : ck_cd) (tbl : List kE) : Bool := tbl.all (fun e => match code.find? (fun y => Nat.beq y.1 e.1) with
  | none => false
  | some y => match kst fl pl kl P y.2.1 y.2.2 e.1 e.2.1 e.2.2 with
    | none => false
    | some ss => ss.all (fun s => match tbl.find? (fun t => Nat.beq t.1 s.1) with
      | none => false
      | some t => kll t.2.1 s.2.1 && ksl t.2.2 s.2.2))
def kan (K : zW → Prop) (tbl : List kE) : Nat → fL_ → List Value → zW → Prop := fun pc lg us A => ∃ e ∈ tbl, e.1 = pc ∧ ktl e.2.1 lg ∧ kts e.2.2 us ∧ K A
section
variable {T : fT} {Sp : zP} {P : kP} {K : zW → Prop} {code : ck_cd} {cc : ByteArray} {tbl : List kE}
theorem kan_go {ss : List kE} (h : ss.all (fun s => match tbl.find? (fun t => Nat.beq t.1 s.1) with
      | none => false
      | some t => kll t.2.1 s.2.1 && ksl t.2.2 s.2.2) = true) : kgo K (kan K tbl) ss := fun s hs lg us A hl hu hK => by
  have h1 := List.all_eq_true.mp h s hs
  split at h1
  · cases h1
  · rename_i t ht
    rw [Bool.and_eq_true] at h1
    have hp := List.find?_some ht
    exact ⟨t, List.mem_of_find?_eq_some ht, Nat.eq_of_beq_eq_true hp, kll_ok h1.1 hl, ksl_ok h1.2 hu, hK⟩
theorem kp_ok (hT : f_ok T = true) (hN : T.2.2.2.2.2.2 = none) (hSp : zsp T Sp) (hcode : ∀ x ∈ code, decode cc x.1 = .ok (x.2.1, x.2.2)) (hP : kpc Sp P K) (hS : ∀ A A', K A → agj P.1 A' A → K A') (hc : kchk T.1 T.2.1 T.2.2.2.1 P code tbl = true) :
    ∀ (n : Nat) (a fin : fS) (rv : Option Value), fn_ T cc n a fin → fin.2.2.1 = rv.toList → ∀ (lg : fL_) (us : List Value) (A : zW), zrel a.2.2.2.1 lg a.2.1 → zvs a.2.2.2.1 a.2.2.1 us → zA A a.2.2.2.1 a.2.2.2.2 → kan K tbl a.1 lg us A → zfin (fun _ A => K A) fin rv
  | 0, a, fin, rv, hn, hrv, lg, us, A, hr, hv, hA, hk => by
    obtain ⟨e, e1, e2, e3, e4, hK⟩ := hk
    have e0 : a = fin := hn
    subst e0
    rw [hrv] at hv
    obtain ⟨u, rfl⟩ := zvs_opt hv
    exact ⟨A, u, hA, hv, hK⟩
  | n + 1, a, fin, rv, hn, hrv, lg, us, A, hr, hv, hA, hk => by
    obtain ⟨e, e1, e2, e3, e4, hK⟩ := hk
    have h1 := List.all_eq_true.mp hc e e1
    split at h1
    · cases h1
    · rename_i y hy
      split at h1
      · cases h1
      · rename_i ss hss
        have hm := List.mem_of_find?_eq_some hy
        have hp0 := List.find?_some hy
        have hp : y.1 = e.1 := Nat.eq_of_beq_eq_true hp0
        have hdc := hcode _ hm
        rw [hp, e2] at hdc
        obtain ⟨b, ⟨ins', len', hd', hx⟩, hn'⟩ := hn
        rw [hdc] at hd'
        have f1 : (y.2.1, y.2.2) = (ins', len') := by injection hd'
        have f2 : y.2.1 = ins' := congrArg Prod.fst f1
        have f3 : y.2.2 = len' := congrArg Prod.snd f1
        subst f2
        subst f3
        rw [e2] at hss
        have hz := kst_ok (Post := fun _ A => K A) (Sp := Sp) hP hS (fun _ _ h => h) hss e3 e4 hK (kan_go h1)
        obtain ⟨lg', us', A', r1, r2, r3, r4⟩ := zstep_ok (lg := a.2.1) (vs := a.2.2.1) (ws := a.2.2.2.1) (sh := a.2.2.2.2) hT hN hSp hr hv hA hx hz
        exact kp_ok hT hN hSp hcode hP hS hc n b fin rv hn' hrv lg' us' A' r1 r2 r3 r4
end
def klo : Nat → List Nat → kL
  | _, [] => []
  | i, t :: ts => (i, false, t) :: klo (i + 1) ts
theorem klo_ge : ∀ {i : Nat} {ts : List Nat}, ∀ x ∈ klo i ts, i ≤ x.1
  | _, [], x, hx => absurd hx List.not_mem_nil
  | i, t :: ts, x, hx => by
    rcases List.mem_cons.mp hx with rfl | hx
    · exact Nat.le_refl _
    · have := klo_ge (i := i + 1) (ts := ts) x hx
      omega
theorem klo_ok : ∀ {i : Nat} {ts : List Nat} {us : List Value}, ts.all (fun t => Nat.ble 1 t) = true → kts ts us → ktl (klo i ts) (la i us)
  | _, [], _, _, _ => fun x hx => absurd hx List.not_mem_nil
  | _, _ :: _, [], _, h => h.elim
  | i, t :: ts, u :: us, ha, h => by
    rw [List.all_cons, Bool.and_eq_true] at ha
    have hc : u.category = 1 := by
      have := kle_ok (t := 1) (s := t) (u := u) (by
        have h1 : 1 ≤ t := Nat.le_of_ble_eq_true ha.1
        unfold kle
        by_cases e : t = 1
        · subst e
          rfl
        · rw [show Nat.ble 2 t = true from Nat.ble_eq_true_of_le (by omega)]
          simp) h.1
      exact this
    have hb : (u.category == 2) = false := by rw [hc]; rfl
    have e : la i (u :: us) = (i, false, u) :: la (i + 1) us := by
      show (i, u.category == 2, u) :: la (bif u.category == 2 then i + 2 else i + 1) us = _
      rw [hb]
      rfl
    rw [e]
    intro x hx
    rcases List.mem_cons.mp hx with rfl | hx
    · refine ⟨u, ?_, h.1⟩
      show (bif i == i then some (false, u) else _) = some (false, u)
      rw [beq_self_eq_true]
      rfl
    · obtain ⟨v, v1, v2⟩ := klo_ok (i := i + 1) ha.2 h.2 x hx
      have hge := klo_ge x hx
      refine ⟨v, ?_, v2⟩
      show (bif i == x.1 then some (false, u) else lkb (la (i + 1) us) x.1) = some (x.2.1, v)
      rw [show (i == x.1) = false from beq_eq_false_iff_ne.mpr (by omega)]
      exact v1
/-- a method that keeps K -/
def zkq (tags : List Nat) (rt : Nat) (K : zW → Prop) : zQ := fun Us A Kt => kts tags Us ∧ K A ∧ ∀ rv A', zrk rt rv → K A' → Kt rv A'
def krt (rt : Nat) : List Nat := match rt with
  | 0 => []
  | 1 => [1]
  | 2 => [1]
  | _ => [0]
theorem krt_ok {rt : Nat} {rv : Option Value} (h : zrk rt rv) : kts (krt rt) rv.toList := by
  unfold zrk at h
  split at h
  · subst h
    exact trivial
  · obtain ⟨x, rfl⟩ := h
    exact ⟨rfl, trivial⟩
  · obtain ⟨x, rfl, -⟩ := h
    exact ⟨rfl, trivial⟩
  · obtain ⟨x, rfl⟩ := h
    exact ⟨trivial, trivial⟩
  · exact h.elim
theorem zrk_u {rt : Nat} {rv u : Option Value} {ws : va_W} (hr : rt < 4) (h : f_rk rt rv) (hv : zvs ws rv.toList u.toList) : zrk rt u := by
  obtain ⟨h1, h2⟩ := zrk_ok (ws := ws) h hr
  have e : u = rv := by
    match rt, hr, h2 with
    | 0, _, h2 =>
      have h2 : rv = none := h2
      subst h2
      cases u with
      | none => rfl
      | some v => exact hv.elim
    | 1, _, h2 =>
      obtain ⟨x, rfl⟩ := h2
      cases u with
      | none => exact hv.elim
      | some v => rw [hv.1.int]
    | 2, _, h2 =>
      obtain ⟨x, rfl, -⟩ := h2
      cases u with
      | none => exact hv.elim
      | some v => rw [hv.1.int]
    | 3, _, h2 =>
      obtain ⟨x, rfl⟩ := h2
      cases u with
      | none => exact hv.elim
      | some v => rw [hv.1.long]
    | n + 4, hr, _ => omega
  rw [e]
  exact h2
theorem zdo_kq {rt : Nat} {Wr : List (Nat × Nat)} {T : fT} {cc : ByteArray} {code : ck_cd} {tags : List Nat} {K : zW → Prop} (Sp : zP) (P : kP) (tbl : List kE) (hT : f_ok T = true) (hN : T.2.2.2.2.2.2 = none) (hSp : zsp T Sp) (hcode : ∀ x ∈ code, decode cc x.1 = .ok (x.2.1, x.2.2)) (hP : kpc Sp P K) (hS : ∀ A A', K A → agj P.1 A' A → K A') (hr : rt < 4) (ht : tags.all (fun t => Nat.ble 1 t) = true) (hc : (kchk T.1 T.2.1 T.2.2.2.1 P code tbl && (match tbl with
    | e :: _ => Nat.beq e.1 0 && (kll e.2.1 (klo 0 tags) && ksl e.2.2 [])
    | [] => false)) = true) : zdo (fq cw_TT cw_SG rt Wr T cc) (zkq tags rt K) := by
  intro As ws sh rv ws' sh' hx
  refine ⟨zx_fq hx, fun A Us Kt hA hv hQ => ?_⟩
  obtain ⟨q1, q2, q3⟩ := hQ
  rw [Bool.and_eq_true] at hc
  obtain ⟨c1, c2⟩ := hc
  obtain ⟨pc, lg, kd, h1, h2⟩ := hx.1
  obtain ⟨n, hn⟩ := gr_fn h1
  cases tbl with
  | nil => cases c2
  | cons e r =>
    have c2 : (Nat.beq e.1 0 && (kll e.2.1 (klo 0 tags) && ksl e.2.2 [])) = true := c2
    rw [Bool.and_eq_true, Bool.and_eq_true] at c2
    obtain ⟨d1, d2, d3⟩ := c2
    obtain ⟨A', u, g1, g2, g3⟩ := kp_ok hT hN hSp hcode hP hS c1 n _ _ rv hn rfl (la 0 Us) [] A (z_la 0 hv) trivial hA ⟨e, List.mem_cons_self, Nat.eq_of_beq_eq_true d1, kll_ok d2 (klo_ok ht q1), ksl_ok d3 trivial, q2⟩
    exact ⟨A', u, g1, g2, q3 u A' (zrk_u hr hx.2.2.2.2.2 g2) g3⟩
/-! the calls: those that keep it by themselves, those that leave its slots alone -/
theorem kpc_nil {Sp : zP} {S : List (Nat × Nat)} {K : zW → Prop} : kpc Sp (S, []) K := fun _ h => absurd h List.not_mem_nil
theorem kpc_cons {Sp : zP} {S : List (Nat × Nat)} {K : zW → Prop} {key na : Nat} {rts tags : List Nat} {l : List (Nat × Nat × List Nat × List Nat)} {Q : zQ} (h1 : Sp.find? (fun z => z.1 == key) = some (key, na, Q)) (h2 : ∀ (Us : List Value) (A : zW) (Kt : Option Value → zW → Prop), kts tags Us → K A → (∀ (rv : Option Value) (A' : zW), kts rts rv.toList → K A' → Kt rv A') → Q Us A Kt) (h : kpc Sp (S, l) K) : kpc Sp (S, (key, na, rts, tags) :: l) K := fun x hx => by
  rcases List.mem_cons.mp hx with rfl | hx
  · exact ⟨_, h1, rfl, h2⟩
  · exact h x hx
theorem kq_call {K : zW → Prop} {rt : Nat} {tags : List Nat} (Us : List Value) (A : zW) (Kt : Option Value → zW → Prop) (h1 : kts tags Us) (h2 : K A) (h3 : ∀ (rv : Option Value) (A' : zW), kts (krt rt) rv.toList → K A' → Kt rv A') : zkq tags rt K Us A Kt := ⟨h1, h2, fun rv A' hr hK => h3 rv A' (krt_ok hr) hK⟩
theorem hq_call {S : List (Nat × Nat)} {K : zW → Prop} (hS : ∀ A A', K A → agj S A' A → K A') {rt : Nat} {tags : List Nat} {Wr : List (Nat × Nat)} (hw : nW S Wr = true) (Us : List Value) (A : zW) (Kt : Option Value → zW → Prop) (_ : kts tags Us) (h2 : K A) (h3 : ∀ (rv : Option Value) (A' : zW), kts (krt rt) rv.toList → K A' → Kt rv A') : zhq rt Wr Us A Kt := fun X u hr hN => h3 u _ (krt_ok hr) (hS _ _ h2 (agj.hv hw hN))
