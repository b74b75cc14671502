/-! worlds by places: a reference is the number of its place -/
abbrev zW : Type := (Nat → Nat → Int32) × (Nat → Nat → Int64) × (Nat → Nat → Value) × (Nat → Nat → Value) × (Nat → Nat × Nat) × Nat
def zI (A : zW) (q i : Nat) : Int32 := A.1 q i
def zJ (A : zW) (q i : Nat) : Int64 := A.2.1 q i
def zF (A : zW) (q k : Nat) : Value := A.2.2.1 q k
def zR (A : zW) (q i : Nat) : Value := A.2.2.2.1 q i
def zK (A : zW) (q : Nat) : Nat × Nat := A.2.2.2.2.1 q
def zN (A : zW) : Nat := A.2.2.2.2.2
def zn : List Nat → Nat → Nat
  | [], _ => 0
  | x :: _, 0 => x
  | _ :: l, n + 1 => zn l n
def zc_343 : List Nat := [0, 0, 344, 345, 346, 0, 347, 0, 0, 348, 349, 350, 351, 352, 353, 0, 0, 0, 354, 0, 0, 0, 355, 0, 356, 0, 0, 0, 357, 358, 359, 360, 361, 0, 362, 0, 363, 0, 364, 365, 0, 366, 367, 0, 368, 369, 370, 0, 0, 0, 371, 0, 372, 373, 374, 0, 0, 375, 376, 377, 378, 379, 380, 0, 381, 382, 383, 384]
def zc_0 : List Nat := [1, 0, 122, 124, 126, 193, 207, 282, 324, 334, 335, 340, 341, 342, 0]
def zc_193 : List Nat := [194, 0, 0, 0, 195, 196, 197, 199, 201, 203, 205, 0]
def zc_207 : List Nat := [208, 0, 210, 211, 232, 253, 274, 276, 278, 280, 0, 0]
def zc_282 : List Nat := [0, 0, 283, 284, 285, 286, 287, 289, 291, 293, 294, 319, 320, 322, 323, 0, 0]
def zc_324 : List Nat := [325, 0, 332, 0]
def zc_126 : List Nat := [127, 128, 0, 0]
/-- classes and lengths, by type -/
def zt_k : List Nat := [0, 1, 4, 1, 16, 1, 64, 4, 8, 0, 5, 11, 7, 2, 9, 3, 6, 12, 60, 6, 60, 4, 4, 4, 1, 60, 32, 6, 12, 256, 10, 10, 10, 10, 12, 12, 12, 12, 12, 12, 6, 64, 64, 256, 6, 240, 6, 256, 64, 12, 12, 12, 12, 12, 12, 16384, 4096, 4096, 10, 10, 10, 10, 10, 4, 1024, 1024, 10, 12, 12, 12, 12, 12, 4096, 4096, 4096, 49152, 1536, 6, 6, 4, 6, 6, 4, 4, 240, 60, 1, 4, 1, 4, 1, 4, 1, 4]
def zt_b : List Nat := [0, 1, 0, 1, 0, 1, 0, 0, 0, 0, 0, 0, 0, 0, 0, 0, 0, 0, 0, 0, 0, 0, 0, 0, 0, 0, 0, 0, 0, 0, 0, 0, 0, 0, 0, 0, 0, 0, 0, 0, 0, 0, 0, 0, 0, 0, 0, 0, 0, 0, 0, 0, 0, 0, 0, 0, 0, 0, 0, 0, 0, 0, 0, 0, 0, 0, 0, 0, 0, 0, 0, 0, 0, 0, 0, 0, 0, 0, 0, 0, 0, 0, 0, 0, 0, 0, 1, 0, 1, 0, 1, 0, 1, 0]
/-- the lasting reference at a place's slot; 0: none -/
def zc (q k : Nat) : Nat := bif Nat.blt q 385 && Nat.blt k 70 then (bif Nat.beq q 343 then zn zc_343 k else bif Nat.beq q 0 then zn zc_0 k else bif Nat.beq q 193 then zn zc_193 k else bif Nat.beq q 207 then zn zc_207 k else bif Nat.beq q 282 then zn zc_282 k else bif Nat.beq q 324 then zn zc_324 k else bif Nat.beq q 126 then zn zc_126 k else bif Nat.beq q 1 then (bif Nat.blt k 60 then 2 + 2 * k else 0) else bif Nat.beq q 128 then (bif Nat.blt k 32 then 129 + 2 * k else 0) else bif Nat.beq q 211 then (bif Nat.blt k 10 then 212 + 2 * k else 0) else bif Nat.beq q 232 then (bif Nat.blt k 10 then 233 + 2 * k else 0) else bif Nat.beq q 253 then (bif Nat.blt k 10 then 254 + 2 * k else 0) else bif Nat.beq q 294 then (bif Nat.blt k 12 then 295 + 2 * k else 0) else bif Nat.beq q 325 then (bif Nat.blt k 6 then 326 + k else 0) else bif Nat.beq q 335 then (bif Nat.blt k 4 then 336 + k else 0) else bif Nat.beq (zn zt_b (zn lp_sh q)) 1 then (bif Nat.beq k 0 then q + 1 else 0) else 0) else 0
def zty (A : zW) (q : Nat) : Nat := bif Nat.blt q 385 then zn lp_sh q else (zK A q).2
def zkd (A : zW) (q : Nat) : Nat := bif Nat.blt q 385 then zn zt_k (zn lp_sh q) else (zK A q).1
def zcr (r : Nat) (v : Value) : Value := match r with
  | 0 => v
  | r + 1 => .ref (r + 1)
def zfl (A : zW) (q k : Nat) : Value := zcr (zc q k) (zF A q k)
def zrl (A : zW) (q k : Nat) : Value := zcr (zc q k) (zR A q k)
def zuI (A : zW) (q i : Nat) (v : Int32) : zW := (fun j x => bif Nat.beq j q && Nat.beq x i then v else zI A j x, A.2)
def zuJ (A : zW) (q i : Nat) (v : Int64) : zW := (A.1, fun j x => bif Nat.beq j q && Nat.beq x i then v else zJ A j x, A.2.2)
def zuF (A : zW) (q i : Nat) (v : Value) : zW := (A.1, A.2.1, fun j x => bif Nat.beq j q && Nat.beq x i then v else zF A j x, A.2.2.2)
def zuR (A : zW) (q i : Nat) (v : Value) : zW := (A.1, A.2.1, A.2.2.1, fun j x => bif Nat.beq j q && Nat.beq x i then v else zR A j x, A.2.2.2.2)
/-- an object comes -/
def zuN (A : zW) (ci t : Nat) (D : Nat → Value) : zW := (A.1, A.2.1, fun j x => bif Nat.beq j (zN A) then D x else zF A j x, A.2.2.2.1, fun j => bif Nat.beq j (zN A) then (ci, t) else zK A j, zN A + 1)
theorem nbF {a b : Nat} (h : a ≠ b) : Nat.beq a b = false := by
  cases hb : Nat.beq a b with
  | false => rfl
  | true => exact absurd (Nat.eq_of_beq_eq_true hb) h
theorem nbT : ∀ (a : Nat), Nat.beq a a = true
  | 0 => rfl
  | n + 1 => nbT n
theorem nltT {a b : Nat} (h : a < b) : Nat.blt a b = true := Nat.ble_eq_true_of_le h
theorem nltF {a b : Nat} (h : b ≤ a) : Nat.blt a b = false := by
  cases hb : Nat.blt a b with
  | false => rfl
  | true => exact absurd (Nat.le_of_ble_eq_true hb) (by omega)
/-- a value, and what stands for it -/
def zvr (ws : va_W) (v u : Value) : Prop := match u with
  | .ref j => ∃ (p : Nat) (e : va_E), v = .ref p ∧ ws[j]? = some (p, e)
  | u => v = u
def zvs (ws : va_W) : List Value → List Value → Prop
  | [], [] => True
  | v :: r, u :: s => zvr ws v u ∧ zvs ws r s
  | _, _ => False
/-- what is at a place, and what stands for it -/
def zea (A : zW) (ws : va_W) (j n : Nat) : (Nat → Int32) ⊕ (Nat → Int64) ⊕ (Nat → UInt32) ⊕ (Nat → UInt64) ⊕ (Nat → Option Nat) → Prop
  | .inl f => ∀ i, zI A j i = f i
  | .inr (.inl f) => ∀ i, zJ A j i = f i
  | .inr (.inr (.inl _)) => True
  | .inr (.inr (.inr (.inl _))) => True
  | .inr (.inr (.inr (.inr f))) => ∀ i, i < n → zvr ws (va_rf (f i)) (zrl A j i)
def zer (A : zW) (ws : va_W) (j : Nat) : va_E → Prop
  | .inr o => zkd A j = o.1 ∧ ∀ (k : Nat) (v : Value), o.2[k]? = some v → zvr ws v (zfl A j k)
  | .inl x => zkd A j = x.2.1 ∧ zea A ws j x.2.1 x.2.2
def zA (A : zW) (ws : va_W) (sh : List Nat) : Prop := f_dj ws ∧ (sh.length = ws.length ∧ zN A = ws.length ∧ 385 ≤ zN A) ∧ ∀ (j p : Nat) (e : va_E), ws[j]? = some (p, e) → sh[j]? = some (zty A j) ∧ zer A ws j e
/-- places stay -/
def zx (ws ws' : va_W) : Prop := ∀ (j p : Nat) (e : va_E), ws[j]? = some (p, e) → ∃ e', ws'[j]? = some (p, e')
theorem zx.rf {ws : va_W} : zx ws ws := fun _ _ e h => ⟨e, h⟩
theorem zx.tr {ws ws1 ws2 : va_W} (h1 : zx ws ws1) (h2 : zx ws1 ws2) : zx ws ws2 := fun j p e h => by
  obtain ⟨e1, a⟩ := h1 j p e h
  exact h2 j p e1 a
theorem zvr.mv {ws ws' : va_W} (h : zx ws ws') {v u : Value} (hv : zvr ws v u) : zvr ws' v u := by
  cases u with
  | ref j =>
    obtain ⟨p, e, h1, h2⟩ := hv
    obtain ⟨e', h3⟩ := h j p e h2
    exact ⟨p, e', h1, h3⟩
  | _ => exact hv
theorem zvs.mv {ws ws' : va_W} (h : zx ws ws') : ∀ {vs us : List Value}, zvs ws vs us → zvs ws' vs us
  | [], [], _ => trivial
  | _ :: _, _ :: _, hv => ⟨hv.1.mv h, zvs.mv h hv.2⟩
  | [], _ :: _, hv => hv.elim
  | _ :: _, [], hv => hv.elim
theorem zvs.cons {ws : va_W} {v : Value} {r us : List Value} (h : zvs ws (v :: r) us) : ∃ u s, us = u :: s ∧ zvr ws v u ∧ zvs ws r s := by
  cases us with
  | nil => exact h.elim
  | cons u s => exact ⟨u, s, rfl, h.1, h.2⟩
theorem zvr.int {ws : va_W} {x : Int32} {u : Value} (h : zvr ws (.int x) u) : u = .int x := by
  cases u with
  | ref j =>
    obtain ⟨p, e, h1, -⟩ := h
    cases h1
  | _ => exact (show Value.int x = _ from h).symm
theorem zvr.long {ws : va_W} {x : Int64} {u : Value} (h : zvr ws (.long x) u) : u = .long x := by
  cases u with
  | ref j =>
    obtain ⟨p, e, h1, -⟩ := h
    cases h1
  | _ => exact (show Value.long x = _ from h).symm
theorem zvr.ref {ws : va_W} {p : Nat} {u : Value} (h : zvr ws (.ref p) u) : ∃ j e, u = .ref j ∧ ws[j]? = some (p, e) := by
  cases u with
  | ref j =>
    obtain ⟨p', e, h1, h2⟩ := h
    injection h1 with h1
    subst h1
    exact ⟨j, e, rfl, h2⟩
  | _ => exact absurd (show Value.ref p = _ from h) (fun z => by cases z)
theorem zvr.nul {ws : va_W} {v u : Value} (h : zvr ws v u) : v = .null ↔ u = .null := by
  cases u with
  | ref j =>
    obtain ⟨p, e, h1, -⟩ := h
    subst h1
    exact ⟨(fun z => by cases z), (fun z => by cases z)⟩
  | _ =>
    have h : v = _ := h
    rw [h]
theorem zvr.cat {ws : va_W} {v u : Value} (h : zvr ws v u) : u.category = v.category := by
  cases u with
  | ref j =>
    obtain ⟨p, e, h1, -⟩ := h
    subst h1
    rfl
  | _ =>
    have h : v = _ := h
    rw [h]
theorem zvs.app {ws : va_W} : ∀ {a r us : List Value}, zvs ws (a ++ r) us → zvs ws a (us.take a.length) ∧ zvs ws r (us.drop a.length)
  | [], r, us, h => by
    refine ⟨?_, h⟩
    show zvs ws [] (us.take 0)
    rw [List.take_zero]
    exact trivial
  | v :: a, r, us, h => by
    obtain ⟨u, s, rfl, h1, h2⟩ := zvs.cons (r := a ++ r) h
    obtain ⟨h3, h4⟩ := zvs.app h2
    exact ⟨⟨h1, h3⟩, h4⟩
theorem zvs.join {ws : va_W} : ∀ {a b c d : List Value}, zvs ws a b → zvs ws c d → zvs ws (a ++ c) (b ++ d)
  | [], [], _, _, _, h2 => h2
  | _ :: _, _ :: _, _, _, h1, h2 => ⟨h1.1, zvs.join h1.2 h2⟩
  | [], _ :: _, _, _, h1, _ => h1.elim
  | _ :: _, [], _, _, h1, _ => h1.elim
theorem zvs.rev {ws : va_W} : ∀ {a b : List Value}, zvs ws a b → zvs ws a.reverse b.reverse
  | [], [], _ => trivial
  | v :: a, u :: b, h => by
    rw [List.reverse_cons, List.reverse_cons]
    exact zvs.join (zvs.rev h.2) ⟨h.1, trivial⟩
  | [], _ :: _, h => h.elim
  | _ :: _, [], h => h.elim
/-- locals -/
def zrel (ws : va_W) (l : fL_) (lg : List (Nat × Value)) : Prop := ∀ x ∈ l, ∃ v, (x.1, v) ∈ lg ∧ zvr ws v x.2.2 ∧ (x.2.1 = false → v.category = 1)
theorem zrel.mv {ws ws' : va_W} {l : fL_} {lg : List (Nat × Value)} (h : zrel ws l lg) (hx : zx ws ws') : zrel ws' l lg := fun x hm => by
  obtain ⟨v, h1, h2, h3⟩ := h x hm
  exact ⟨v, h1, h2.mv hx, h3⟩
theorem zrel.sub {ws : va_W} {l l2 : fL_} {lg : List (Nat × Value)} (h : zrel ws l2 lg) (hs : f_sub l l2) : zrel ws l lg := by
  induction l with
  | nil => exact fun x hx => absurd hx List.not_mem_nil
  | cons y l ih =>
    intro x hx
    rcases List.mem_cons.mp hx with rfl | hx
    · obtain ⟨z, z1, z2, z3⟩ := lkb_mem hs.1
      have := h z z1
      rw [z2, z3] at this
      exact this
    · exact ih hs.2 x hx
theorem zrel.st1 {ws : va_W} {l : fL_} {lg : List (Nat × Value)} (h : zrel ws l lg) {i : Nat} {v u : Value} (hc : v.category = 1) (hv : zvr ws v u) : zrel ws (ls1 l i u) (f_st1 lg i v) := by
  intro x hx
  rcases List.mem_cons.mp hx with rfl | hx
  · exact ⟨v, List.mem_cons_self, hv, fun _ => hc⟩
  · obtain ⟨h1, h2⟩ := List.mem_filter.mp hx
    obtain ⟨v', h3, h4, h5⟩ := h x h1
    refine ⟨v', List.mem_cons_of_mem _ (List.mem_filter.mpr ⟨h3, ?_⟩), h4, h5⟩
    rw [Bool.and_eq_true] at h2 ⊢
    refine ⟨h2.1, ?_⟩
    cases hb : x.2.1 with
    | false =>
      show (!(x.1 + 1 == i && v'.category == 2)) = true
      rw [h5 hb]
      simp
    | true =>
      have h6 := h2.2
      rw [hb, Bool.and_true, Bool.not_eq_true'] at h6
      show (!(x.1 + 1 == i && v'.category == 2)) = true
      rw [h6]
      rfl
theorem zrel.st2 {ws : va_W} {l : fL_} {lg : List (Nat × Value)} (h : zrel ws l lg) {i : Nat} {v u : Value} (hv : zvr ws v u) : zrel ws (ls2 l i u) (f_st2 lg i v) := by
  intro x hx
  rcases List.mem_cons.mp hx with rfl | hx
  · exact ⟨v, List.mem_cons_self, hv, (fun z => by cases z)⟩
  · obtain ⟨h1, h2⟩ := List.mem_filter.mp hx
    obtain ⟨v', h3, h4, h5⟩ := h x h1
    refine ⟨v', List.mem_cons_of_mem _ (List.mem_filter.mpr ⟨h3, ?_⟩), h4, h5⟩
    rw [Bool.and_eq_true, Bool.and_eq_true] at h2 ⊢
    refine ⟨h2.1, h2.2.1, ?_⟩
    cases hb : x.2.1 with
    | false =>
      show (!(x.1 + 1 == i && v'.category == 2)) = true
      rw [h5 hb]
      simp
    | true =>
      have h6 := h2.2.2
      rw [hb, Bool.and_true, Bool.not_eq_true'] at h6
      show (!(x.1 + 1 == i && v'.category == 2)) = true
      rw [h6]
      rfl
theorem z_ld {ws : va_W} {l : fL_} {lg : List (Nat × Value)} {K : Value → Prop} {i : Nat} {v : Value} (hr : zrel ws l lg) (hv : ∀ u, (i, u) ∈ lg → u = v) (h : match lk l i with
    | some v => K v
    | none => False) : ∃ u, zvr ws v u ∧ K u := by
  split at h
  · rename_i u hu
    obtain ⟨x, x1, x2, x3⟩ := lk_mem hu
    obtain ⟨v', h1, h2, -⟩ := hr x x1
    rw [x2] at h1
    rw [hv _ h1, x3] at h2
    exact ⟨u, h2, h⟩
  · exact h.elim
theorem z_la {ws : va_W} : ∀ (i : Nat) {As Bs : List Value}, zvs ws As Bs → zrel ws (la i Bs) (lv_args i As)
  | _, [], [], _ => fun x hx => absurd hx List.not_mem_nil
  | i, v :: r, u :: s, h => by
    intro x hx
    have e : lv_args i (v :: r) = (i, v) :: lv_args (if v.category = 2 then i + 2 else i + 1) r := rfl
    rw [e]
    have hc := h.1.cat
    rcases List.mem_cons.mp hx with rfl | hx
    · refine ⟨v, List.mem_cons_self, h.1, fun hb => ?_⟩
      have hb : (u.category == 2) = false := hb
      rw [beq_eq_false_iff_ne, hc] at hb
      exact (lv_cat v).resolve_right hb
    · have hn : (bif u.category == 2 then i + 2 else i + 1) = (if v.category = 2 then i + 2 else i + 1) := by
        rw [hc]
        by_cases hc : v.category = 2
        · rw [if_pos hc, hc]; rfl
        · rw [if_neg hc, beq_eq_false_iff_ne.mpr hc]; rfl
      rw [hn] at hx
      obtain ⟨v', h1, h2⟩ := z_la _ h.2 x hx
      exact ⟨v', List.mem_cons_of_mem _ h1, h2⟩
  | _, [], _ :: _, h => h.elim
  | _, _ :: _, [], h => h.elim
