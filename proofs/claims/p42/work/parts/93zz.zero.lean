section
/-! counts of words: none there -/
theorem pcN_z : ∀ {k n : Nat}, n < 2 ^ k → (pcN k n = 0 ↔ n = 0)
  | 0, n, h => by
    have h : n < 1 := h
    exact ⟨fun _ => by omega, fun _ => rfl⟩
  | k + 1, n, h => by
    rw [Nat.pow_succ] at h
    rw [pcN_s]
    have h2 := pcN_z (k := k) (n := n / 2) (by omega)
    constructor
    · intro e
      have := h2.mp (by omega)
      omega
    · intro e
      have := h2.mpr (by omega)
      omega
theorem cb_b {v : Int64} : 0 ≤ (cbA v 64).toInt ∧ (cbA v 64).toInt ≤ 64 := by
  have h1 := cbA_eq (a := v) (Nat.le_refl 64)
  have h2 := pcN_le (k := 64) (n := nL v)
  rw [h1]
  omega
theorem cb_z {v : Int64} : (cbA v 64).toInt = 0 ↔ v.toInt = (Int64.ofNat 0).toInt := by
  rw [cbA_eq (Nat.le_refl 64)]
  have h2 := pcN_z (k := 64) (n := nL v) nL_lt
  constructor
  · intro h
    have e : nL v = 0 := h2.mp (by omega)
    have e2 : v.toBitVec = 0#64 := BitVec.eq_of_toNat_eq e
    have e3 : v = Int64.ofNat 0 := Int64.toBitVec_inj.mp e2
    rw [e3]
  · intro h
    have e3 : v = Int64.ofNat 0 := Int64.toInt_inj.mp h
    rw [e3]
    decide +kernel
theorem szA_z {f : Nat → Int64} : ∀ {k : Nat}, k ≤ 4 → (0 ≤ (szA (fun v => cbA v 64) f k).toInt ∧ (szA (fun v => cbA v 64) f k).toInt ≤ 64 * (k : Int)) ∧ ((szA (fun v => cbA v 64) f k).toInt = 0 ↔ ∀ x, x < k → (f x).toInt = (Int64.ofNat 0).toInt)
  | 0, _ => ⟨⟨Int.le_refl 0, Int.le_refl 0⟩, ⟨fun _ x hx => absurd hx (Nat.not_lt_zero x), fun _ => rfl⟩⟩
  | k + 1, h => by
    obtain ⟨⟨a1, a2⟩, a3⟩ := szA_z (f := f) (k := k) (by omega)
    obtain ⟨b1, b2⟩ := cb_b (v := f k)
    have b3 := cb_z (v := f k)
    have e : (szA (fun v => cbA v 64) f (k + 1)).toInt = (szA (fun v => cbA v 64) f k).toInt + (cbA (f k) 64).toInt := i_add (b := cbA (f k) 64) (by omega) (by omega)
    rw [e]
    refine ⟨⟨by omega, by omega⟩, fun hz x hx => ?_, fun hz => ?_⟩
    · have z1 := a3.mp (by omega)
      by_cases ex : x = k
      · rw [ex]
        exact b3.mp (by omega)
      · exact z1 x (by omega)
    · have z1 := a3.mpr (fun x hx => hz x (by omega))
      have z2 := b3.mpr (hz k (by omega))
      omega
end
section
/-! worlds by places: a reference is the number of its place -/
abbrev zW : Type := (Nat → Nat → Int32) × (Nat → Nat → Int64) × (Nat → Nat → Value) × (Nat → Nat → Value) × (Nat → Nat × Nat) × Nat
def zI (A : zW) (q i : Nat) : Int32 := A.1 q i
def zJ (A : zW) (q i : Nat) : Int64 := A.2.1 q i
def zF (A : zW) (q k : Nat) : Value := A.2.2.1 q k
def zR (A : zW) (q i : Nat) : Value := A.2.2.2.1 q i
def zK (A : zW) (q : Nat) : Nat × Nat := A.2.2.2.2.1 q
def zN (A : zW) : Nat := A.2.2.2.2.2
def zn : List Nat → Nat → Nat
  | [], _ => 0
  | x :: _, 0 => x
  | _ :: l, n + 1 => zn l n
def zc_343 : List Nat := [0, 0, 344, 345, 346, 0, 347, 0, 0, 348, 349, 350, 351, 352, 353, 0, 0, 0, 354, 0, 0, 0, 355, 0, 356, 0, 0, 0, 357, 358, 359, 360, 361, 0, 362, 0, 363, 0, 364, 365, 0, 366, 367, 0, 368, 369, 370, 0, 0, 0, 371, 0, 372, 373, 374, 0, 0, 375, 376, 377, 378, 379, 380, 0, 381, 382, 383, 384]
def zc_0 : List Nat := [1, 0, 122, 124, 126, 193, 207, 282, 324, 334, 335, 340, 341, 342, 0]
def zc_193 : List Nat := [194, 0, 0, 0, 195, 196, 197, 199, 201, 203, 205, 0]
def zc_207 : List Nat := [208, 0, 210, 211, 232, 253, 274, 276, 278, 280, 0, 0]
def zc_282 : List Nat := [0, 0, 283, 284, 285, 286, 287, 289, 291, 293, 294, 319, 320, 322, 323, 0, 0]
def zc_324 : List Nat := [325, 0, 332, 0]
def zc_126 : List Nat := [127, 128, 0, 0]
/-- classes and lengths, by type -/
def zt_k : List Nat := [0, 1, 4, 1, 16, 1, 64, 4, 8, 0, 5, 11, 7, 2, 9, 3, 6, 12, 60, 6, 60, 4, 4, 4, 1, 60, 32, 6, 12, 256, 10, 10, 10, 10, 12, 12, 12, 12, 12, 12, 6, 64, 64, 256, 6, 240, 6, 256, 64, 12, 12, 12, 12, 12, 12, 16384, 4096, 4096, 10, 10, 10, 10, 10, 4, 1024, 1024, 10, 12, 12, 12, 12, 12, 4096, 4096, 4096, 49152, 1536, 6, 6, 4, 6, 6, 4, 4, 240, 60, 1, 4, 1, 4, 1, 4, 1, 4]
def zt_b : List Nat := [0, 1, 0, 1, 0, 1, 0, 0, 0, 0, 0, 0, 0, 0, 0, 0, 0, 0, 0, 0, 0, 0, 0, 0, 0, 0, 0, 0, 0, 0, 0, 0, 0, 0, 0, 0, 0, 0, 0, 0, 0, 0, 0, 0, 0, 0, 0, 0, 0, 0, 0, 0, 0, 0, 0, 0, 0, 0, 0, 0, 0, 0, 0, 0, 0, 0, 0, 0, 0, 0, 0, 0, 0, 0, 0, 0, 0, 0, 0, 0, 0, 0, 0, 0, 0, 0, 1, 0, 1, 0, 1, 0, 1, 0]
/-- the lasting reference at a place's slot; 0: none -/
def zc (q k : Nat) : Nat := bif Nat.blt q 385 && Nat.blt k 70 then (bif Nat.beq q 343 then zn zc_343 k else bif Nat.beq q 0 then zn zc_0 k else bif Nat.beq q 193 then zn zc_193 k else bif Nat.beq q 207 then zn zc_207 k else bif Nat.beq q 282 then zn zc_282 k else bif Nat.beq q 324 then zn zc_324 k else bif Nat.beq q 126 then zn zc_126 k else bif Nat.beq q 1 then (bif Nat.blt k 60 then 2 + 2 * k else 0) else bif Nat.beq q 128 then (bif Nat.blt k 32 then 129 + 2 * k else 0) else bif Nat.beq q 211 then (bif Nat.blt k 10 then 212 + 2 * k else 0) else bif Nat.beq q 232 then (bif Nat.blt k 10 then 233 + 2 * k else 0) else bif Nat.beq q 253 then (bif Nat.blt k 10 then 254 + 2 * k else 0) else bif Nat.beq q 294 then (bif Nat.blt k 12 then 295 + 2 * k else 0) else bif Nat.beq q 325 then (bif Nat.blt k 6 then 326 + k else 0) else bif Nat.beq q 335 then (bif Nat.blt k 4 then 336 + k else 0) else bif Nat.beq (zn zt_b (zn lp_sh q)) 1 then (bif Nat.beq k 0 then q + 1 else 0) else 0) else 0
def zty (A : zW) (q : Nat) : Nat := bif Nat.blt q 385 then zn lp_sh q else (zK A q).2
def zkd (A : zW) (q : Nat) : Nat := bif Nat.blt q 385 then zn zt_k (zn lp_sh q) else (zK A q).1
def zcr (r : Nat) (v : Value) : Value := match r with
  | 0 => v
  | r + 1 => .ref (r + 1)
def zfl (A : zW) (q k : Nat) : Value := zcr (zc q k) (zF A q k)
def zrl (A : zW) (q k : Nat) : Value := zcr (zc q k) (zR A q k)
def zuI (A : zW) (q i : Nat) (v : Int32) : zW := (fun j x => bif Nat.beq j q && Nat.beq x i then v else zI A j x, A.2)
def zuJ (A : zW) (q i : Nat) (v : Int64) : zW := (A.1, fun j x => bif Nat.beq j q && Nat.beq x i then v else zJ A j x, A.2.2)
def zuF (A : zW) (q i : Nat) (v : Value) : zW := (A.1, A.2.1, fun j x => bif Nat.beq j q && Nat.beq x i then v else zF A j x, A.2.2.2)
def zuR (A : zW) (q i : Nat) (v : Value) : zW := (A.1, A.2.1, A.2.2.1, fun j x => bif Nat.beq j q && Nat.beq x i then v else zR A j x, A.2.2.2.2)
/-- an object comes -/
def zuN (A : zW) (ci t : Nat) (D : Nat → Value) : zW := (A.1, A.2.1, fun j x => bif Nat.beq j (zN A) then D x else zF A j x, A.2.2.2.1, fun j => bif Nat.beq j (zN A) then (ci, t) else zK A j, zN A + 1)
theorem nbF {a b : Nat} (h : a ≠ b) : Nat.beq a b = false := by
  cases hb : Nat.beq a b with
  | false => rfl
  | true => exact absurd (Nat.eq_of_beq_eq_true hb) h
theorem nbT : ∀ (a : Nat), Nat.beq a a = true
  | 0 => rfl
  | n + 1 => nbT n
theorem nltT {a b : Nat} (h : a < b) : Nat.blt a b = true := Nat.ble_eq_true_of_le h
theorem nltF {a b : Nat} (h : b ≤ a) : Nat.blt a b = false := by
  cases hb : Nat.blt a b with
  | false => rfl
  | true => exact absurd (Nat.le_of_ble_eq_true hb) (by omega)
/-- a value, and what stands for it -/
def zvr (ws : va_W) (v u : Value) : Prop := match u with
  | .ref j => ∃ (p : Nat) (e : va_E), v = .ref p ∧ ws[j]? = some (p, e)
  | u => v = u
def zvs (ws : va_W) : List Value → List Value → Prop
  | [], [] => True
  | v :: r, u :: s => zvr ws v u ∧ zvs ws r s
  | _, _ => False
/-- what is at a place, and what stands for it -/
def zea (A : zW) (ws : va_W) (j n : Nat) : (Nat → Int32) ⊕ (Nat → Int64) ⊕ (Nat → UInt32) ⊕ (Nat → UInt64) ⊕ (Nat → Option Nat) → Prop
  | .inl f => ∀ i, zI A j i = f i
  | .inr (.inl f) => ∀ i, zJ A j i = f i
  | .inr (.inr (.inl _)) => True
  | .inr (.inr (.inr (.inl _))) => True
  | .inr (.inr (.inr (.inr f))) => ∀ i, i < n → zvr ws (va_rf (f i)) (zrl A j i)
def zer (A : zW) (ws : va_W) (j : Nat) : va_E → Prop
  | .inr o => zkd A j = o.1 ∧ ∀ (k : Nat) (v : Value), o.2[k]? = some v → zvr ws v (zfl A j k)
  | .inl x => zkd A j = x.2.1 ∧ zea A ws j x.2.1 x.2.2
def zA (A : zW) (ws : va_W) (sh : List Nat) : Prop := f_dj ws ∧ (sh.length = ws.length ∧ zN A = ws.length ∧ 385 ≤ zN A) ∧ ∀ (j p : Nat) (e : va_E), ws[j]? = some (p, e) → sh[j]? = some (zty A j) ∧ zer A ws j e
/-- places stay -/
def zx (ws ws' : va_W) : Prop := ∀ (j p : Nat) (e : va_E), ws[j]? = some (p, e) → ∃ e', ws'[j]? = some (p, e')
theorem zx.rf {ws : va_W} : zx ws ws := fun _ _ e h => ⟨e, h⟩
theorem zx.tr {ws ws1 ws2 : va_W} (h1 : zx ws ws1) (h2 : zx ws1 ws2) : zx ws ws2 := fun j p e h => by
  obtain ⟨e1, a⟩ := h1 j p e h
  exact h2 j p e1 a
theorem zvr.mv {ws ws' : va_W} (h : zx ws ws') {v u : Value} (hv : zvr ws v u) : zvr ws' v u := by
  cases u with
  | ref j =>
    obtain ⟨p, e, h1, h2⟩ := hv
    obtain ⟨e', h3⟩ := h j p e h2
    exact ⟨p, e', h1, h3⟩
  | _ => exact hv
theorem zvs.mv {ws ws' : va_W} (h : zx ws ws') : ∀ {vs us : List Value}, zvs ws vs us → zvs ws' vs us
  | [], [], _ => trivial
  | _ :: _, _ :: _, hv => ⟨hv.1.mv h, zvs.mv h hv.2⟩
  | [], _ :: _, hv => hv.elim
  | _ :: _, [], hv => hv.elim
theorem zvs.cons {ws : va_W} {v : Value} {r us : List Value} (h : zvs ws (v :: r) us) : ∃ u s, us = u :: s ∧ zvr ws v u ∧ zvs ws r s := by
  cases us with
  | nil => exact h.elim
  | cons u s => exact ⟨u, s, rfl, h.1, h.2⟩
theorem zvr.int {ws : va_W} {x : Int32} {u : Value} (h : zvr ws (.int x) u) : u = .int x := by
  cases u with
  | ref j =>
    obtain ⟨p, e, h1, -⟩ := h
    cases h1
  | _ => exact (show Value.int x = _ from h).symm
theorem zvr.long {ws : va_W} {x : Int64} {u : Value} (h : zvr ws (.long x) u) : u = .long x := by
  cases u with
  | ref j =>
    obtain ⟨p, e, h1, -⟩ := h
    cases h1
  | _ => exact (show Value.long x = _ from h).symm
theorem zvr.ref {ws : va_W} {p : Nat} {u : Value} (h : zvr ws (.ref p) u) : ∃ j e, u = .ref j ∧ ws[j]? = some (p, e) := by
  cases u with
  | ref j =>
    obtain ⟨p', e, h1, h2⟩ := h
    injection h1 with h1
    subst h1
    exact ⟨j, e, rfl, h2⟩
  | _ => exact absurd (show Value.ref p = _ from h) (fun z => by cases z)
theorem zvr.nul {ws : va_W} {v u : Value} (h : zvr ws v u) : v = .null ↔ u = .null := by
  cases u with
  | ref j =>
    obtain ⟨p, e, h1, -⟩ := h
    subst h1
    exact ⟨(fun z => by cases z), (fun z => by cases z)⟩
  | _ =>
    have h : v = _ := h
    rw [h]
theorem zvr.cat {ws : va_W} {v u : Value} (h : zvr ws v u) : u.category = v.category := by
  cases u with
  | ref j =>
    obtain ⟨p, e, h1, -⟩ := h
    subst h1
    rfl
  | _ =>
    have h : v = _ := h
    rw [h]
theorem zvs.app {ws : va_W} : ∀ {a r us : List Value}, zvs ws (a ++ r) us → zvs ws a (us.take a.length) ∧ zvs ws r (us.drop a.length)
  | [], r, us, h => by
    refine ⟨?_, h⟩
    show zvs ws [] (us.take 0)
    rw [List.take_zero]
    exact trivial
  | v :: a, r, us, h => by
    obtain ⟨u, s, rfl, h1, h2⟩ := zvs.cons (r := a ++ r) h
    obtain ⟨h3, h4⟩ := zvs.app h2
    exact ⟨⟨h1, h3⟩, h4⟩
theorem zvs.join {ws : va_W} : ∀ {a b c d : List Value}, zvs ws a b → zvs ws c d → zvs ws (a ++ c) (b ++ d)
  | [], [], _, _, _, h2 => h2
  | _ :: _, _ :: _, _, _, h1, h2 => ⟨h1.1, zvs.join h1.2 h2⟩
  | [], _ :: _, _, _, h1, _ => h1.elim
  | _ :: _, [], _, _, h1, _ => h1.elim
theorem zvs.rev {ws : va_W} : ∀ {a b : List Value}, zvs ws a b → zvs ws a.reverse b.reverse
  | [], [], _ => trivial
  | v :: a, u :: b, h => by
    rw [List.reverse_cons, List.reverse_cons]
    exact zvs.join (zvs.rev h.2) ⟨h.1, trivial⟩
  | [], _ :: _, h => h.elim
  | _ :: _, [], h => h.elim
/-- locals -/
def zrel (ws : va_W) (l : fL_) (lg : List (Nat × Value)) : Prop := ∀ x ∈ l, ∃ v, (x.1, v) ∈ lg ∧ zvr ws v x.2.2 ∧ (x.2.1 = false → v.category = 1)
theorem zrel.mv {ws ws' : va_W} {l : fL_} {lg : List (Nat × Value)} (h : zrel ws l lg) (hx : zx ws ws') : zrel ws' l lg := fun x hm => by
  obtain ⟨v, h1, h2, h3⟩ := h x hm
  exact ⟨v, h1, h2.mv hx, h3⟩
theorem zrel.sub {ws : va_W} {l l2 : fL_} {lg : List (Nat × Value)} (h : zrel ws l2 lg) (hs : f_sub l l2) : zrel ws l lg := by
  induction l with
  | nil => exact fun x hx => absurd hx List.not_mem_nil
  | cons y l ih =>
    intro x hx
    rcases List.mem_cons.mp hx with rfl | hx
    · obtain ⟨z, z1, z2, z3⟩ := lkb_mem hs.1
      have := h z z1
      rw [z2, z3] at this
      exact this
    · exact ih hs.2 x hx
theorem zrel.st1 {ws : va_W} {l : fL_} {lg : List (Nat × Value)} (h : zrel ws l lg) {i : Nat} {v u : Value} (hc : v.category = 1) (hv : zvr ws v u) : zrel ws (ls1 l i u) (f_st1 lg i v) := by
  intro x hx
  rcases List.mem_cons.mp hx with rfl | hx
  · exact ⟨v, List.mem_cons_self, hv, fun _ => hc⟩
  · obtain ⟨h1, h2⟩ := List.mem_filter.mp hx
    obtain ⟨v', h3, h4, h5⟩ := h x h1
    refine ⟨v', List.mem_cons_of_mem _ (List.mem_filter.mpr ⟨h3, ?_⟩), h4, h5⟩
    rw [Bool.and_eq_true] at h2 ⊢
    refine ⟨h2.1, ?_⟩
    cases hb : x.2.1 with
    | false =>
      show (!(x.1 + 1 == i && v'.category == 2)) = true
      rw [h5 hb]
      simp
    | true =>
      have h6 := h2.2
      rw [hb, Bool.and_true, Bool.not_eq_true'] at h6
      show (!(x.1 + 1 == i && v'.category == 2)) = true
      rw [h6]
      rfl
theorem zrel.st2 {ws : va_W} {l : fL_} {lg : List (Nat × Value)} (h : zrel ws l lg) {i : Nat} {v u : Value} (hv : zvr ws v u) : zrel ws (ls2 l i u) (f_st2 lg i v) := by
  intro x hx
  rcases List.mem_cons.mp hx with rfl | hx
  · exact ⟨v, List.mem_cons_self, hv, (fun z => by cases z)⟩
  · obtain ⟨h1, h2⟩ := List.mem_filter.mp hx
    obtain ⟨v', h3, h4, h5⟩ := h x h1
    refine ⟨v', List.mem_cons_of_mem _ (List.mem_filter.mpr ⟨h3, ?_⟩), h4, h5⟩
    rw [Bool.and_eq_true, Bool.and_eq_true] at h2 ⊢
    refine ⟨h2.1, h2.2.1, ?_⟩
    cases hb : x.2.1 with
    | false =>
      show (!(x.1 + 1 == i && v'.category == 2)) = true
      rw [h5 hb]
      simp
    | true =>
      have h6 := h2.2.2
      rw [hb, Bool.and_true, Bool.not_eq_true'] at h6
      show (!(x.1 + 1 == i && v'.category == 2)) = true
      rw [h6]
      rfl
theorem z_ld {ws : va_W} {l : fL_} {lg : List (Nat × Value)} {K : Value → Prop} {i : Nat} {v : Value} (hr : zrel ws l lg) (hv : ∀ u, (i, u) ∈ lg → u = v) (h : match lk l i with
    | some v => K v
    | none => False) : ∃ u, zvr ws v u ∧ K u := by
  split at h
  · rename_i u hu
    obtain ⟨x, x1, x2, x3⟩ := lk_mem hu
    obtain ⟨v', h1, h2, -⟩ := hr x x1
    rw [x2] at h1
    rw [hv _ h1, x3] at h2
    exact ⟨u, h2, h⟩
  · exact h.elim
theorem z_la {ws : va_W} : ∀ (i : Nat) {As Bs : List Value}, zvs ws As Bs → zrel ws (la i Bs) (lv_args i As)
  | _, [], [], _ => fun x hx => absurd hx List.not_mem_nil
  | i, v :: r, u :: s, h => by
    intro x hx
    have e : lv_args i (v :: r) = (i, v) :: lv_args (if v.category = 2 then i + 2 else i + 1) r := rfl
    rw [e]
    have hc := h.1.cat
    rcases List.mem_cons.mp hx with rfl | hx
    · refine ⟨v, List.mem_cons_self, h.1, fun hb => ?_⟩
      have hb : (u.category == 2) = false := hb
      rw [beq_eq_false_iff_ne, hc] at hb
      exact (lv_cat v).resolve_right hb
    · have hn : (bif u.category == 2 then i + 2 else i + 1) = (if v.category = 2 then i + 2 else i + 1) := by
        rw [hc]
        by_cases hc : v.category = 2
        · rw [if_pos hc, hc]; rfl
        · rw [if_neg hc, beq_eq_false_iff_ne.mpr hc]; rfl
      rw [hn] at hx
      obtain ⟨v', h1, h2⟩ := z_la _ h.2 x hx
      exact ⟨v', List.mem_cons_of_mem _ h1, h2⟩
  | _, [], _ :: _, h => h.elim
  | _, _ :: _, [], h => h.elim
end
section
/-! a step over a world by places -/
/-- what a call does, by what is to hold behind it -/
abbrev zQ : Type := List Value → zW → (Option Value → zW → Prop) → Prop
abbrev zP : Type := List (Nat × Nat × zQ)
def zcall (Sp : zP) (k : Nat → fL_ → List Value → zW → Prop) (key pc : Nat) (lg : fL_) (vs : List Value) (A : zW) : Prop := match Sp.find? (fun x => x.1 == key) with
  | some x => x.2.2 (vs.take x.2.1).reverse A (fun rv A' => k (pc + 3) lg (rv.toList ++ vs.drop x.2.1) A')
  | none => False
def zstep (T : fT) (Sp : zP) (Post : Option Value → zW → Prop) (k : Nat → fL_ → List Value → zW → Prop) (ins : Instr) (len pc : Nat) (lg : fL_) (vs : List Value) (A : zW) : Prop := match ins, vs with
  | .iconst v, _ => k (pc + len) lg (.int (Int32.ofInt v) :: vs) A
  | .bipush v, _ => match decide (-128 ≤ v ∧ v < 128) with
    | true => k (pc + len) lg (.int (Int32.ofInt v) :: vs) A
    | false => False
  | .sipush v, _ => match decide (-32768 ≤ v ∧ v < 32768) with
    | true => k (pc + len) lg (.int (Int32.ofInt v) :: vs) A
    | false => False
  | .lconst v, _ => k (pc + len) lg (.long (Int64.ofNat (v : Nat)) :: vs) A
  | .ldc i, _ => match T.2.2.2.1.find? (fun x => x.1 == i && x.2.1 == 0) with
    | some x => k (pc + len) lg (.int (Int32.ofInt x.2.2) :: vs) A
    | none => False
  | .ldc_w i, _ => match T.2.2.2.1.find? (fun x => x.1 == i && x.2.1 == 0) with
    | some x => k (pc + len) lg (.int (Int32.ofInt x.2.2) :: vs) A
    | none => False
  | .ldc2_w i, _ => match T.2.2.2.1.find? (fun x => x.1 == i && x.2.1 == 1) with
    | some x => k (pc + len) lg (.long (Int64.ofInt x.2.2) :: vs) A
    | none => False
  | .iload_n i, _ => match lk lg i with
    | some v => k (pc + len) lg (v :: vs) A
    | none => False
  | .iload i, _ => match lk lg i with
    | some v => k (pc + len) lg (v :: vs) A
    | none => False
  | .lload_n i, _ => match lk lg i with
    | some v => k (pc + len) lg (v :: vs) A
    | none => False
  | .lload i, _ => match lk lg i with
    | some v => k (pc + len) lg (v :: vs) A
    | none => False
  | .aload_n i, _ => match lk lg i with
    | some v => k (pc + len) lg (v :: vs) A
    | none => False
  | .aload i, _ => match lk lg i with
    | some v => k (pc + len) lg (v :: vs) A
    | none => False
  | .istore_n i, v :: r => k (pc + len) (ls1 lg i v) r A
  | .istore i, v :: r => k (pc + len) (ls1 lg i v) r A
  | .astore_n i, v :: r => k (pc + len) (ls1 lg i v) r A
  | .astore i, v :: r => k (pc + len) (ls1 lg i v) r A
  | .lstore_n i, v :: r => k (pc + len) (ls2 lg i v) r A
  | .lstore i, v :: r => k (pc + len) (ls2 lg i v) r A
  | .iinc i c, _ => match lk lg i with
    | some v => k (pc + len) (ls1 lg i (.int (iv v + Int32.ofInt c))) vs A
    | none => False
  | .iadd, y :: x :: r => k (pc + 1) lg (.int (iv x + iv y) :: r) A
  | .isub, y :: x :: r => k (pc + 1) lg (.int (iv x - iv y) :: r) A
  | .imul, y :: x :: r => k (pc + 1) lg (.int (iv x * iv y) :: r) A
  | .iand, y :: x :: r => k (pc + 1) lg (.int (iv x &&& iv y) :: r) A
  | .ior, y :: x :: r => k (pc + 1) lg (.int (iv x ||| iv y) :: r) A
  | .ixor, y :: x :: r => k (pc + 1) lg (.int (iv x ^^^ iv y) :: r) A
  | .ishl, y :: x :: r => k (pc + 1) lg (.int (iv x <<< (iv y &&& 31)) :: r) A
  | .ishr, y :: x :: r => k (pc + 1) lg (.int (iv x >>> (iv y &&& 31)) :: r) A
  | .iushr, y :: x :: r => k (pc + 1) lg (.int (((iv x).toUInt32 >>> ((iv y).toUInt32 &&& Int32.toUInt32 31)).toInt32) :: r) A
  | .idiv, y :: x :: r => k (pc + 1) lg (.int (iv x / iv y) :: r) A
  | .irem, y :: x :: r => k (pc + 1) lg (.int (iv x % iv y) :: r) A
  | .ladd, y :: x :: r => k (pc + 1) lg (.long (jv x + jv y) :: r) A
  | .lsub, y :: x :: r => k (pc + 1) lg (.long (jv x - jv y) :: r) A
  | .lmul, y :: x :: r => k (pc + 1) lg (.long (jv x * jv y) :: r) A
  | .land, y :: x :: r => k (pc + 1) lg (.long (jv x &&& jv y) :: r) A
  | .lor, y :: x :: r => k (pc + 1) lg (.long (jv x ||| jv y) :: r) A
  | .lxor, y :: x :: r => k (pc + 1) lg (.long (jv x ^^^ jv y) :: r) A
  | .lushr, y :: x :: r => k (pc + 1) lg (.long ((jv x).toUInt64 >>> ((iv y).toInt64.toUInt64 &&& Int64.toUInt64 63)).toInt64 :: r) A
  | .lshr, y :: x :: r => k (pc + 1) lg (.long (jv x >>> ((iv y).toInt64 &&& 63)) :: r) A
  | .lshl, y :: x :: r => k (pc + 1) lg (.long (jv x <<< ((iv y).toInt64 &&& 63)) :: r) A
  | .ineg, x :: r => k (pc + 1) lg (.int (-(iv x)) :: r) A
  | .i2l, x :: r => k (pc + 1) lg (.long (iv x).toInt64 :: r) A
  | .l2i, x :: r => k (pc + 1) lg (.int (jv x).toInt32 :: r) A
  | .i2b, x :: r => k (pc + 1) lg (.int (iv x).toInt8.toInt32 :: r) A
  | .i2s, x :: r => k (pc + 1) lg (.int (iv x).toInt16.toInt32 :: r) A
  | .lcmp, y :: x :: r => k (pc + 1) lg (.int (lg_cmp (jv x) (jv y)) :: r) A
  | .aconst_null, _ => k (pc + 1) lg (.null :: vs) A
  | .dup, v :: r => k (pc + 1) lg (v :: v :: r) A
  | .pop, _ :: r => k (pc + 1) lg r A
  | .pop2, _ :: r => k (pc + 1) lg r A
  | .dup2, v :: u :: r => k (pc + 1) lg (v :: u :: v :: u :: r) A
  | .goto off, _ => k (f_tg pc off) lg vs A
  | .ifCond cd off, x :: r => (ck_cm cd (iv x).toInt 0 → k (f_tg pc off) lg r A) ∧ (¬ ck_cm cd (iv x).toInt 0 → k (pc + 3) lg r A)
  | .if_icmp cd off, y :: x :: r => (ck_cm cd (iv x).toInt (iv y).toInt → k (f_tg pc off) lg r A) ∧ (¬ ck_cm cd (iv x).toInt (iv y).toInt → k (pc + 3) lg r A)
  | .ifnull off, v :: r => (v = .null → k (f_tg pc off) lg r A) ∧ (¬ v = .null → k (pc + 3) lg r A)
  | .ifnonnull off, v :: r => (¬ v = .null → k (f_tg pc off) lg r A) ∧ (v = .null → k (pc + 3) lg r A)
  | .tableswitch d lo hi os, x :: r => ((iv x).toInt < lo ∨ hi < (iv x).toInt → k (f_tg pc d) lg r A) ∧ (lo ≤ (iv x).toInt → (iv x).toInt ≤ hi → wT k pc lg r A (iv x) lo os.toList)
  | .getfield i, p :: r => k (pc + 3) lg (zfl A (rv_ p) (kfd T.1 i (zkd A (rv_ p))) :: r) A
  | .putfield i, u :: p :: r => zc (rv_ p) (kpd T.2.1 i (zkd A (rv_ p))) = 0 ∧ k (pc + 3) lg r (zuF A (rv_ p) (kpd T.2.1 i (zkd A (rv_ p))) u)
  | .iaload, x :: p :: r => k (pc + 1) lg (.int (zI A (rv_ p) (iv x).toNatClampNeg) :: r) A
  | .laload, x :: p :: r => k (pc + 1) lg (.long (zJ A (rv_ p) (iv x).toNatClampNeg) :: r) A
  | .baload, x :: p :: r => k (pc + 1) lg (.int (zI A (rv_ p) (iv x).toNatClampNeg) :: r) A
  | .aaload, x :: p :: r => k (pc + 1) lg (zrl A (rv_ p) (iv x).toNatClampNeg :: r) A
  | .iastore, v :: x :: p :: r => k (pc + 1) lg r (zuI A (rv_ p) (iv x).toNatClampNeg (iv v))
  | .lastore, v :: x :: p :: r => k (pc + 1) lg r (zuJ A (rv_ p) (iv x).toNatClampNeg (jv v))
  | .bastore, v :: x :: p :: r => k (pc + 1) lg r (zuI A (rv_ p) (iv x).toNatClampNeg (vp_nar .boolean (iv v)))
  | .aastore, v :: x :: p :: r => zc (rv_ p) (iv x).toNatClampNeg = 0 ∧ k (pc + 1) lg r (zuR A (rv_ p) (iv x).toNatClampNeg v)
  | .arraylength, p :: r => k (pc + 1) lg (.int (Int32.ofNat (zkd A (rv_ p))) :: r) A
  | .new i, _ => ∀ D : Nat → Value, match T.2.2.1.find? (fun x => x.1 == i) with
    | some x => k (pc + 3) lg (.ref (zN A) :: vs) (zuN A x.2.1 x.2.2.1 D)
    | none => False
  | .instanceof i, p :: r => k (pc + 3) lg (.int (Int32.ofNat (kci T.2.2.2.2.1 i (zkd A (rv_ p)))) :: r) A
  | .checkcast _, _ => k (pc + 3) lg vs A
  | .invokevirtual i, _ => zcall Sp k (3 * i) pc lg vs A
  | .invokestatic i, _ => zcall Sp k (3 * i + 1) pc lg vs A
  | .invokespecial i, _ => zcall Sp k (3 * i + 2) pc lg vs A
  | .return_, [] => Post none A
  | .ireturn, [v] => Post (some v) A
  | .lreturn, [v] => Post (some v) A
  | .areturn, [v] => Post (some v) A
  | _, _ => False
/-- a step by a function for each instruction: the dispatch brings nothing else along -/
abbrev zi_st : Type := fT → zP → (Option Value → zW → Prop) → (Nat → fL_ → List Value → zW → Prop) → Nat → Nat → fL_ → List Value → zW → Prop
def zi_iconst (v : Int) (_ : fT) (_ : zP) (_ : Option Value → zW → Prop) (k : Nat → fL_ → List Value → zW → Prop) (len : Nat) (pc : Nat) (lg : fL_) (vs : List Value) (A : zW) : Prop := k (pc + len) lg (.int (Int32.ofInt v) :: vs) A
def zi_bipush (v : Int) (_ : fT) (_ : zP) (_ : Option Value → zW → Prop) (k : Nat → fL_ → List Value → zW → Prop) (len : Nat) (pc : Nat) (lg : fL_) (vs : List Value) (A : zW) : Prop := match decide (-128 ≤ v ∧ v < 128) with
    | true => k (pc + len) lg (.int (Int32.ofInt v) :: vs) A
    | false => False
def zi_sipush (v : Int) (_ : fT) (_ : zP) (_ : Option Value → zW → Prop) (k : Nat → fL_ → List Value → zW → Prop) (len : Nat) (pc : Nat) (lg : fL_) (vs : List Value) (A : zW) : Prop := match decide (-32768 ≤ v ∧ v < 32768) with
    | true => k (pc + len) lg (.int (Int32.ofInt v) :: vs) A
    | false => False
def zi_lconst (v : Fin 2) (_ : fT) (_ : zP) (_ : Option Value → zW → Prop) (k : Nat → fL_ → List Value → zW → Prop) (len : Nat) (pc : Nat) (lg : fL_) (vs : List Value) (A : zW) : Prop := k (pc + len) lg (.long (Int64.ofNat (v : Nat)) :: vs) A
def zi_ldc (i : Nat) (T : fT) (_ : zP) (_ : Option Value → zW → Prop) (k : Nat → fL_ → List Value → zW → Prop) (len : Nat) (pc : Nat) (lg : fL_) (vs : List Value) (A : zW) : Prop := match T.2.2.2.1.find? (fun x => x.1 == i && x.2.1 == 0) with
    | some x => k (pc + len) lg (.int (Int32.ofInt x.2.2) :: vs) A
    | none => False
def zi_ldc_w (i : Nat) (T : fT) (_ : zP) (_ : Option Value → zW → Prop) (k : Nat → fL_ → List Value → zW → Prop) (len : Nat) (pc : Nat) (lg : fL_) (vs : List Value) (A : zW) : Prop := match T.2.2.2.1.find? (fun x => x.1 == i && x.2.1 == 0) with
    | some x => k (pc + len) lg (.int (Int32.ofInt x.2.2) :: vs) A
    | none => False
def zi_ldc2_w (i : Nat) (T : fT) (_ : zP) (_ : Option Value → zW → Prop) (k : Nat → fL_ → List Value → zW → Prop) (len : Nat) (pc : Nat) (lg : fL_) (vs : List Value) (A : zW) : Prop := match T.2.2.2.1.find? (fun x => x.1 == i && x.2.1 == 1) with
    | some x => k (pc + len) lg (.long (Int64.ofInt x.2.2) :: vs) A
    | none => False
def zi_iload_n (i : Fin 4) (_ : fT) (_ : zP) (_ : Option Value → zW → Prop) (k : Nat → fL_ → List Value → zW → Prop) (len : Nat) (pc : Nat) (lg : fL_) (vs : List Value) (A : zW) : Prop := match lk lg i with
    | some v => k (pc + len) lg (v :: vs) A
    | none => False
def zi_iload (i : Nat) (_ : fT) (_ : zP) (_ : Option Value → zW → Prop) (k : Nat → fL_ → List Value → zW → Prop) (len : Nat) (pc : Nat) (lg : fL_) (vs : List Value) (A : zW) : Prop := match lk lg i with
    | some v => k (pc + len) lg (v :: vs) A
    | none => False
def zi_lload_n (i : Fin 4) (_ : fT) (_ : zP) (_ : Option Value → zW → Prop) (k : Nat → fL_ → List Value → zW → Prop) (len : Nat) (pc : Nat) (lg : fL_) (vs : List Value) (A : zW) : Prop := match lk lg i with
    | some v => k (pc + len) lg (v :: vs) A
    | none => False
def zi_lload (i : Nat) (_ : fT) (_ : zP) (_ : Option Value → zW → Prop) (k : Nat → fL_ → List Value → zW → Prop) (len : Nat) (pc : Nat) (lg : fL_) (vs : List Value) (A : zW) : Prop := match lk lg i with
    | some v => k (pc + len) lg (v :: vs) A
    | none => False
def zi_aload_n (i : Fin 4) (_ : fT) (_ : zP) (_ : Option Value → zW → Prop) (k : Nat → fL_ → List Value → zW → Prop) (len : Nat) (pc : Nat) (lg : fL_) (vs : List Value) (A : zW) : Prop := match lk lg i with
    | some v => k (pc + len) lg (v :: vs) A
    | none => False
def zi_aload (i : Nat) (_ : fT) (_ : zP) (_ : Option Value → zW → Prop) (k : Nat → fL_ → List Value → zW → Prop) (len : Nat) (pc : Nat) (lg : fL_) (vs : List Value) (A : zW) : Prop := match lk lg i with
    | some v => k (pc + len) lg (v :: vs) A
    | none => False
def zi_istore_n (i : Fin 4) (_ : fT) (_ : zP) (_ : Option Value → zW → Prop) (k : Nat → fL_ → List Value → zW → Prop) (len : Nat) (pc : Nat) (lg : fL_) (vs : List Value) (A : zW) : Prop := match vs with
  | v :: r => k (pc + len) (ls1 lg i v) r A
  | _ => False
def zi_istore (i : Nat) (_ : fT) (_ : zP) (_ : Option Value → zW → Prop) (k : Nat → fL_ → List Value → zW → Prop) (len : Nat) (pc : Nat) (lg : fL_) (vs : List Value) (A : zW) : Prop := match vs with
  | v :: r => k (pc + len) (ls1 lg i v) r A
  | _ => False
def zi_astore_n (i : Fin 4) (_ : fT) (_ : zP) (_ : Option Value → zW → Prop) (k : Nat → fL_ → List Value → zW → Prop) (len : Nat) (pc : Nat) (lg : fL_) (vs : List Value) (A : zW) : Prop := match vs with
  | v :: r => k (pc + len) (ls1 lg i v) r A
  | _ => False
def zi_astore (i : Nat) (_ : fT) (_ : zP) (_ : Option Value → zW → Prop) (k : Nat → fL_ → List Value → zW → Prop) (len : Nat) (pc : Nat) (lg : fL_) (vs : List Value) (A : zW) : Prop := match vs with
  | v :: r => k (pc + len) (ls1 lg i v) r A
  | _ => False
def zi_lstore_n (i : Fin 4) (_ : fT) (_ : zP) (_ : Option Value → zW → Prop) (k : Nat → fL_ → List Value → zW → Prop) (len : Nat) (pc : Nat) (lg : fL_) (vs : List Value) (A : zW) : Prop := match vs with
  | v :: r => k (pc + len) (ls2 lg i v) r A
  | _ => False
def zi_lstore (i : Nat) (_ : fT) (_ : zP) (_ : Option Value → zW → Prop) (k : Nat → fL_ → List Value → zW → Prop) (len : Nat) (pc : Nat) (lg : fL_) (vs : List Value) (A : zW) : Prop := match vs with
  | v :: r => k (pc + len) (ls2 lg i v) r A
  | _ => False
def zi_iinc (i : Nat) (c : Int) (_ : fT) (_ : zP) (_ : Option Value → zW → Prop) (k : Nat → fL_ → List Value → zW → Prop) (len : Nat) (pc : Nat) (lg : fL_) (vs : List Value) (A : zW) : Prop := match lk lg i with
    | some v => k (pc + len) (ls1 lg i (.int (iv v + Int32.ofInt c))) vs A
    | none => False
def zi_iadd  (_ : fT) (_ : zP) (_ : Option Value → zW → Prop) (k : Nat → fL_ → List Value → zW → Prop) (_ : Nat) (pc : Nat) (lg : fL_) (vs : List Value) (A : zW) : Prop := match vs with
  | y :: x :: r => k (pc + 1) lg (.int (iv x + iv y) :: r) A
  | _ => False
def zi_isub  (_ : fT) (_ : zP) (_ : Option Value → zW → Prop) (k : Nat → fL_ → List Value → zW → Prop) (_ : Nat) (pc : Nat) (lg : fL_) (vs : List Value) (A : zW) : Prop := match vs with
  | y :: x :: r => k (pc + 1) lg (.int (iv x - iv y) :: r) A
  | _ => False
def zi_imul  (_ : fT) (_ : zP) (_ : Option Value → zW → Prop) (k : Nat → fL_ → List Value → zW → Prop) (_ : Nat) (pc : Nat) (lg : fL_) (vs : List Value) (A : zW) : Prop := match vs with
  | y :: x :: r => k (pc + 1) lg (.int (iv x * iv y) :: r) A
  | _ => False
def zi_iand  (_ : fT) (_ : zP) (_ : Option Value → zW → Prop) (k : Nat → fL_ → List Value → zW → Prop) (_ : Nat) (pc : Nat) (lg : fL_) (vs : List Value) (A : zW) : Prop := match vs with
  | y :: x :: r => k (pc + 1) lg (.int (iv x &&& iv y) :: r) A
  | _ => False
def zi_ior  (_ : fT) (_ : zP) (_ : Option Value → zW → Prop) (k : Nat → fL_ → List Value → zW → Prop) (_ : Nat) (pc : Nat) (lg : fL_) (vs : List Value) (A : zW) : Prop := match vs with
  | y :: x :: r => k (pc + 1) lg (.int (iv x ||| iv y) :: r) A
  | _ => False
def zi_ixor  (_ : fT) (_ : zP) (_ : Option Value → zW → Prop) (k : Nat → fL_ → List Value → zW → Prop) (_ : Nat) (pc : Nat) (lg : fL_) (vs : List Value) (A : zW) : Prop := match vs with
  | y :: x :: r => k (pc + 1) lg (.int (iv x ^^^ iv y) :: r) A
  | _ => False
def zi_ishl  (_ : fT) (_ : zP) (_ : Option Value → zW → Prop) (k : Nat → fL_ → List Value → zW → Prop) (_ : Nat) (pc : Nat) (lg : fL_) (vs : List Value) (A : zW) : Prop := match vs with
  | y :: x :: r => k (pc + 1) lg (.int (iv x <<< (iv y &&& 31)) :: r) A
  | _ => False
def zi_ishr  (_ : fT) (_ : zP) (_ : Option Value → zW → Prop) (k : Nat → fL_ → List Value → zW → Prop) (_ : Nat) (pc : Nat) (lg : fL_) (vs : List Value) (A : zW) : Prop := match vs with
  | y :: x :: r => k (pc + 1) lg (.int (iv x >>> (iv y &&& 31)) :: r) A
  | _ => False
def zi_iushr  (_ : fT) (_ : zP) (_ : Option Value → zW → Prop) (k : Nat → fL_ → List Value → zW → Prop) (_ : Nat) (pc : Nat) (lg : fL_) (vs : List Value) (A : zW) : Prop := match vs with
  | y :: x :: r => k (pc + 1) lg (.int (((iv x).toUInt32 >>> ((iv y).toUInt32 &&& Int32.toUInt32 31)).toInt32) :: r) A
  | _ => False
def zi_idiv  (_ : fT) (_ : zP) (_ : Option Value → zW → Prop) (k : Nat → fL_ → List Value → zW → Prop) (_ : Nat) (pc : Nat) (lg : fL_) (vs : List Value) (A : zW) : Prop := match vs with
  | y :: x :: r => k (pc + 1) lg (.int (iv x / iv y) :: r) A
  | _ => False
def zi_irem  (_ : fT) (_ : zP) (_ : Option Value → zW → Prop) (k : Nat → fL_ → List Value → zW → Prop) (_ : Nat) (pc : Nat) (lg : fL_) (vs : List Value) (A : zW) : Prop := match vs with
  | y :: x :: r => k (pc + 1) lg (.int (iv x % iv y) :: r) A
  | _ => False
def zi_ladd  (_ : fT) (_ : zP) (_ : Option Value → zW → Prop) (k : Nat → fL_ → List Value → zW → Prop) (_ : Nat) (pc : Nat) (lg : fL_) (vs : List Value) (A : zW) : Prop := match vs with
  | y :: x :: r => k (pc + 1) lg (.long (jv x + jv y) :: r) A
  | _ => False
def zi_lsub  (_ : fT) (_ : zP) (_ : Option Value → zW → Prop) (k : Nat → fL_ → List Value → zW → Prop) (_ : Nat) (pc : Nat) (lg : fL_) (vs : List Value) (A : zW) : Prop := match vs with
  | y :: x :: r => k (pc + 1) lg (.long (jv x - jv y) :: r) A
  | _ => False
def zi_lmul  (_ : fT) (_ : zP) (_ : Option Value → zW → Prop) (k : Nat → fL_ → List Value → zW → Prop) (_ : Nat) (pc : Nat) (lg : fL_) (vs : List Value) (A : zW) : Prop := match vs with
  | y :: x :: r => k (pc + 1) lg (.long (jv x * jv y) :: r) A
  | _ => False
def zi_land  (_ : fT) (_ : zP) (_ : Option Value → zW → Prop) (k : Nat → fL_ → List Value → zW → Prop) (_ : Nat) (pc : Nat) (lg : fL_) (vs : List Value) (A : zW) : Prop := match vs with
  | y :: x :: r => k (pc + 1) lg (.long (jv x &&& jv y) :: r) A
  | _ => False
def zi_lor  (_ : fT) (_ : zP) (_ : Option Value → zW → Prop) (k : Nat → fL_ → List Value → zW → Prop) (_ : Nat) (pc : Nat) (lg : fL_) (vs : List Value) (A : zW) : Prop := match vs with
  | y :: x :: r => k (pc + 1) lg (.long (jv x ||| jv y) :: r) A
  | _ => False
def zi_lxor  (_ : fT) (_ : zP) (_ : Option Value → zW → Prop) (k : Nat → fL_ → List Value → zW → Prop) (_ : Nat) (pc : Nat) (lg : fL_) (vs : List Value) (A : zW) : Prop := match vs with
  | y :: x :: r => k (pc + 1) lg (.long (jv x ^^^ jv y) :: r) A
  | _ => False
def zi_lushr  (_ : fT) (_ : zP) (_ : Option Value → zW → Prop) (k : Nat → fL_ → List Value → zW → Prop) (_ : Nat) (pc : Nat) (lg : fL_) (vs : List Value) (A : zW) : Prop := match vs with
  | y :: x :: r => k (pc + 1) lg (.long ((jv x).toUInt64 >>> ((iv y).toInt64.toUInt64 &&& Int64.toUInt64 63)).toInt64 :: r) A
  | _ => False
def zi_lshr  (_ : fT) (_ : zP) (_ : Option Value → zW → Prop) (k : Nat → fL_ → List Value → zW → Prop) (_ : Nat) (pc : Nat) (lg : fL_) (vs : List Value) (A : zW) : Prop := match vs with
  | y :: x :: r => k (pc + 1) lg (.long (jv x >>> ((iv y).toInt64 &&& 63)) :: r) A
  | _ => False
def zi_lshl  (_ : fT) (_ : zP) (_ : Option Value → zW → Prop) (k : Nat → fL_ → List Value → zW → Prop) (_ : Nat) (pc : Nat) (lg : fL_) (vs : List Value) (A : zW) : Prop := match vs with
  | y :: x :: r => k (pc + 1) lg (.long (jv x <<< ((iv y).toInt64 &&& 63)) :: r) A
  | _ => False
def zi_ineg  (_ : fT) (_ : zP) (_ : Option Value → zW → Prop) (k : Nat → fL_ → List Value → zW → Prop) (_ : Nat) (pc : Nat) (lg : fL_) (vs : List Value) (A : zW) : Prop := match vs with
  | x :: r => k (pc + 1) lg (.int (-(iv x)) :: r) A
  | _ => False
def zi_i2l  (_ : fT) (_ : zP) (_ : Option Value → zW → Prop) (k : Nat → fL_ → List Value → zW → Prop) (_ : Nat) (pc : Nat) (lg : fL_) (vs : List Value) (A : zW) : Prop := match vs with
  | x :: r => k (pc + 1) lg (.long (iv x).toInt64 :: r) A
  | _ => False
def zi_l2i  (_ : fT) (_ : zP) (_ : Option Value → zW → Prop) (k : Nat → fL_ → List Value → zW → Prop) (_ : Nat) (pc : Nat) (lg : fL_) (vs : List Value) (A : zW) : Prop := match vs with
  | x :: r => k (pc + 1) lg (.int (jv x).toInt32 :: r) A
  | _ => False
def zi_i2b  (_ : fT) (_ : zP) (_ : Option Value → zW → Prop) (k : Nat → fL_ → List Value → zW → Prop) (_ : Nat) (pc : Nat) (lg : fL_) (vs : List Value) (A : zW) : Prop := match vs with
  | x :: r => k (pc + 1) lg (.int (iv x).toInt8.toInt32 :: r) A
  | _ => False
def zi_i2s  (_ : fT) (_ : zP) (_ : Option Value → zW → Prop) (k : Nat → fL_ → List Value → zW → Prop) (_ : Nat) (pc : Nat) (lg : fL_) (vs : List Value) (A : zW) : Prop := match vs with
  | x :: r => k (pc + 1) lg (.int (iv x).toInt16.toInt32 :: r) A
  | _ => False
def zi_lcmp  (_ : fT) (_ : zP) (_ : Option Value → zW → Prop) (k : Nat → fL_ → List Value → zW → Prop) (_ : Nat) (pc : Nat) (lg : fL_) (vs : List Value) (A : zW) : Prop := match vs with
  | y :: x :: r => k (pc + 1) lg (.int (lg_cmp (jv x) (jv y)) :: r) A
  | _ => False
def zi_aconst_null  (_ : fT) (_ : zP) (_ : Option Value → zW → Prop) (k : Nat → fL_ → List Value → zW → Prop) (_ : Nat) (pc : Nat) (lg : fL_) (vs : List Value) (A : zW) : Prop := k (pc + 1) lg (.null :: vs) A
def zi_dup  (_ : fT) (_ : zP) (_ : Option Value → zW → Prop) (k : Nat → fL_ → List Value → zW → Prop) (_ : Nat) (pc : Nat) (lg : fL_) (vs : List Value) (A : zW) : Prop := match vs with
  | v :: r => k (pc + 1) lg (v :: v :: r) A
  | _ => False
def zi_pop  (_ : fT) (_ : zP) (_ : Option Value → zW → Prop) (k : Nat → fL_ → List Value → zW → Prop) (_ : Nat) (pc : Nat) (lg : fL_) (vs : List Value) (A : zW) : Prop := match vs with
  | _ :: r => k (pc + 1) lg r A
  | _ => False
def zi_pop2  (_ : fT) (_ : zP) (_ : Option Value → zW → Prop) (k : Nat → fL_ → List Value → zW → Prop) (_ : Nat) (pc : Nat) (lg : fL_) (vs : List Value) (A : zW) : Prop := match vs with
  | _ :: r => k (pc + 1) lg r A
  | _ => False
def zi_dup2  (_ : fT) (_ : zP) (_ : Option Value → zW → Prop) (k : Nat → fL_ → List Value → zW → Prop) (_ : Nat) (pc : Nat) (lg : fL_) (vs : List Value) (A : zW) : Prop := match vs with
  | v :: u :: r => k (pc + 1) lg (v :: u :: v :: u :: r) A
  | _ => False
def zi_goto (off : Int) (_ : fT) (_ : zP) (_ : Option Value → zW → Prop) (k : Nat → fL_ → List Value → zW → Prop) (_ : Nat) (pc : Nat) (lg : fL_) (vs : List Value) (A : zW) : Prop := k (f_tg pc off) lg vs A
def zi_ifCond (cd : ClassFile.Cond) (off : Int) (_ : fT) (_ : zP) (_ : Option Value → zW → Prop) (k : Nat → fL_ → List Value → zW → Prop) (_ : Nat) (pc : Nat) (lg : fL_) (vs : List Value) (A : zW) : Prop := match vs with
  | x :: r => (ck_cm cd (iv x).toInt 0 → k (f_tg pc off) lg r A) ∧ (¬ ck_cm cd (iv x).toInt 0 → k (pc + 3) lg r A)
  | _ => False
def zi_if_icmp (cd : ClassFile.Cond) (off : Int) (_ : fT) (_ : zP) (_ : Option Value → zW → Prop) (k : Nat → fL_ → List Value → zW → Prop) (_ : Nat) (pc : Nat) (lg : fL_) (vs : List Value) (A : zW) : Prop := match vs with
  | y :: x :: r => (ck_cm cd (iv x).toInt (iv y).toInt → k (f_tg pc off) lg r A) ∧ (¬ ck_cm cd (iv x).toInt (iv y).toInt → k (pc + 3) lg r A)
  | _ => False
def zi_ifnull (off : Int) (_ : fT) (_ : zP) (_ : Option Value → zW → Prop) (k : Nat → fL_ → List Value → zW → Prop) (_ : Nat) (pc : Nat) (lg : fL_) (vs : List Value) (A : zW) : Prop := match vs with
  | v :: r => (v = .null → k (f_tg pc off) lg r A) ∧ (¬ v = .null → k (pc + 3) lg r A)
  | _ => False
def zi_ifnonnull (off : Int) (_ : fT) (_ : zP) (_ : Option Value → zW → Prop) (k : Nat → fL_ → List Value → zW → Prop) (_ : Nat) (pc : Nat) (lg : fL_) (vs : List Value) (A : zW) : Prop := match vs with
  | v :: r => (¬ v = .null → k (f_tg pc off) lg r A) ∧ (v = .null → k (pc + 3) lg r A)
  | _ => False
def zi_tableswitch (d : Int) (lo : Int) (hi : Int) (os : Array Int) (_ : fT) (_ : zP) (_ : Option Value → zW → Prop) (k : Nat → fL_ → List Value → zW → Prop) (_ : Nat) (pc : Nat) (lg : fL_) (vs : List Value) (A : zW) : Prop := match vs with
  | x :: r => ((iv x).toInt < lo ∨ hi < (iv x).toInt → k (f_tg pc d) lg r A) ∧ (lo ≤ (iv x).toInt → (iv x).toInt ≤ hi → wT k pc lg r A (iv x) lo os.toList)
  | _ => False
def zi_getfield (i : Nat) (T : fT) (_ : zP) (_ : Option Value → zW → Prop) (k : Nat → fL_ → List Value → zW → Prop) (_ : Nat) (pc : Nat) (lg : fL_) (vs : List Value) (A : zW) : Prop := match vs with
  | p :: r => k (pc + 3) lg (zfl A (rv_ p) (kfd T.1 i (zkd A (rv_ p))) :: r) A
  | _ => False
def zi_putfield (i : Nat) (T : fT) (_ : zP) (_ : Option Value → zW → Prop) (k : Nat → fL_ → List Value → zW → Prop) (_ : Nat) (pc : Nat) (lg : fL_) (vs : List Value) (A : zW) : Prop := match vs with
  | u :: p :: r => zc (rv_ p) (kpd T.2.1 i (zkd A (rv_ p))) = 0 ∧ k (pc + 3) lg r (zuF A (rv_ p) (kpd T.2.1 i (zkd A (rv_ p))) u)
  | _ => False
def zi_iaload  (_ : fT) (_ : zP) (_ : Option Value → zW → Prop) (k : Nat → fL_ → List Value → zW → Prop) (_ : Nat) (pc : Nat) (lg : fL_) (vs : List Value) (A : zW) : Prop := match vs with
  | x :: p :: r => k (pc + 1) lg (.int (zI A (rv_ p) (iv x).toNatClampNeg) :: r) A
  | _ => False
def zi_laload  (_ : fT) (_ : zP) (_ : Option Value → zW → Prop) (k : Nat → fL_ → List Value → zW → Prop) (_ : Nat) (pc : Nat) (lg : fL_) (vs : List Value) (A : zW) : Prop := match vs with
  | x :: p :: r => k (pc + 1) lg (.long (zJ A (rv_ p) (iv x).toNatClampNeg) :: r) A
  | _ => False
def zi_baload  (_ : fT) (_ : zP) (_ : Option Value → zW → Prop) (k : Nat → fL_ → List Value → zW → Prop) (_ : Nat) (pc : Nat) (lg : fL_) (vs : List Value) (A : zW) : Prop := match vs with
  | x :: p :: r => k (pc + 1) lg (.int (zI A (rv_ p) (iv x).toNatClampNeg) :: r) A
  | _ => False
def zi_aaload  (_ : fT) (_ : zP) (_ : Option Value → zW → Prop) (k : Nat → fL_ → List Value → zW → Prop) (_ : Nat) (pc : Nat) (lg : fL_) (vs : List Value) (A : zW) : Prop := match vs with
  | x :: p :: r => k (pc + 1) lg (zrl A (rv_ p) (iv x).toNatClampNeg :: r) A
  | _ => False
def zi_iastore  (_ : fT) (_ : zP) (_ : Option Value → zW → Prop) (k : Nat → fL_ → List Value → zW → Prop) (_ : Nat) (pc : Nat) (lg : fL_) (vs : List Value) (A : zW) : Prop := match vs with
  | v :: x :: p :: r => k (pc + 1) lg r (zuI A (rv_ p) (iv x).toNatClampNeg (iv v))
  | _ => False
def zi_lastore  (_ : fT) (_ : zP) (_ : Option Value → zW → Prop) (k : Nat → fL_ → List Value → zW → Prop) (_ : Nat) (pc : Nat) (lg : fL_) (vs : List Value) (A : zW) : Prop := match vs with
  | v :: x :: p :: r => k (pc + 1) lg r (zuJ A (rv_ p) (iv x).toNatClampNeg (jv v))
  | _ => False
def zi_bastore  (_ : fT) (_ : zP) (_ : Option Value → zW → Prop) (k : Nat → fL_ → List Value → zW → Prop) (_ : Nat) (pc : Nat) (lg : fL_) (vs : List Value) (A : zW) : Prop := match vs with
  | v :: x :: p :: r => k (pc + 1) lg r (zuI A (rv_ p) (iv x).toNatClampNeg (vp_nar .boolean (iv v)))
  | _ => False
def zi_aastore  (_ : fT) (_ : zP) (_ : Option Value → zW → Prop) (k : Nat → fL_ → List Value → zW → Prop) (_ : Nat) (pc : Nat) (lg : fL_) (vs : List Value) (A : zW) : Prop := match vs with
  | v :: x :: p :: r => zc (rv_ p) (iv x).toNatClampNeg = 0 ∧ k (pc + 1) lg r (zuR A (rv_ p) (iv x).toNatClampNeg v)
  | _ => False
def zi_arraylength  (_ : fT) (_ : zP) (_ : Option Value → zW → Prop) (k : Nat → fL_ → List Value → zW → Prop) (_ : Nat) (pc : Nat) (lg : fL_) (vs : List Value) (A : zW) : Prop := match vs with
  | p :: r => k (pc + 1) lg (.int (Int32.ofNat (zkd A (rv_ p))) :: r) A
  | _ => False
def zi_new (i : Nat) (T : fT) (_ : zP) (_ : Option Value → zW → Prop) (k : Nat → fL_ → List Value → zW → Prop) (_ : Nat) (pc : Nat) (lg : fL_) (vs : List Value) (A : zW) : Prop := ∀ D : Nat → Value, match T.2.2.1.find? (fun x => x.1 == i) with
    | some x => k (pc + 3) lg (.ref (zN A) :: vs) (zuN A x.2.1 x.2.2.1 D)
    | none => False
def zi_instanceof (i : Nat) (T : fT) (_ : zP) (_ : Option Value → zW → Prop) (k : Nat → fL_ → List Value → zW → Prop) (_ : Nat) (pc : Nat) (lg : fL_) (vs : List Value) (A : zW) : Prop := match vs with
  | p :: r => k (pc + 3) lg (.int (Int32.ofNat (kci T.2.2.2.2.1 i (zkd A (rv_ p)))) :: r) A
  | _ => False
def zi_checkcast (_ : Nat) (_ : fT) (_ : zP) (_ : Option Value → zW → Prop) (k : Nat → fL_ → List Value → zW → Prop) (_ : Nat) (pc : Nat) (lg : fL_) (vs : List Value) (A : zW) : Prop := k (pc + 3) lg vs A
def zi_invokevirtual (i : Nat) (_ : fT) (Sp : zP) (_ : Option Value → zW → Prop) (k : Nat → fL_ → List Value → zW → Prop) (_ : Nat) (pc : Nat) (lg : fL_) (vs : List Value) (A : zW) : Prop := zcall Sp k (3 * i) pc lg vs A
def zi_invokestatic (i : Nat) (_ : fT) (Sp : zP) (_ : Option Value → zW → Prop) (k : Nat → fL_ → List Value → zW → Prop) (_ : Nat) (pc : Nat) (lg : fL_) (vs : List Value) (A : zW) : Prop := zcall Sp k (3 * i + 1) pc lg vs A
def zi_invokespecial (i : Nat) (_ : fT) (Sp : zP) (_ : Option Value → zW → Prop) (k : Nat → fL_ → List Value → zW → Prop) (_ : Nat) (pc : Nat) (lg : fL_) (vs : List Value) (A : zW) : Prop := zcall Sp k (3 * i + 2) pc lg vs A
def zi_return  (_ : fT) (_ : zP) (Post : Option Value → zW → Prop) (_ : Nat → fL_ → List Value → zW → Prop) (_ : Nat) (_ : Nat) (_ : fL_) (vs : List Value) (A : zW) : Prop := match vs with
  | [] => Post none A
  | _ => False
def zi_ireturn  (_ : fT) (_ : zP) (Post : Option Value → zW → Prop) (_ : Nat → fL_ → List Value → zW → Prop) (_ : Nat) (_ : Nat) (_ : fL_) (vs : List Value) (A : zW) : Prop := match vs with
  | [v] => Post (some v) A
  | _ => False
def zi_lreturn  (_ : fT) (_ : zP) (Post : Option Value → zW → Prop) (_ : Nat → fL_ → List Value → zW → Prop) (_ : Nat) (_ : Nat) (_ : fL_) (vs : List Value) (A : zW) : Prop := match vs with
  | [v] => Post (some v) A
  | _ => False
def zi_areturn  (_ : fT) (_ : zP) (Post : Option Value → zW → Prop) (_ : Nat → fL_ → List Value → zW → Prop) (_ : Nat) (_ : Nat) (_ : fL_) (vs : List Value) (A : zW) : Prop := match vs with
  | [v] => Post (some v) A
  | _ => False
def zi_dp (ins : Instr) : zi_st := match ins with
  | .iconst v => zi_iconst v
  | .bipush v => zi_bipush v
  | .sipush v => zi_sipush v
  | .lconst v => zi_lconst v
  | .ldc i => zi_ldc i
  | .ldc_w i => zi_ldc_w i
  | .ldc2_w i => zi_ldc2_w i
  | .iload_n i => zi_iload_n i
  | .iload i => zi_iload i
  | .lload_n i => zi_lload_n i
  | .lload i => zi_lload i
  | .aload_n i => zi_aload_n i
  | .aload i => zi_aload i
  | .istore_n i => zi_istore_n i
  | .istore i => zi_istore i
  | .astore_n i => zi_astore_n i
  | .astore i => zi_astore i
  | .lstore_n i => zi_lstore_n i
  | .lstore i => zi_lstore i
  | .iinc i c => zi_iinc i c
  | .iadd => zi_iadd
  | .isub => zi_isub
  | .imul => zi_imul
  | .iand => zi_iand
  | .ior => zi_ior
  | .ixor => zi_ixor
  | .ishl => zi_ishl
  | .ishr => zi_ishr
  | .iushr => zi_iushr
  | .idiv => zi_idiv
  | .irem => zi_irem
  | .ladd => zi_ladd
  | .lsub => zi_lsub
  | .lmul => zi_lmul
  | .land => zi_land
  | .lor => zi_lor
  | .lxor => zi_lxor
  | .lushr => zi_lushr
  | .lshr => zi_lshr
  | .lshl => zi_lshl
  | .ineg => zi_ineg
  | .i2l => zi_i2l
  | .l2i => zi_l2i
  | .i2b => zi_i2b
  | .i2s => zi_i2s
  | .lcmp => zi_lcmp
  | .aconst_null => zi_aconst_null
  | .dup => zi_dup
  | .pop => zi_pop
  | .pop2 => zi_pop2
  | .dup2 => zi_dup2
  | .goto off => zi_goto off
  | .ifCond cd off => zi_ifCond cd off
  | .if_icmp cd off => zi_if_icmp cd off
  | .ifnull off => zi_ifnull off
  | .ifnonnull off => zi_ifnonnull off
  | .tableswitch d lo hi os => zi_tableswitch d lo hi os
  | .getfield i => zi_getfield i
  | .putfield i => zi_putfield i
  | .iaload => zi_iaload
  | .laload => zi_laload
  | .baload => zi_baload
  | .aaload => zi_aaload
  | .iastore => zi_iastore
  | .lastore => zi_lastore
  | .bastore => zi_bastore
  | .aastore => zi_aastore
  | .arraylength => zi_arraylength
  | .new i => zi_new i
  | .instanceof i => zi_instanceof i
  | .checkcast u0 => zi_checkcast u0
  | .invokevirtual i => zi_invokevirtual i
  | .invokestatic i => zi_invokestatic i
  | .invokespecial i => zi_invokespecial i
  | .return_ => zi_return
  | .ireturn => zi_ireturn
  | .lreturn => zi_lreturn
  | .areturn => zi_areturn
  | _ => fun _ _ _ _ _ _ _ _ _ => False
def zstepG (T : fT) (Sp : zP) (Post : Option Value → zW → Prop) (k : Nat → fL_ → List Value → zW → Prop) (ins : Instr) (len pc : Nat) (lg : fL_) (vs : List Value) (A : zW) : Prop := zi_dp ins T Sp Post k len pc lg vs A
theorem zstepG_eq {T : fT} {Sp : zP} {Post : Option Value → zW → Prop} {k : Nat → fL_ → List Value → zW → Prop} {ins : Instr} {len pc : Nat} {lg : fL_} {vs : List Value} {A : zW} : zstepG T Sp Post k ins len pc lg vs A = zstep T Sp Post k ins len pc lg vs A := by
  cases ins with
  | iconst v => rfl
  | bipush v => rfl
  | sipush v => rfl
  | lconst v => rfl
  | ldc i => rfl
  | ldc_w i => rfl
  | ldc2_w i => rfl
  | iload_n i => rfl
  | iload i => rfl
  | lload_n i => rfl
  | lload i => rfl
  | aload_n i => rfl
  | aload i => rfl
  | istore_n i => rcases vs with _ | ⟨_, r⟩ <;> rfl
  | istore i => rcases vs with _ | ⟨_, r⟩ <;> rfl
  | astore_n i => rcases vs with _ | ⟨_, r⟩ <;> rfl
  | astore i => rcases vs with _ | ⟨_, r⟩ <;> rfl
  | lstore_n i => rcases vs with _ | ⟨_, r⟩ <;> rfl
  | lstore i => rcases vs with _ | ⟨_, r⟩ <;> rfl
  | iinc i c => rfl
  | iadd => rcases vs with _ | ⟨_, _ | ⟨_, r⟩⟩ <;> rfl
  | isub => rcases vs with _ | ⟨_, _ | ⟨_, r⟩⟩ <;> rfl
  | imul => rcases vs with _ | ⟨_, _ | ⟨_, r⟩⟩ <;> rfl
  | iand => rcases vs with _ | ⟨_, _ | ⟨_, r⟩⟩ <;> rfl
  | ior => rcases vs with _ | ⟨_, _ | ⟨_, r⟩⟩ <;> rfl
  | ixor => rcases vs with _ | ⟨_, _ | ⟨_, r⟩⟩ <;> rfl
  | ishl => rcases vs with _ | ⟨_, _ | ⟨_, r⟩⟩ <;> rfl
  | ishr => rcases vs with _ | ⟨_, _ | ⟨_, r⟩⟩ <;> rfl
  | iushr => rcases vs with _ | ⟨_, _ | ⟨_, r⟩⟩ <;> rfl
  | idiv => rcases vs with _ | ⟨_, _ | ⟨_, r⟩⟩ <;> rfl
  | irem => rcases vs with _ | ⟨_, _ | ⟨_, r⟩⟩ <;> rfl
  | ladd => rcases vs with _ | ⟨_, _ | ⟨_, r⟩⟩ <;> rfl
  | lsub => rcases vs with _ | ⟨_, _ | ⟨_, r⟩⟩ <;> rfl
  | lmul => rcases vs with _ | ⟨_, _ | ⟨_, r⟩⟩ <;> rfl
  | land => rcases vs with _ | ⟨_, _ | ⟨_, r⟩⟩ <;> rfl
  | lor => rcases vs with _ | ⟨_, _ | ⟨_, r⟩⟩ <;> rfl
  | lxor => rcases vs with _ | ⟨_, _ | ⟨_, r⟩⟩ <;> rfl
  | lushr => rcases vs with _ | ⟨_, _ | ⟨_, r⟩⟩ <;> rfl
  | lshr => rcases vs with _ | ⟨_, _ | ⟨_, r⟩⟩ <;> rfl
  | lshl => rcases vs with _ | ⟨_, _ | ⟨_, r⟩⟩ <;> rfl
  | ineg => rcases vs with _ | ⟨_, r⟩ <;> rfl
  | i2l => rcases vs with _ | ⟨_, r⟩ <;> rfl
  | l2i => rcases vs with _ | ⟨_, r⟩ <;> rfl
  | i2b => rcases vs with _ | ⟨_, r⟩ <;> rfl
  | i2s => rcases vs with _ | ⟨_, r⟩ <;> rfl
  | lcmp => rcases vs with _ | ⟨_, _ | ⟨_, r⟩⟩ <;> rfl
  | aconst_null => rfl
  | dup => rcases vs with _ | ⟨_, r⟩ <;> rfl
  | pop => rcases vs with _ | ⟨_, r⟩ <;> rfl
  | pop2 => rcases vs with _ | ⟨_, r⟩ <;> rfl
  | dup2 => rcases vs with _ | ⟨_, _ | ⟨_, r⟩⟩ <;> rfl
  | goto off => rfl
  | ifCond cd off => rcases vs with _ | ⟨_, r⟩ <;> rfl
  | if_icmp cd off => rcases vs with _ | ⟨_, _ | ⟨_, r⟩⟩ <;> rfl
  | ifnull off => rcases vs with _ | ⟨_, r⟩ <;> rfl
  | ifnonnull off => rcases vs with _ | ⟨_, r⟩ <;> rfl
  | tableswitch d lo hi os => rcases vs with _ | ⟨_, r⟩ <;> rfl
  | getfield i => rcases vs with _ | ⟨_, r⟩ <;> rfl
  | putfield i => rcases vs with _ | ⟨_, _ | ⟨_, r⟩⟩ <;> rfl
  | iaload => rcases vs with _ | ⟨_, _ | ⟨_, r⟩⟩ <;> rfl
  | laload => rcases vs with _ | ⟨_, _ | ⟨_, r⟩⟩ <;> rfl
  | baload => rcases vs with _ | ⟨_, _ | ⟨_, r⟩⟩ <;> rfl
  | aaload => rcases vs with _ | ⟨_, _ | ⟨_, r⟩⟩ <;> rfl
  | iastore => rcases vs with _ | ⟨_, _ | ⟨_, _ | ⟨_, r⟩⟩⟩ <;> rfl
  | lastore => rcases vs with _ | ⟨_, _ | ⟨_, _ | ⟨_, r⟩⟩⟩ <;> rfl
  | bastore => rcases vs with _ | ⟨_, _ | ⟨_, _ | ⟨_, r⟩⟩⟩ <;> rfl
  | aastore => rcases vs with _ | ⟨_, _ | ⟨_, _ | ⟨_, r⟩⟩⟩ <;> rfl
  | arraylength => rcases vs with _ | ⟨_, r⟩ <;> rfl
  | new i => rfl
  | instanceof i => rcases vs with _ | ⟨_, r⟩ <;> rfl
  | checkcast u0 => rfl
  | invokevirtual i => rfl
  | invokestatic i => rfl
  | invokespecial i => rfl
  | return_ => rcases vs with _ | ⟨_, _⟩ <;> rfl
  | ireturn => rcases vs with _ | ⟨_, _ | ⟨_, _⟩⟩ <;> rfl
  | lreturn => rcases vs with _ | ⟨_, _ | ⟨_, _⟩⟩ <;> rfl
  | areturn => rcases vs with _ | ⟨_, _ | ⟨_, _⟩⟩ <;> rfl
  | _ => rfl
abbrev zH : Type := List (Nat × (fL_ → List Value → zW → Prop))
def zwl (T : fT) (Sp : zP) (Post : Option Value → zW → Prop) (code : ck_cd) (hd : zH) : Nat → ck_cd → Nat → fL_ → List Value → zW → Prop
  | 0, _, _, _, _, _ => False
  | f + 1, suf, pc, lg, vs, A => match hd.find? (fun x => Nat.beq x.1 pc) with
    | some x => x.2 lg vs A
    | none => match ck_sfxN code suf pc with
      | some y => zstepG T Sp Post (zwl T Sp Post code hd f y.2.2.2) y.2.1 y.2.2.1 y.1 lg vs A
      | none => False
def zwh (T : fT) (Sp : zP) (Post : Option Value → zW → Prop) (code : ck_cd) (hd : zH) (f pc : Nat) (lg : fL_) (vs : List Value) (A : zW) : Prop := match ck_fndN code pc with
  | some y => zstepG T Sp Post (zwl T Sp Post code hd f y.2.2.2) y.2.1 y.2.2.1 y.1 lg vs A
  | none => False
/-- a method does what is said -/
def zdo (r : fR) (P : zQ) : Prop := ∀ (As : List Value) (ws : va_W) (sh : List Nat) (rv : Option Value) (ws' : va_W) (sh' : List Nat), r As ws sh rv ws' sh' → zx ws ws' ∧ ∀ (A : zW) (Us : List Value) (K : Option Value → zW → Prop), zA A ws sh → zvs ws As Us → P Us A K → ∃ (A' : zW) (u : Option Value), zA A' ws' sh' ∧ zvs ws' rv.toList u.toList ∧ K u A'
def zsp (T : fT) (Sp : zP) : Prop := ∀ x ∈ Sp, (T.2.2.2.2.2.1 x.1).1 = x.2.1 ∧ zdo (T.2.2.2.2.2.1 x.1).2 x.2.2
/-! a world by places follows the machine's -/
theorem zer.mono {A A' : zW} {ws ws' : va_W} {j : Nat} {e : va_E} (h : zer A ws j e) (hk : zkd A' j = zkd A j) (hI : ∀ i, zI A' j i = zI A j i) (hJ : ∀ i, zJ A' j i = zJ A j i) (hF : ∀ i, zF A' j i = zF A j i) (hR : ∀ i, zR A' j i = zR A j i) (hx : zx ws ws') : zer A' ws' j e := by
  obtain (⟨cA, n, f | f | f | f | f⟩ | o) := e
  · exact ⟨hk.trans h.1, fun i => (hI i).trans (h.2 i)⟩
  · exact ⟨hk.trans h.1, fun i => (hJ i).trans (h.2 i)⟩
  · exact ⟨hk.trans h.1, trivial⟩
  · exact ⟨hk.trans h.1, trivial⟩
  · refine ⟨hk.trans h.1, fun i hi => ?_⟩
    unfold zrl
    rw [hR]
    exact (h.2 i hi).mv hx
  · refine ⟨hk.trans h.1, fun k v hv => ?_⟩
    unfold zfl
    rw [hF]
    exact (h.2 k v hv).mv hx
theorem zx_set {ws : va_W} {q p : Nat} {e e' : va_E} (hq : ws[q]? = some (p, e)) : zx ws (ws.set q (p, e')) := fun j p' e1 h => by
  by_cases hj : q = j
  · subst hj
    rw [hq] at h
    have h := Option.some.inj h
    refine ⟨e', ?_⟩
    have e1 : p = p' := congrArg Prod.fst h
    rw [List.getElem?_set_self (List.getElem?_eq_some_iff.mp hq).1, e1]
  · exact ⟨e1, by rw [List.getElem?_set_ne hj]; exact h⟩
/-- a cell written -/
theorem zA.put {A A' : zW} {ws : va_W} {sh : List Nat} {q p : Nat} {e e' : va_E} (h : zA A ws sh) (hq : ws[q]? = some (p, e)) (hN : zN A' = zN A) (hK : ∀ j, zK A' j = zK A j) (hI : ∀ j i, j ≠ q → zI A' j i = zI A j i) (hJ : ∀ j i, j ≠ q → zJ A' j i = zJ A j i) (hF : ∀ j i, j ≠ q → zF A' j i = zF A j i) (hR : ∀ j i, j ≠ q → zR A' j i = zR A j i) (he : zer A' (ws.set q (p, e')) q e') : zA A' (ws.set q (p, e')) sh := by
  obtain ⟨h1, ⟨h2, h3, h4⟩, h5⟩ := h
  have hlt := (List.getElem?_eq_some_iff.mp hq).1
  have hty : ∀ j, zty A' j = zty A j := fun j => by
    unfold zty
    rw [hK]
  have hkd : ∀ j, zkd A' j = zkd A j := fun j => by
    unfold zkd
    rw [hK]
  refine ⟨h1.set hq, ⟨by rw [List.length_set]; exact h2, by rw [hN, List.length_set]; exact h3, by rw [hN]; exact h4⟩, fun j p' e1 hj => ?_⟩
  by_cases ej : q = j
  · subst ej
    rw [List.getElem?_set_self hlt] at hj
    have hj := Option.some.inj hj
    have e2 : e' = e1 := congrArg Prod.snd hj
    subst e2
    exact ⟨by rw [hty]; exact (h5 q p e hq).1, he⟩
  · rw [List.getElem?_set_ne ej] at hj
    have nj : j ≠ q := fun z => ej z.symm
    obtain ⟨g1, g2⟩ := h5 j p' e1 hj
    exact ⟨by rw [hty]; exact g1, g2.mono (hkd j) (fun i => hI j i nj) (fun i => hJ j i nj) (fun i => hF j i nj) (fun i => hR j i nj) (zx_set hq)⟩
theorem zuI_ne {A : zW} {q i j x : Nat} {v : Int32} (h : j ≠ q) : zI (zuI A q i v) j x = zI A j x := by
  show (bif Nat.beq j q && Nat.beq x i then v else zI A j x) = _
  rw [nbF h]
  rfl
theorem zuJ_ne {A : zW} {q i j x : Nat} {v : Int64} (h : j ≠ q) : zJ (zuJ A q i v) j x = zJ A j x := by
  show (bif Nat.beq j q && Nat.beq x i then v else zJ A j x) = _
  rw [nbF h]
  rfl
theorem zuF_ne {A : zW} {q i j x : Nat} {v : Value} (h : j ≠ q) : zF (zuF A q i v) j x = zF A j x := by
  show (bif Nat.beq j q && Nat.beq x i then v else zF A j x) = _
  rw [nbF h]
  rfl
theorem zuR_ne {A : zW} {q i j x : Nat} {v : Value} (h : j ≠ q) : zR (zuR A q i v) j x = zR A j x := by
  show (bif Nat.beq j q && Nat.beq x i then v else zR A j x) = _
  rw [nbF h]
  rfl
theorem zuI_x {A : zW} {q i j x : Nat} {v : Int32} : zI (zuI A q i v) j x = if j = q ∧ x = i then v else zI A j x := by
  by_cases h1 : j = q
  · by_cases h2 : x = i
    · rw [if_pos ⟨h1, h2⟩]
      show (bif Nat.beq j q && Nat.beq x i then v else zI A j x) = _
      rw [h1, h2, nbT, nbT]
      rfl
    · rw [if_neg (fun z => h2 z.2)]
      show (bif Nat.beq j q && Nat.beq x i then v else zI A j x) = _
      rw [nbF h2, Bool.and_false]
      rfl
  · rw [if_neg (fun z => h1 z.1)]
    exact zuI_ne h1
theorem zuJ_x {A : zW} {q i j x : Nat} {v : Int64} : zJ (zuJ A q i v) j x = if j = q ∧ x = i then v else zJ A j x := by
  by_cases h1 : j = q
  · by_cases h2 : x = i
    · rw [if_pos ⟨h1, h2⟩]
      show (bif Nat.beq j q && Nat.beq x i then v else zJ A j x) = _
      rw [h1, h2, nbT, nbT]
      rfl
    · rw [if_neg (fun z => h2 z.2)]
      show (bif Nat.beq j q && Nat.beq x i then v else zJ A j x) = _
      rw [nbF h2, Bool.and_false]
      rfl
  · rw [if_neg (fun z => h1 z.1)]
    exact zuJ_ne h1
theorem zuF_x {A : zW} {q i j x : Nat} {v : Value} : zF (zuF A q i v) j x = if j = q ∧ x = i then v else zF A j x := by
  by_cases h1 : j = q
  · by_cases h2 : x = i
    · rw [if_pos ⟨h1, h2⟩]
      show (bif Nat.beq j q && Nat.beq x i then v else zF A j x) = _
      rw [h1, h2, nbT, nbT]
      rfl
    · rw [if_neg (fun z => h2 z.2)]
      show (bif Nat.beq j q && Nat.beq x i then v else zF A j x) = _
      rw [nbF h2, Bool.and_false]
      rfl
  · rw [if_neg (fun z => h1 z.1)]
    exact zuF_ne h1
theorem zuR_x {A : zW} {q i j x : Nat} {v : Value} : zR (zuR A q i v) j x = if j = q ∧ x = i then v else zR A j x := by
  by_cases h1 : j = q
  · by_cases h2 : x = i
    · rw [if_pos ⟨h1, h2⟩]
      show (bif Nat.beq j q && Nat.beq x i then v else zR A j x) = _
      rw [h1, h2, nbT, nbT]
      rfl
    · rw [if_neg (fun z => h2 z.2)]
      show (bif Nat.beq j q && Nat.beq x i then v else zR A j x) = _
      rw [nbF h2, Bool.and_false]
      rfl
  · rw [if_neg (fun z => h1 z.1)]
    exact zuR_ne h1
theorem zA.at_ {A : zW} {ws : va_W} {sh : List Nat} {q p j : Nat} {e e' : va_E} (h : zA A ws sh) (hq : ws[q]? = some (p, e)) (hj : ws[j]? = some (p, e')) : j = q := h.1 j q _ _ hj hq rfl
theorem zA.putF {A : zW} {ws : va_W} {sh : List Nat} {q p ci k : Nat} {fs : List Value} {v u : Value} (h : zA A ws sh) (hq : ws[q]? = some (p, .inr (ci, fs))) (hz : zc q k = 0) (hu : zvr ws v u) : zA (zuF A q k u) (ws.set q (p, .inr (ci, fs.set k v))) sh := by
  refine h.put hq rfl (fun _ => rfl) (fun _ _ _ => rfl) (fun _ _ _ => rfl) (fun j i hj => zuF_ne hj) (fun _ _ _ => rfl) ?_
  obtain ⟨-, h1, h2⟩ := h.2.2 q p _ hq
  refine ⟨h1, fun i v' hv' => ?_⟩
  have hv' : (fs.set k v)[i]? = some v' := hv'
  unfold zfl
  rw [zuF_x]
  by_cases e : k = i
  · subst e
    rw [List.getElem?_set] at hv'
    rw [if_pos rfl] at hv'
    split at hv'
    · have hv' := Option.some.inj hv'
      subst hv'
      rw [if_pos ⟨rfl, rfl⟩, hz]
      exact hu.mv (zx_set hq)
    · cases hv'
  · rw [List.getElem?_set_ne e] at hv'
    rw [if_neg (fun z => e z.2.symm)]
    exact (h2 i v' hv').mv (zx_set hq)
theorem zA.putI {A : zW} {ws : va_W} {sh : List Nat} {q p n k : Nat} {cA : ClassId} {f : Nat → Int32} {v : Int32} (h : zA A ws sh) (hq : ws[q]? = some (p, .inl (cA, n, .inl f))) : zA (zuI A q k v) (ws.set q (p, .inl (cA, n, .inl (upd f k v)))) sh := by
  refine h.put hq rfl (fun _ => rfl) (fun j i hj => zuI_ne hj) (fun _ _ _ => rfl) (fun _ _ _ => rfl) (fun _ _ _ => rfl) ?_
  obtain ⟨-, h1, h2⟩ := h.2.2 q p _ hq
  refine ⟨h1, fun i => ?_⟩
  rw [zuI_x]
  show _ = if i = k then v else f i
  by_cases e : i = k
  · rw [if_pos ⟨rfl, e⟩, if_pos e]
  · rw [if_neg (fun z => e z.2), if_neg e]
    exact h2 i
theorem zA.putJ {A : zW} {ws : va_W} {sh : List Nat} {q p n k : Nat} {cA : ClassId} {f : Nat → Int64} {v : Int64} (h : zA A ws sh) (hq : ws[q]? = some (p, .inl (cA, n, .inr (.inl f)))) : zA (zuJ A q k v) (ws.set q (p, .inl (cA, n, .inr (.inl (vp_updL f k v))))) sh := by
  refine h.put hq rfl (fun _ => rfl) (fun _ _ _ => rfl) (fun j i hj => zuJ_ne hj) (fun _ _ _ => rfl) (fun _ _ _ => rfl) ?_
  obtain ⟨-, h1, h2⟩ := h.2.2 q p _ hq
  refine ⟨h1, fun i => ?_⟩
  rw [zuJ_x]
  show _ = if i = k then v else f i
  by_cases e : i = k
  · rw [if_pos ⟨rfl, e⟩, if_pos e]
  · rw [if_neg (fun z => e z.2), if_neg e]
    exact h2 i
theorem zA.putR {A : zW} {ws : va_W} {sh : List Nat} {q p n k : Nat} {cA : ClassId} {f : Nat → Option Nat} {v : Option Nat} {u : Value} (h : zA A ws sh) (hq : ws[q]? = some (p, .inl (cA, n, .inr (.inr (.inr (.inr f)))))) (hz : zc q k = 0) (hu : zvr ws (va_rf v) u) : zA (zuR A q k u) (ws.set q (p, .inl (cA, n, .inr (.inr (.inr (.inr (va_up f k v))))))) sh := by
  refine h.put hq rfl (fun _ => rfl) (fun _ _ _ => rfl) (fun _ _ _ => rfl) (fun _ _ _ => rfl) (fun j i hj => zuR_ne hj) ?_
  obtain ⟨-, h1, h2⟩ := h.2.2 q p _ hq
  refine ⟨h1, fun i hi => ?_⟩
  unfold zrl
  rw [zuR_x]
  show zvr _ (va_rf (if i = k then v else f i)) _
  by_cases e : i = k
  · subst e
    rw [if_pos rfl, if_pos ⟨rfl, rfl⟩, hz]
    exact hu.mv (zx_set hq)
  · rw [if_neg e, if_neg (fun z => e z.2)]
    exact (h2 i hi).mv (zx_set hq)
theorem zx_app {ws : va_W} {x : Nat × va_E} : zx ws (ws ++ [x]) := fun j p e h => ⟨e, by rw [List.getElem?_append_left (List.getElem?_eq_some_iff.mp h).1]; exact h⟩
theorem zA.new {A : zW} {ws : va_W} {sh : List Nat} {q ci t n : Nat} {ty : Nat → FieldType} (h : zA A ws sh) (hd : f_dj (ws ++ [(q, .inr (ci, (List.range n).map fun j => defaultValue (ty j)))])) : zA (zuN A ci t (fun j => defaultValue (ty j))) (ws ++ [(q, .inr (ci, (List.range n).map fun j => defaultValue (ty j)))]) (sh ++ [t]) := by
  obtain ⟨h1, ⟨h2, h3, h4⟩, h5⟩ := h
  have n1 : Nat.beq (zN A) (zN A) = true := nbT _
  have hlt : Nat.blt (zN A) 385 = false := nltF h4
  refine ⟨hd, ⟨by rw [List.length_append, List.length_append, h2]; rfl, by rw [List.length_append]; show zN A + 1 = ws.length + 1; rw [h3], by show 385 ≤ zN A + 1; omega⟩, fun j p e hj => ?_⟩
  by_cases hl : j < ws.length
  · have hjn : Nat.beq j (zN A) = false := nbF (by omega)
    rw [List.getElem?_append_left hl] at hj
    obtain ⟨g1, g2⟩ := h5 j p e hj
    have hK : zK (zuN A ci t (fun j => defaultValue (ty j))) j = zK A j := by
      show (bif Nat.beq j (zN A) then _ else zK A j) = _
      rw [hjn]
      rfl
    have hty : zty (zuN A ci t (fun j => defaultValue (ty j))) j = zty A j := by
      unfold zty
      rw [hK]
    have hkd : zkd (zuN A ci t (fun j => defaultValue (ty j))) j = zkd A j := by
      unfold zkd
      rw [hK]
    refine ⟨?_, g2.mono hkd (fun _ => rfl) (fun _ => rfl) (fun i => ?_) (fun _ => rfl) zx_app⟩
    · rw [List.getElem?_append_left (by omega), hty]
      exact g1
    · show (bif Nat.beq j (zN A) then _ else zF A j i) = _
      rw [hjn]
      rfl
  · rw [List.getElem?_append_right (by omega)] at hj
    have hjl : j - ws.length = 0 := by
      have := (List.getElem?_eq_some_iff.mp hj).1
      simp at this
      omega
    rw [hjl] at hj
    have hj := Option.some.inj hj
    have ej : j = zN A := by omega
    subst ej
    have e1 : (.inr (ci, (List.range n).map fun j => defaultValue (ty j)) : va_E) = e := congrArg Prod.snd hj
    subst e1
    have hK : zK (zuN A ci t (fun j => defaultValue (ty j))) (zN A) = (ci, t) := by
      show (bif Nat.beq (zN A) (zN A) then (ci, t) else _) = _
      rw [n1]
      rfl
    have hz : ∀ k, zc (zN A) k = 0 := fun k => by
      unfold zc
      rw [hlt]
      rfl
    refine ⟨?_, ?_, fun k v hv => ?_⟩
    · rw [List.getElem?_append_right (by omega), show zN A - sh.length = 0 by omega]
      unfold zty
      rw [hlt, hK]
      rfl
    · unfold zkd
      rw [hlt, hK]
      rfl
    · unfold zfl
      rw [hz]
      show zvr _ v (bif Nat.beq (zN A) (zN A) then defaultValue (ty k) else _)
      rw [n1]
      show zvr _ v (defaultValue (ty k))
      have hv : ((List.range n).map fun j => defaultValue (ty j))[k]? = some v := hv
      rw [List.getElem?_map] at hv
      have hk : v = defaultValue (ty k) := by
        cases hr : (List.range n)[k]? with
        | none =>
          rw [hr] at hv
          cases hv
        | some y =>
          rw [hr] at hv
          have e2 := (List.getElem?_eq_some_iff.mp hr).2
          rw [List.getElem_range] at e2
          rw [← Option.some.inj hv, ← e2]
      rw [hk]
      cases ty k <;> exact rfl
end
section
/-! a step of the trace is a step over places -/
def zgo (k : Nat → fL_ → List Value → zW → Prop) (b : fS) : Prop := ∃ (lg' : fL_) (us' : List Value) (A' : zW), zrel b.2.2.2.1 lg' b.2.1 ∧ zvs b.2.2.2.1 b.2.2.1 us' ∧ zA A' b.2.2.2.1 b.2.2.2.2 ∧ k b.1 lg' us' A'
theorem kfd_eq {fl : List (Nat × Nat × Nat)} (hf : ∀ x ∈ fl, fl.find? (fun y => y.1 == x.1 && y.2.1 == x.2.1) = some x) {i ci k : Nat} (hm : (i, ci, k) ∈ fl) : kfd fl i ci = k := by
  have h := hf _ hm
  dsimp only at h
  unfold kfd
  rw [h]
theorem kpd_eq {pl : List (Nat × Nat × Nat × Nat)} (hf : ∀ x ∈ pl, pl.find? (fun y => y.1 == x.1 && y.2.1 == x.2.1) = some x) {i ci k d : Nat} (hm : (i, ci, k, d) ∈ pl) : kpd pl i ci = k := by
  have h := hf _ hm
  dsimp only at h
  unfold kpd
  rw [h]
theorem kci_eq {il : List (Nat × Nat × Nat)} (hf : ∀ x ∈ il, il.find? (fun y => y.1 == x.1 && y.2.1 == x.2.1) = some x) {i ci d : Nat} (hm : (i, ci, d) ∈ il) : kci il i ci = d := by
  have h := hf _ hm
  dsimp only at h
  unfold kci
  rw [h]
section
variable {T : fT} {Sp : zP} {Post : Option Value → zW → Prop} {k : Nat → fL_ → List Value → zW → Prop} {len pc : Nat} {lgS : fL_} {lg : List (Nat × Value)} {vs us : List Value} {A : zW} {ws : va_W} {sh : List Nat}
theorem z_call {key : Nat} {b : fS} (hS : zsp T Sp) (hr : zrel ws lgS lg) (hv : zvs ws vs us) (hA : zA A ws sh) (hx : f_call T key (pc, lg, vs, ws, sh) b) (h : zcall Sp k key pc lgS us A) : zgo k b := by
  obtain ⟨As, rest, rv, ws', sh', hvs, hl, hrel, rfl⟩ := hx
  have hvs : vs = As.reverse ++ rest := hvs
  subst hvs
  unfold zcall at h
  split at h
  · rename_i x hfx
    have hm := List.mem_of_find?_eq_some hfx
    have hp0 := List.find?_some hfx
    have hp : x.1 = key := eq_of_beq hp0
    obtain ⟨ha, hs⟩ := hS x hm
    rw [hp] at ha hs
    obtain ⟨hz, hd⟩ := hs As ws sh rv ws' sh' hrel
    have hlen : As.reverse.length = x.2.1 := by rw [List.length_reverse, hl, ha]
    obtain ⟨v1, v2⟩ := hv.app
    rw [hlen] at v1 v2
    have v3 := v1.rev
    rw [List.reverse_reverse] at v3
    obtain ⟨A', u, hA', hu, hK⟩ := hd A _ _ hA v3 h
    exact ⟨lgS, u.toList ++ us.drop x.2.1, A', hr.mv hz, hu.join (v2.mv hz), hA', hK⟩
  · exact h.elim
set_option maxHeartbeats 4000000 in
theorem zstep_ok {b : fS} {ins : Instr} (hT : f_ok T = true) (hN : T.2.2.2.2.2.2 = none) (hS : zsp T Sp) (hr : zrel ws lgS lg) (hv : zvs ws vs us) (hA : zA A ws sh) (hx : fxi T ins len (pc, lg, vs, ws, sh) b) (h : zstep T Sp Post k ins len pc lgS us A) : zgo k b := by
  obtain ⟨t1, t2, t3, t4, t5⟩ := f_ok_r hT
  have hat : ∀ {q p j : Nat} {e e' : va_E}, ws[q]? = some (p, e) → ws[j]? = some (p, e') → j = q := fun h1 h2 => hA.at_ h1 h2
  have nsc : ∀ {p L : Nat} {xs : Nat → Int32}, T.2.2.2.2.2.2 = some (p, L, xs) → False := fun hh => by rw [hN] at hh; cases hh
  unfold fxi at hx
  split at hx
  · subst hx
    refine ⟨lgS, _, A, hr, ?_, hA, h⟩
    exact ⟨rfl, hv⟩
  · rename_i v
    subst hx
    have h : (match decide (-128 ≤ v ∧ v < 128) with
      | true => k (pc + len) lgS (.int (Int32.ofInt v) :: us) A
      | false => False) := h
    split at h
    · rename_i hd
      have hd := of_decide_eq_true hd
      have e : (Int8.ofInt v).toInt32 = Int32.ofInt v := Int32.toInt_inj.mp (by rw [Int8.toInt_toInt32, Int8.toInt_ofInt_of_le (by omega) (by omega), Int32.toInt_ofInt_of_le (by omega) (by omega)])
      exact ⟨lgS, .int (Int32.ofInt v) :: us, A, hr, ⟨(show Value.int (Int8.ofInt v).toInt32 = .int (Int32.ofInt v) by rw [e]), hv⟩, hA, h⟩
    · exact h.elim
  · rename_i v
    subst hx
    have h : (match decide (-32768 ≤ v ∧ v < 32768) with
      | true => k (pc + len) lgS (.int (Int32.ofInt v) :: us) A
      | false => False) := h
    split at h
    · rename_i hd
      have hd := of_decide_eq_true hd
      have e : (Int16.ofInt v).toInt32 = Int32.ofInt v := Int32.toInt_inj.mp (by rw [Int16.toInt_toInt32, Int16.toInt_ofInt_of_le (by omega) (by omega), Int32.toInt_ofInt_of_le (by omega) (by omega)])
      exact ⟨lgS, .int (Int32.ofInt v) :: us, A, hr, ⟨(show Value.int (Int16.ofInt v).toInt32 = .int (Int32.ofInt v) by rw [e]), hv⟩, hA, h⟩
    · exact h.elim
  · subst hx
    refine ⟨lgS, _, A, hr, ?_, hA, h⟩
    exact ⟨rfl, hv⟩
  · rename_i i
    obtain ⟨v, hm, rfl⟩ := hx
    have h : (match T.2.2.2.1.find? (fun x => x.1 == i && x.2.1 == 0) with
      | some x => k (pc + len) lgS (.int (Int32.ofInt x.2.2) :: us) A
      | none => False) := h
    have hf := t4 _ hm
    dsimp only at hf
    rw [hf] at h
    have h : k (pc + len) lgS (.int (Int32.ofInt v.toInt) :: us) A := h
    rw [Int32.ofInt_toInt] at h
    refine ⟨lgS, _, A, hr, ?_, hA, h⟩
    exact ⟨rfl, hv⟩
  · rename_i i
    obtain ⟨v, hm, rfl⟩ := hx
    have h : (match T.2.2.2.1.find? (fun x => x.1 == i && x.2.1 == 0) with
      | some x => k (pc + len) lgS (.int (Int32.ofInt x.2.2) :: us) A
      | none => False) := h
    have hf := t4 _ hm
    dsimp only at hf
    rw [hf] at h
    have h : k (pc + len) lgS (.int (Int32.ofInt v.toInt) :: us) A := h
    rw [Int32.ofInt_toInt] at h
    refine ⟨lgS, _, A, hr, ?_, hA, h⟩
    exact ⟨rfl, hv⟩
  · rename_i i
    obtain ⟨v, hm, rfl⟩ := hx
    have h : (match T.2.2.2.1.find? (fun x => x.1 == i && x.2.1 == 1) with
      | some x => k (pc + len) lgS (.long (Int64.ofInt x.2.2) :: us) A
      | none => False) := h
    have hf := t4 _ hm
    dsimp only at hf
    rw [hf] at h
    have h : k (pc + len) lgS (.long (Int64.ofInt v.toInt) :: us) A := h
    rw [Int64.ofInt_toInt] at h
    refine ⟨lgS, _, A, hr, ?_, hA, h⟩
    exact ⟨rfl, hv⟩
  · obtain ⟨v, hw, rfl⟩ := hx
    obtain ⟨u, hu, h⟩ := z_ld (K := fun v => k (pc + len) lgS (v :: us) A) hr hw h
    exact ⟨lgS, u :: us, A, hr, ⟨hu, hv⟩, hA, h⟩
  · obtain ⟨v, hw, rfl⟩ := hx
    obtain ⟨u, hu, h⟩ := z_ld (K := fun v => k (pc + len) lgS (v :: us) A) hr hw h
    exact ⟨lgS, u :: us, A, hr, ⟨hu, hv⟩, hA, h⟩
  · obtain ⟨v, hw, rfl⟩ := hx
    obtain ⟨u, hu, h⟩ := z_ld (K := fun v => k (pc + len) lgS (v :: us) A) hr hw h
    exact ⟨lgS, u :: us, A, hr, ⟨hu, hv⟩, hA, h⟩
  · obtain ⟨v, hw, rfl⟩ := hx
    obtain ⟨u, hu, h⟩ := z_ld (K := fun v => k (pc + len) lgS (v :: us) A) hr hw h
    exact ⟨lgS, u :: us, A, hr, ⟨hu, hv⟩, hA, h⟩
  · obtain ⟨v, hw, rfl⟩ := hx
    obtain ⟨u, hu, h⟩ := z_ld (K := fun v => k (pc + len) lgS (v :: us) A) hr hw h
    exact ⟨lgS, u :: us, A, hr, ⟨hu, hv⟩, hA, h⟩
  · obtain ⟨v, hw, rfl⟩ := hx
    obtain ⟨u, hu, h⟩ := z_ld (K := fun v => k (pc + len) lgS (v :: us) A) hr hw h
    exact ⟨lgS, u :: us, A, hr, ⟨hu, hv⟩, hA, h⟩
  · obtain ⟨v, r, hvs, hc, rfl⟩ := hx
    have hvs : vs = v :: r := hvs
    subst hvs
    obtain ⟨u, s, rfl, h1, h2⟩ := hv.cons
    exact ⟨_, s, A, hr.st1 hc h1, h2, hA, h⟩
  · obtain ⟨v, r, hvs, hc, rfl⟩ := hx
    have hvs : vs = v :: r := hvs
    subst hvs
    obtain ⟨u, s, rfl, h1, h2⟩ := hv.cons
    exact ⟨_, s, A, hr.st1 hc h1, h2, hA, h⟩
  · obtain ⟨v, r, hvs, hc, rfl⟩ := hx
    have hvs : vs = v :: r := hvs
    subst hvs
    obtain ⟨u, s, rfl, h1, h2⟩ := hv.cons
    exact ⟨_, s, A, hr.st1 hc h1, h2, hA, h⟩
  · obtain ⟨v, r, hvs, hc, rfl⟩ := hx
    have hvs : vs = v :: r := hvs
    subst hvs
    obtain ⟨u, s, rfl, h1, h2⟩ := hv.cons
    exact ⟨_, s, A, hr.st1 hc h1, h2, hA, h⟩
  · obtain ⟨v, r, hvs, hc, rfl⟩ := hx
    have hvs : vs = v :: r := hvs
    subst hvs
    obtain ⟨u, s, rfl, h1, h2⟩ := hv.cons
    exact ⟨_, s, A, hr.st2 h1, h2, hA, h⟩
  · obtain ⟨v, r, hvs, hc, rfl⟩ := hx
    have hvs : vs = v :: r := hvs
    subst hvs
    obtain ⟨u, s, rfl, h1, h2⟩ := hv.cons
    exact ⟨_, s, A, hr.st2 h1, h2, hA, h⟩
  · rename_i i c
    obtain ⟨x, hw, rfl⟩ := hx
    obtain ⟨u, hu, h⟩ := z_ld (K := fun v => k (pc + len) (ls1 lgS i (.int (iv v + Int32.ofInt c))) us A) hr hw h
    obtain rfl := hu.int
    exact ⟨_, us, A, hr.st1 rfl (show zvr ws (.int (x + Int32.ofInt c)) (.int (x + Int32.ofInt c)) from rfl), hv, hA, h⟩
  · obtain ⟨x, y, r, hvs, rfl⟩ := hx
    have hvs : vs = _ := hvs
    subst hvs
    obtain ⟨u1, s1, rfl, h1, h2⟩ := hv.cons
    obtain ⟨u2, s2, rfl, h3, h4⟩ := h2.cons
    obtain rfl := h1.int
    obtain rfl := h3.int
    refine ⟨lgS, _, A, hr, ?_, hA, h⟩
    exact ⟨rfl, h4⟩
  · obtain ⟨x, y, r, hvs, rfl⟩ := hx
    have hvs : vs = _ := hvs
    subst hvs
    obtain ⟨u1, s1, rfl, h1, h2⟩ := hv.cons
    obtain ⟨u2, s2, rfl, h3, h4⟩ := h2.cons
    obtain rfl := h1.int
    obtain rfl := h3.int
    refine ⟨lgS, _, A, hr, ?_, hA, h⟩
    exact ⟨rfl, h4⟩
  · obtain ⟨x, y, r, hvs, rfl⟩ := hx
    have hvs : vs = _ := hvs
    subst hvs
    obtain ⟨u1, s1, rfl, h1, h2⟩ := hv.cons
    obtain ⟨u2, s2, rfl, h3, h4⟩ := h2.cons
    obtain rfl := h1.int
    obtain rfl := h3.int
    refine ⟨lgS, _, A, hr, ?_, hA, h⟩
    exact ⟨rfl, h4⟩
  · obtain ⟨x, y, r, hvs, rfl⟩ := hx
    have hvs : vs = _ := hvs
    subst hvs
    obtain ⟨u1, s1, rfl, h1, h2⟩ := hv.cons
    obtain ⟨u2, s2, rfl, h3, h4⟩ := h2.cons
    obtain rfl := h1.int
    obtain rfl := h3.int
    refine ⟨lgS, _, A, hr, ?_, hA, h⟩
    exact ⟨rfl, h4⟩
  · obtain ⟨x, y, r, hvs, rfl⟩ := hx
    have hvs : vs = _ := hvs
    subst hvs
    obtain ⟨u1, s1, rfl, h1, h2⟩ := hv.cons
    obtain ⟨u2, s2, rfl, h3, h4⟩ := h2.cons
    obtain rfl := h1.int
    obtain rfl := h3.int
    refine ⟨lgS, _, A, hr, ?_, hA, h⟩
    exact ⟨rfl, h4⟩
  · obtain ⟨x, y, r, hvs, rfl⟩ := hx
    have hvs : vs = _ := hvs
    subst hvs
    obtain ⟨u1, s1, rfl, h1, h2⟩ := hv.cons
    obtain ⟨u2, s2, rfl, h3, h4⟩ := h2.cons
    obtain rfl := h1.int
    obtain rfl := h3.int
    refine ⟨lgS, _, A, hr, ?_, hA, h⟩
    exact ⟨rfl, h4⟩
  · obtain ⟨x, y, r, hvs, rfl⟩ := hx
    have hvs : vs = _ := hvs
    subst hvs
    obtain ⟨u1, s1, rfl, h1, h2⟩ := hv.cons
    obtain ⟨u2, s2, rfl, h3, h4⟩ := h2.cons
    obtain rfl := h1.int
    obtain rfl := h3.int
    refine ⟨lgS, _, A, hr, ?_, hA, h⟩
    exact ⟨rfl, h4⟩
  · obtain ⟨x, y, r, hvs, rfl⟩ := hx
    have hvs : vs = _ := hvs
    subst hvs
    obtain ⟨u1, s1, rfl, h1, h2⟩ := hv.cons
    obtain ⟨u2, s2, rfl, h3, h4⟩ := h2.cons
    obtain rfl := h1.int
    obtain rfl := h3.int
    refine ⟨lgS, _, A, hr, ?_, hA, h⟩
    exact ⟨rfl, h4⟩
  · obtain ⟨x, y, r, hvs, rfl⟩ := hx
    have hvs : vs = _ := hvs
    subst hvs
    obtain ⟨u1, s1, rfl, h1, h2⟩ := hv.cons
    obtain ⟨u2, s2, rfl, h3, h4⟩ := h2.cons
    obtain rfl := h1.int
    obtain rfl := h3.int
    refine ⟨lgS, _, A, hr, ?_, hA, h⟩
    exact ⟨rfl, h4⟩
  · obtain ⟨x, y, r, hvs, rfl⟩ := hx
    have hvs : vs = _ := hvs
    subst hvs
    obtain ⟨u1, s1, rfl, h1, h2⟩ := hv.cons
    obtain ⟨u2, s2, rfl, h3, h4⟩ := h2.cons
    obtain rfl := h1.int
    obtain rfl := h3.int
    refine ⟨lgS, _, A, hr, ?_, hA, h⟩
    exact ⟨rfl, h4⟩
  · obtain ⟨x, y, r, hvs, rfl⟩ := hx
    have hvs : vs = _ := hvs
    subst hvs
    obtain ⟨u1, s1, rfl, h1, h2⟩ := hv.cons
    obtain ⟨u2, s2, rfl, h3, h4⟩ := h2.cons
    obtain rfl := h1.int
    obtain rfl := h3.int
    refine ⟨lgS, _, A, hr, ?_, hA, h⟩
    exact ⟨rfl, h4⟩
  · obtain ⟨x, y, r, hvs, rfl⟩ := hx
    have hvs : vs = _ := hvs
    subst hvs
    obtain ⟨u1, s1, rfl, h1, h2⟩ := hv.cons
    obtain ⟨u2, s2, rfl, h3, h4⟩ := h2.cons
    obtain rfl := h1.long
    obtain rfl := h3.long
    refine ⟨lgS, _, A, hr, ?_, hA, h⟩
    exact ⟨rfl, h4⟩
  · obtain ⟨x, y, r, hvs, rfl⟩ := hx
    have hvs : vs = _ := hvs
    subst hvs
    obtain ⟨u1, s1, rfl, h1, h2⟩ := hv.cons
    obtain ⟨u2, s2, rfl, h3, h4⟩ := h2.cons
    obtain rfl := h1.long
    obtain rfl := h3.long
    refine ⟨lgS, _, A, hr, ?_, hA, h⟩
    exact ⟨rfl, h4⟩
  · obtain ⟨x, y, r, hvs, rfl⟩ := hx
    have hvs : vs = _ := hvs
    subst hvs
    obtain ⟨u1, s1, rfl, h1, h2⟩ := hv.cons
    obtain ⟨u2, s2, rfl, h3, h4⟩ := h2.cons
    obtain rfl := h1.long
    obtain rfl := h3.long
    refine ⟨lgS, _, A, hr, ?_, hA, h⟩
    exact ⟨rfl, h4⟩
  · obtain ⟨x, y, r, hvs, rfl⟩ := hx
    have hvs : vs = _ := hvs
    subst hvs
    obtain ⟨u1, s1, rfl, h1, h2⟩ := hv.cons
    obtain ⟨u2, s2, rfl, h3, h4⟩ := h2.cons
    obtain rfl := h1.long
    obtain rfl := h3.long
    refine ⟨lgS, _, A, hr, ?_, hA, h⟩
    exact ⟨rfl, h4⟩
  · obtain ⟨x, y, r, hvs, rfl⟩ := hx
    have hvs : vs = _ := hvs
    subst hvs
    obtain ⟨u1, s1, rfl, h1, h2⟩ := hv.cons
    obtain ⟨u2, s2, rfl, h3, h4⟩ := h2.cons
    obtain rfl := h1.long
    obtain rfl := h3.long
    refine ⟨lgS, _, A, hr, ?_, hA, h⟩
    exact ⟨rfl, h4⟩
  · obtain ⟨x, y, r, hvs, rfl⟩ := hx
    have hvs : vs = _ := hvs
    subst hvs
    obtain ⟨u1, s1, rfl, h1, h2⟩ := hv.cons
    obtain ⟨u2, s2, rfl, h3, h4⟩ := h2.cons
    obtain rfl := h1.long
    obtain rfl := h3.long
    refine ⟨lgS, _, A, hr, ?_, hA, h⟩
    exact ⟨rfl, h4⟩
  · obtain ⟨x, y, r, hvs, rfl⟩ := hx
    have hvs : vs = _ := hvs
    subst hvs
    obtain ⟨u1, s1, rfl, h1, h2⟩ := hv.cons
    obtain ⟨u2, s2, rfl, h3, h4⟩ := h2.cons
    obtain rfl := h1.int
    obtain rfl := h3.long
    refine ⟨lgS, _, A, hr, ?_, hA, h⟩
    exact ⟨rfl, h4⟩
  · obtain ⟨x, y, r, hvs, rfl⟩ := hx
    have hvs : vs = _ := hvs
    subst hvs
    obtain ⟨u1, s1, rfl, h1, h2⟩ := hv.cons
    obtain ⟨u2, s2, rfl, h3, h4⟩ := h2.cons
    obtain rfl := h1.int
    obtain rfl := h3.long
    refine ⟨lgS, _, A, hr, ?_, hA, h⟩
    exact ⟨rfl, h4⟩
  · obtain ⟨x, y, r, hvs, rfl⟩ := hx
    have hvs : vs = _ := hvs
    subst hvs
    obtain ⟨u1, s1, rfl, h1, h2⟩ := hv.cons
    obtain ⟨u2, s2, rfl, h3, h4⟩ := h2.cons
    obtain rfl := h1.int
    obtain rfl := h3.long
    refine ⟨lgS, _, A, hr, ?_, hA, h⟩
    exact ⟨rfl, h4⟩
  · obtain ⟨x, r, hvs, rfl⟩ := hx
    have hvs : vs = _ := hvs
    subst hvs
    obtain ⟨u1, s1, rfl, h1, h2⟩ := hv.cons
    obtain rfl := h1.int
    refine ⟨lgS, _, A, hr, ?_, hA, h⟩
    exact ⟨rfl, h2⟩
  · obtain ⟨x, r, hvs, rfl⟩ := hx
    have hvs : vs = _ := hvs
    subst hvs
    obtain ⟨u1, s1, rfl, h1, h2⟩ := hv.cons
    obtain rfl := h1.int
    refine ⟨lgS, _, A, hr, ?_, hA, h⟩
    exact ⟨rfl, h2⟩
  · obtain ⟨x, r, hvs, rfl⟩ := hx
    have hvs : vs = _ := hvs
    subst hvs
    obtain ⟨u1, s1, rfl, h1, h2⟩ := hv.cons
    obtain rfl := h1.long
    refine ⟨lgS, _, A, hr, ?_, hA, h⟩
    exact ⟨rfl, h2⟩
  · obtain ⟨x, r, hvs, rfl⟩ := hx
    have hvs : vs = _ := hvs
    subst hvs
    obtain ⟨u1, s1, rfl, h1, h2⟩ := hv.cons
    obtain rfl := h1.int
    refine ⟨lgS, _, A, hr, ?_, hA, h⟩
    exact ⟨rfl, h2⟩
  · obtain ⟨x, r, hvs, rfl⟩ := hx
    have hvs : vs = _ := hvs
    subst hvs
    obtain ⟨u1, s1, rfl, h1, h2⟩ := hv.cons
    obtain rfl := h1.int
    refine ⟨lgS, _, A, hr, ?_, hA, h⟩
    exact ⟨rfl, h2⟩
  · obtain ⟨x, y, r, hvs, rfl⟩ := hx
    have hvs : vs = _ := hvs
    subst hvs
    obtain ⟨u1, s1, rfl, h1, h2⟩ := hv.cons
    obtain ⟨u2, s2, rfl, h3, h4⟩ := h2.cons
    obtain rfl := h1.long
    obtain rfl := h3.long
    refine ⟨lgS, _, A, hr, ?_, hA, h⟩
    exact ⟨rfl, h4⟩
  · subst hx
    refine ⟨lgS, _, A, hr, ?_, hA, h⟩
    exact ⟨rfl, hv⟩
  · obtain ⟨v, r, hvs, rfl⟩ := hx
    have hvs : vs = _ := hvs
    subst hvs
    obtain ⟨u1, s1, rfl, h1, h2⟩ := hv.cons
    exact ⟨lgS, u1 :: u1 :: s1, A, hr, ⟨h1, h1, h2⟩, hA, h⟩
  · obtain ⟨v, r, hvs, rfl⟩ := hx
    have hvs : vs = _ := hvs
    subst hvs
    obtain ⟨u1, s1, rfl, h1, h2⟩ := hv.cons
    exact ⟨lgS, s1, A, hr, h2, hA, h⟩
  · obtain ⟨v, r, hvs, rfl⟩ := hx
    have hvs : vs = _ := hvs
    subst hvs
    obtain ⟨u1, s1, rfl, h1, h2⟩ := hv.cons
    exact ⟨lgS, s1, A, hr, h2, hA, h⟩
  · obtain ⟨v, u, r, hvs, rfl⟩ := hx
    have hvs : vs = _ := hvs
    subst hvs
    obtain ⟨u1, s1, rfl, h1, h2⟩ := hv.cons
    obtain ⟨u2, s2, rfl, h3, h4⟩ := h2.cons
    exact ⟨lgS, u1 :: u2 :: u1 :: u2 :: s2, A, hr, ⟨h1, h3, h1, h3, h4⟩, hA, h⟩
  · rename_i off
    obtain ⟨t, ht, rfl⟩ := hx
    have h : k (f_tg pc off) lgS us A := h
    rw [f_tg_eq ht] at h
    exact ⟨lgS, us, A, hr, hv, hA, h⟩
  · obtain ⟨x, r, hvs, hb⟩ := hx
    have hvs : vs = _ := hvs
    subst hvs
    obtain ⟨u1, s1, rfl, h1, h2⟩ := hv.cons
    obtain rfl := h1.int
    rcases hb with ⟨hc, t, ht, rfl⟩ | ⟨hc, rfl⟩
    · have h := (show _ ∧ _ from h).1 hc
      rw [f_tg_eq ht] at h
      exact ⟨lgS, s1, A, hr, h2, hA, h⟩
    · exact ⟨lgS, s1, A, hr, h2, hA, (show _ ∧ _ from h).2 hc⟩
  · obtain ⟨x, y, r, hvs, hb⟩ := hx
    have hvs : vs = _ := hvs
    subst hvs
    obtain ⟨u1, s1, rfl, h1, h2⟩ := hv.cons
    obtain ⟨u2, s2, rfl, h3, h4⟩ := h2.cons
    obtain rfl := h1.int
    obtain rfl := h3.int
    rcases hb with ⟨hc, t, ht, rfl⟩ | ⟨hc, rfl⟩
    · have h := (show _ ∧ _ from h).1 hc
      rw [f_tg_eq ht] at h
      exact ⟨lgS, s2, A, hr, h4, hA, h⟩
    · exact ⟨lgS, s2, A, hr, h4, hA, (show _ ∧ _ from h).2 hc⟩
  · obtain ⟨v, r, hvs, hb⟩ := hx
    have hvs : vs = _ := hvs
    subst hvs
    obtain ⟨u1, s1, rfl, h1, h2⟩ := hv.cons
    rcases hb with ⟨hc, t, ht, rfl⟩ | ⟨hc, rfl⟩
    · have h := (show _ ∧ _ from h).1 (h1.nul.mp hc)
      rw [f_tg_eq ht] at h
      exact ⟨lgS, s1, A, hr, h2, hA, h⟩
    · exact ⟨lgS, s1, A, hr, h2, hA, (show _ ∧ _ from h).2 (fun z => hc (h1.nul.mpr z))⟩
  · obtain ⟨v, r, hvs, hb⟩ := hx
    have hvs : vs = _ := hvs
    subst hvs
    obtain ⟨u1, s1, rfl, h1, h2⟩ := hv.cons
    rcases hb with ⟨hc, t, ht, rfl⟩ | ⟨hc, rfl⟩
    · have h := (show _ ∧ _ from h).1 (fun z => hc (h1.nul.mpr z))
      rw [f_tg_eq ht] at h
      exact ⟨lgS, s1, A, hr, h2, hA, h⟩
    · exact ⟨lgS, s1, A, hr, h2, hA, (show _ ∧ _ from h).2 (h1.nul.mp (Classical.not_not.mp hc))⟩
  · rename_i d lo hi os
    obtain ⟨x, r, hvs, off, t, hcs, ht, rfl⟩ := hx
    have hvs : vs = _ := hvs
    subst hvs
    obtain ⟨u1, s1, rfl, h1, h2⟩ := hv.cons
    obtain rfl := h1.int
    have h : (x.toInt < lo ∨ hi < x.toInt → k (f_tg pc d) lgS s1 A) ∧ (lo ≤ x.toInt → x.toInt ≤ hi → wT k pc lgS s1 A x lo os.toList) := h
    rcases hcs with ⟨ho, rfl⟩ | ⟨h3, h4, ho⟩
    · have h := h.1 ho
      rw [f_tg_eq ht] at h
      exact ⟨lgS, s1, A, hr, h2, hA, h⟩
    · have h := wT_ok (x.toInt - lo).toNat (h.2 (by omega) (by omega)) (by rw [Array.getElem?_toList]; exact ho) (by omega)
      rw [f_tg_eq ht] at h
      exact ⟨lgS, s1, A, hr, h2, hA, h⟩
  · rename_i i
    obtain ⟨p, r, q, ci, kk, fs, v, hvs, hq, hm, hw, rfl⟩ := hx
    have hvs : vs = _ := hvs
    subst hvs
    obtain ⟨u1, s1, rfl, h1, h2⟩ := hv.cons
    obtain ⟨j, e, rfl, hj⟩ := h1.ref
    have ej := hat hq hj
    subst ej
    obtain ⟨-, g1, g2⟩ := hA.2.2 j p _ hq
    have g1 : zkd A j = ci := g1
    have h : k (pc + 3) lgS (zfl A j (kfd T.1 i (zkd A j)) :: s1) A := h
    rw [g1, kfd_eq t1 hm] at h
    exact ⟨lgS, _ :: s1, A, hr, ⟨g2 kk v hw, h2⟩, hA, h⟩
  · rename_i i
    obtain ⟨w, p, r, q, ci, kk, d, fs, hvs, hq, hm, hl, rfl⟩ := hx
    have hvs : vs = _ := hvs
    subst hvs
    obtain ⟨u1, s1, rfl, h1, h2⟩ := hv.cons
    obtain ⟨u2, s2, rfl, h3, h4⟩ := h2.cons
    obtain ⟨j, e, rfl, hj⟩ := h3.ref
    have ej := hat hq hj
    subst ej
    obtain ⟨-, g1, g2⟩ := hA.2.2 j p _ hq
    have g1 : zkd A j = ci := g1
    have h : zc j (kpd T.2.1 i (zkd A j)) = 0 ∧ k (pc + 3) lgS s2 (zuF A j (kpd T.2.1 i (zkd A j)) u1) := h
    rw [g1, kpd_eq t2 hm] at h
    exact ⟨lgS, s2, _, hr.mv (zx_set hq), h4.mv (zx_set hq), hA.putF hq h.1 h1, h.2⟩
  · exact (show False from h).elim
  · obtain ⟨x, p, r, hvs, hc⟩ := hx
    have hvs : vs = _ := hvs
    subst hvs
    obtain ⟨u1, s1, rfl, h1, h2⟩ := hv.cons
    obtain ⟨u2, s2, rfl, h3, h4⟩ := h2.cons
    obtain rfl := h1.int
    obtain ⟨j, e, rfl, hj⟩ := h3.ref
    rcases hc with ⟨-, q, ln, cA, f, hq, hlt, rfl⟩ | ⟨L, xs, hsb, rfl⟩
    · have ej := hat hq hj
      subst ej
      obtain ⟨-, g1, g2⟩ := hA.2.2 j p _ hq
      refine ⟨lgS, .int (zI A j x.toNatClampNeg) :: s2, A, hr, ⟨?_, h4⟩, hA, h⟩
      show Value.int (f x.toNatClampNeg) = .int (zI A j x.toNatClampNeg)
      rw [g2]
    · exact (nsc hsb).elim
  · obtain ⟨x, p, r, hvs, hc⟩ := hx
    have hvs : vs = _ := hvs
    subst hvs
    obtain ⟨u1, s1, rfl, h1, h2⟩ := hv.cons
    obtain ⟨u2, s2, rfl, h3, h4⟩ := h2.cons
    obtain rfl := h1.int
    obtain ⟨j, e, rfl, hj⟩ := h3.ref
    rcases hc with ⟨q, ln, cA, f, hq, hlt, rfl⟩ | ⟨ho, rfl⟩
    · have ej := hat hq hj
      subst ej
      obtain ⟨-, g1, g2⟩ := hA.2.2 j p _ hq
      refine ⟨lgS, .long (zJ A j x.toNatClampNeg) :: s2, A, hr, ⟨?_, h4⟩, hA, h⟩
      show Value.long (f x.toNatClampNeg) = .long (zJ A j x.toNatClampNeg)
      rw [g2]
    · exact absurd hj (ho j e)
  · obtain ⟨x, p, r, hvs, q, ln, cA, f, hq, hlt, rfl⟩ := hx
    have hvs : vs = _ := hvs
    subst hvs
    obtain ⟨u1, s1, rfl, h1, h2⟩ := hv.cons
    obtain ⟨u2, s2, rfl, h3, h4⟩ := h2.cons
    obtain rfl := h1.int
    obtain ⟨j, e, rfl, hj⟩ := h3.ref
    have ej := hat hq hj
    subst ej
    obtain ⟨-, g1, g2⟩ := hA.2.2 j p _ hq
    refine ⟨lgS, .int (zI A j x.toNatClampNeg) :: s2, A, hr, ⟨?_, h4⟩, hA, h⟩
    show Value.int (f x.toNatClampNeg) = .int (zI A j x.toNatClampNeg)
    rw [g2]
  · obtain ⟨x, p, r, hvs, q, ln, cA, f, hq, hlt, rfl⟩ := hx
    have hvs : vs = _ := hvs
    subst hvs
    obtain ⟨u1, s1, rfl, h1, h2⟩ := hv.cons
    obtain ⟨u2, s2, rfl, h3, h4⟩ := h2.cons
    obtain rfl := h1.int
    obtain ⟨j, e, rfl, hj⟩ := h3.ref
    have ej := hat hq hj
    subst ej
    obtain ⟨-, g1, g2⟩ := hA.2.2 j p _ hq
    exact ⟨lgS, zrl A j x.toNatClampNeg :: s2, A, hr, ⟨g2 _ hlt, h4⟩, hA, h⟩
  · obtain ⟨v, x, p, r, hvs, q, ln, cA, f, hq, hlt, rfl⟩ := hx
    have hvs : vs = _ := hvs
    subst hvs
    obtain ⟨u1, s1, rfl, h1, h2⟩ := hv.cons
    obtain ⟨u2, s2, rfl, h3, h4⟩ := h2.cons
    obtain ⟨u3, s3, rfl, h5, h6⟩ := h4.cons
    obtain rfl := h1.int
    obtain rfl := h3.int
    obtain ⟨j, e, rfl, hj⟩ := h5.ref
    have ej := hat hq hj
    subst ej
    exact ⟨lgS, s3, _, hr.mv (zx_set hq), h6.mv (zx_set hq), hA.putI hq, h⟩
  · obtain ⟨v, x, p, r, hvs, q, ln, cA, f, hq, hlt, rfl⟩ := hx
    have hvs : vs = _ := hvs
    subst hvs
    obtain ⟨u1, s1, rfl, h1, h2⟩ := hv.cons
    obtain ⟨u2, s2, rfl, h3, h4⟩ := h2.cons
    obtain ⟨u3, s3, rfl, h5, h6⟩ := h4.cons
    obtain rfl := h1.long
    obtain rfl := h3.int
    obtain ⟨j, e, rfl, hj⟩ := h5.ref
    have ej := hat hq hj
    subst ej
    exact ⟨lgS, s3, _, hr.mv (zx_set hq), h6.mv (zx_set hq), hA.putJ hq, h⟩
  · obtain ⟨v, x, p, r, hvs, q, ln, cA, f, hq, hlt, rfl⟩ := hx
    have hvs : vs = _ := hvs
    subst hvs
    obtain ⟨u1, s1, rfl, h1, h2⟩ := hv.cons
    obtain ⟨u2, s2, rfl, h3, h4⟩ := h2.cons
    obtain ⟨u3, s3, rfl, h5, h6⟩ := h4.cons
    obtain rfl := h1.int
    obtain rfl := h3.int
    obtain ⟨j, e, rfl, hj⟩ := h5.ref
    have ej := hat hq hj
    subst ej
    exact ⟨lgS, s3, _, hr.mv (zx_set hq), h6.mv (zx_set hq), hA.putI hq, h⟩
  · obtain ⟨v, x, p, r, hvs, q, ln, cA, f, hq, hlt, rfl⟩ := hx
    have hvs : vs = _ := hvs
    subst hvs
    obtain ⟨u1, s1, rfl, h1, h2⟩ := hv.cons
    obtain ⟨u2, s2, rfl, h3, h4⟩ := h2.cons
    obtain ⟨u3, s3, rfl, h5, h6⟩ := h4.cons
    obtain rfl := h3.int
    obtain ⟨j, e, rfl, hj⟩ := h5.ref
    have ej := hat hq hj
    subst ej
    have h : zc j x.toNatClampNeg = 0 ∧ k (pc + 1) lgS s3 (zuR A j x.toNatClampNeg u1) := h
    exact ⟨lgS, s3, _, hr.mv (zx_set hq), h6.mv (zx_set hq), hA.putR hq h.1 h1, h.2⟩
  · obtain ⟨p, r, hvs, hc⟩ := hx
    have hvs : vs = _ := hvs
    subst hvs
    obtain ⟨u1, s1, rfl, h1, h2⟩ := hv.cons
    obtain ⟨j, e, rfl, hj⟩ := h1.ref
    rcases hc with ⟨hn, q, cA, y, hq, rfl⟩ | ⟨L, xs, hsb, rfl⟩ | ⟨hn, ho, rfl⟩
    · have ej := hat hq hj
      subst ej
      have g1 : zkd A j = y.1 := (hA.2.2 j p _ hq).2.1
      have h : k (pc + 1) lgS (.int (Int32.ofNat (zkd A j)) :: s1) A := h
      rw [g1] at h
      refine ⟨lgS, _, A, hr, ?_, hA, h⟩
      exact ⟨rfl, h2⟩
    · exact (nsc hsb).elim
    · exact absurd hj (ho j e)
  · rename_i i
    obtain ⟨q, ci, t, n, ty, hm, hd, rfl⟩ := hx
    have h : ∀ D : Nat → Value, (match T.2.2.1.find? (fun x => x.1 == i) with
      | some x => k (pc + 3) lgS (.ref (zN A) :: us) (zuN A x.2.1 x.2.2.1 D)
      | none => False) := h
    have h := h (fun j => defaultValue (ty j))
    have hf := t3 _ hm
    dsimp only at hf
    rw [hf] at h
    have hn : (ws ++ [(q, (Sum.inr (ci, (List.range n).map fun j => defaultValue (ty j)) : va_E))])[zN A]? = some (q, .inr (ci, (List.range n).map fun j => defaultValue (ty j))) := by
      rw [hA.2.1.2.1, List.getElem?_append_right (Nat.le_refl _), Nat.sub_self]
      rfl
    exact ⟨lgS, .ref (zN A) :: us, _, hr.mv zx_app, ⟨⟨q, _, rfl, hn⟩, hv.mv zx_app⟩, hA.new hd, h⟩
  · rename_i i
    obtain ⟨p, r, q, ci, d, fs, hvs, hq, hm, rfl⟩ := hx
    have hvs : vs = _ := hvs
    subst hvs
    obtain ⟨u1, s1, rfl, h1, h2⟩ := hv.cons
    obtain ⟨j, e, rfl, hj⟩ := h1.ref
    have ej := hat hq hj
    subst ej
    obtain ⟨-, g1, g2⟩ := hA.2.2 j p _ hq
    have g1 : zkd A j = ci := g1
    have h : k (pc + 3) lgS (.int (Int32.ofNat (kci T.2.2.2.2.1 i (zkd A j))) :: s1) A := h
    rw [g1, kci_eq t5 hm] at h
    refine ⟨lgS, _, A, hr, ?_, hA, h⟩
    exact ⟨rfl, h2⟩
  · obtain ⟨v, r, hvs, rfl⟩ := hx
    have hvs : vs = _ := hvs
    subst hvs
    exact ⟨lgS, us, A, hr, hv, hA, h⟩
  · exact z_call hS hr hv hA hx h
  · exact z_call hS hr hv hA hx h
  · exact z_call hS hr hv hA hx h
  · exact hx.elim
end
end
section
/-! a method over places -/
section
variable {T : fT} {Sp : zP} {Post : Option Value → zW → Prop} {cc : ByteArray} {code : ck_cd} {hd : zH}
theorem zret_ok {k : Nat → fL_ → List Value → zW → Prop} {len pc kd : Nat} {lgS : fL_} {ru : Option Value} {A : zW} (h : zstep T Sp Post k (ck_ri kd) len pc lgS ru.toList A) : Post ru A := by
  unfold ck_ri at h
  split at h <;> cases ru <;> first | exact h | exact (show False from h).elim
def zfin (Post : Option Value → zW → Prop) (fin : fS) (rv : Option Value) : Prop := ∃ (A' : zW) (u : Option Value), zA A' fin.2.2.2.1 fin.2.2.2.2 ∧ zvs fin.2.2.2.1 rv.toList u.toList ∧ Post u A'
theorem zvs_opt {ws : va_W} {rv : Option Value} {us : List Value} (h : zvs ws rv.toList us) : ∃ u : Option Value, us = u.toList := by
  cases rv with
  | none =>
    cases us with
    | nil => exact ⟨none, rfl⟩
    | cons _ _ => exact h.elim
  | some v =>
    obtain ⟨u, s, rfl, -, h2⟩ := zvs.cons (v := v) (r := []) h
    cases s with
    | nil => exact ⟨some u, rfl⟩
    | cons _ _ => exact h2.elim
theorem zgo_ok (hT : f_ok T = true) (hN : T.2.2.2.2.2.2 = none) (hS : zsp T Sp) (hcode : ∀ x ∈ code, decode cc x.1 = .ok (x.2.1, x.2.2)) {n : Nat}
    (ih : ∀ m, m < n → ∀ (a fin : fS) (rv : Option Value) (kd : Nat), fn_ T cc m a fin → decode cc fin.1 = .ok (ck_ri kd, 1) → fin.2.2.1 = rv.toList → ∀ (f : Nat) (suf : ck_cd) (lgS : fL_) (us : List Value) (A : zW), (∀ x ∈ suf, x ∈ code) → zrel a.2.2.2.1 lgS a.2.1 → zvs a.2.2.2.1 a.2.2.1 us → zA A a.2.2.2.1 a.2.2.2.2 → zwl T Sp Post code hd f suf a.1 lgS us A → zfin Post fin rv)
    {a fin : fS} {rv : Option Value} {kd : Nat} (hn : fn_ T cc n a fin) (hret : decode cc fin.1 = .ok (ck_ri kd, 1)) (hrv : fin.2.2.1 = rv.toList) {f : Nat} {ins : Instr} {len : Nat} {suf : ck_cd} {lgS : fL_} {us : List Value} {A : zW} (hm : (a.1, ins, len) ∈ code) (hsuf : ∀ x ∈ suf, x ∈ code) (hr : zrel a.2.2.2.1 lgS a.2.1) (hv : zvs a.2.2.2.1 a.2.2.1 us) (hA : zA A a.2.2.2.1 a.2.2.2.2)
    (h : zstep T Sp Post (zwl T Sp Post code hd f suf) ins len a.1 lgS us A) : zfin Post fin rv := by
  have hdc := hcode _ hm
  dsimp only at hdc
  cases n with
  | zero =>
    have e : a = fin := hn
    subst e
    rw [hdc] at hret
    have e1 : ins = ck_ri kd := by injection hret with z; exact congrArg Prod.fst z
    subst e1
    rw [hrv] at hv
    obtain ⟨u, rfl⟩ := zvs_opt hv
    exact ⟨A, u, hA, hv, zret_ok h⟩
  | succ n =>
    obtain ⟨b, ⟨ins', len', hd', hx⟩, hn'⟩ := hn
    rw [hdc] at hd'
    have e1 : (ins, len) = (ins', len') := by injection hd'
    have e2 : ins = ins' := congrArg Prod.fst e1
    have e3 : len = len' := congrArg Prod.snd e1
    subst e2
    subst e3
    obtain ⟨lg', us', A', r1, r2, r3, r4⟩ := zstep_ok (lg := a.2.1) (vs := a.2.2.1) (ws := a.2.2.2.1) (sh := a.2.2.2.2) hT hN hS hr hv hA hx h
    exact ih n (Nat.lt_succ_self n) b fin rv kd hn' hret hrv f suf lg' us' A' hsuf r1 r2 r3 r4
theorem zwl_ok (hT : f_ok T = true) (hN : T.2.2.2.2.2.2 = none) (hS : zsp T Sp) (hcode : ∀ x ∈ code, decode cc x.1 = .ok (x.2.1, x.2.2))
    (hh : ∀ x ∈ hd, ∀ (lg : fL_) (vs : List Value) (A : zW), x.2 lg vs A → ∃ (L : fL_) (f : Nat), f_sub L lg ∧ zwh T Sp Post code hd f x.1 L vs A) :
    ∀ (n : Nat) (a fin : fS) (rv : Option Value) (kd : Nat), fn_ T cc n a fin → decode cc fin.1 = .ok (ck_ri kd, 1) → fin.2.2.1 = rv.toList → ∀ (f : Nat) (suf : ck_cd) (lgS : fL_) (us : List Value) (A : zW), (∀ x ∈ suf, x ∈ code) → zrel a.2.2.2.1 lgS a.2.1 → zvs a.2.2.2.1 a.2.2.1 us → zA A a.2.2.2.1 a.2.2.2.2 → zwl T Sp Post code hd f suf a.1 lgS us A → zfin Post fin rv := by
  intro n
  induction n using Nat.strongRecOn with
  | ind n ih =>
    intro a fin rv kd hn hret hrv f suf lgS us A hsuf hr hv hA h
    cases f with
    | zero => exact h.elim
    | succ f =>
      unfold zwl at h
      split at h
      · rename_i x hx
        have hm := List.mem_of_find?_eq_some hx
        have hp0 := List.find?_some hx
        have hp : x.1 = a.1 := Nat.eq_of_beq_eq_true hp0
        obtain ⟨L, f', hL, hwh⟩ := hh x hm lgS _ A h
        unfold zwh at hwh
        split at hwh
        · rename_i y hy
          obtain ⟨e1, hy⟩ := ck_fndN_ok hy
          rw [hp] at e1 hy
          rw [e1] at hwh
          obtain ⟨y1, y2⟩ := ck_fnd_ok (i := y.2.1) (l := y.2.2.1) (t := y.2.2.2) hy
          exact zgo_ok hT hN hS hcode ih hn hret hrv y1 y2 (hr.sub hL) hv hA (Eq.mp zstepG_eq hwh)
        · exact hwh.elim
      · split at h
        · rename_i y hy
          obtain ⟨e1, hy⟩ := ck_sfxN_ok hy
          rw [e1] at h
          obtain ⟨y1, y2⟩ := ck_sfx_ok (i := y.2.1) (l := y.2.2.1) (t := y.2.2.2) hy hsuf
          exact zgo_ok hT hN hS hcode ih hn hret hrv y1 y2 hr hv hA (Eq.mp zstepG_eq h)
        · exact h.elim
theorem zfr_ok (hT : f_ok T = true) (hN : T.2.2.2.2.2.2 = none) (hS : zsp T Sp) (hcode : ∀ x ∈ code, decode cc x.1 = .ok (x.2.1, x.2.2))
    (hh : ∀ x ∈ hd, ∀ (lg : fL_) (vs : List Value) (A : zW), x.2 lg vs A → ∃ (L : fL_) (f : Nat), f_sub L lg ∧ zwh T Sp Post code hd f x.1 L vs A)
    {As Us : List Value} {ws : va_W} {sh : List Nat} {rv : Option Value} {ws' : va_W} {sh' : List Nat} (hf : fr T cc As ws sh rv ws' sh') {A : zW} {f : Nat} (hv : zvs ws As Us) (hA : zA A ws sh) (h : zwl T Sp Post code hd f code 0 (la 0 Us) [] A) : ∃ (A' : zW) (u : Option Value), zA A' ws' sh' ∧ zvs ws' rv.toList u.toList ∧ Post u A' := by
  obtain ⟨pc, lg, kd, h1, h2⟩ := hf
  obtain ⟨n, hn⟩ := gr_fn h1
  exact zwl_ok hT hN hS hcode hh n _ _ rv kd hn h2 rfl f code (la 0 Us) [] A (fun _ h => h) (z_la 0 hv) trivial hA h
end
/-- places stay over a call -/
theorem zx_ex {Wr : List (Nat × Nat)} {ws ws' : va_W} {sh sh' : List Nat} (hl : sh.length = ws.length) (h : ck_ex Wr ws sh ws' sh') : zx ws ws' := fun j p e hj => by
  have hlt := (List.getElem?_eq_some_iff.mp hj).1
  obtain ⟨e', h1, -⟩ := h.2 j p e (sh[j]'(by omega)) hj (List.getElem?_eq_getElem (by omega))
  exact ⟨e', h1⟩
theorem zx_fq {TT : List ck_D} {SG : List Nat} {rt : Nat} {Wr : List (Nat × Nat)} {T : fT} {cc : ByteArray} {As : List Value} {ws : va_W} {sh : List Nat} {rv : Option Value} {ws' : va_W} {sh' : List Nat} (h : fq TT SG rt Wr T cc As ws sh rv ws' sh') : zx ws ws' := by
  obtain ⟨-, -, -, h1, ⟨tys, h2, -⟩, -⟩ := h
  exact zx_ex h2.1 h1
/-- a spec: its parameters, what it asks, what it gives -/
def zs {α : Type} (F : α → List Value) (Pre : α → zW → Prop) (Q : α → zW → Option Value → zW → Prop) : zQ := fun Us A K => ∃ a, Us = F a ∧ Pre a A ∧ ∀ rv A', Q a A rv A' → K rv A'
theorem zdo_of {α : Type} {TT : List ck_D} {SG : List Nat} {rt : Nat} {Wr : List (Nat × Nat)} {T : fT} {cc : ByteArray} {code : ck_cd} (F : α → List Value) (Pre : α → zW → Prop) (Q : α → zW → Option Value → zW → Prop) (Sp : zP) (hd : α → zW → zH) (f : Nat) (hT : f_ok T = true) (hN : T.2.2.2.2.2.2 = none) (hS : zsp T Sp) (hcode : ∀ x ∈ code, decode cc x.1 = .ok (x.2.1, x.2.2))
    (hh : ∀ (a : α) (A0 : zW), Pre a A0 → ∀ x ∈ hd a A0, ∀ (lg : fL_) (vs : List Value) (A : zW), x.2 lg vs A → ∃ (L : fL_) (f : Nat), f_sub L lg ∧ zwh T Sp (Q a A0) code (hd a A0) f x.1 L vs A)
    (h : ∀ (a : α) (A0 : zW), Pre a A0 → zwl T Sp (Q a A0) code (hd a A0) f code 0 (la 0 (F a)) [] A0) : zdo (fq TT SG rt Wr T cc) (zs F Pre Q) := by
  intro As ws sh rv ws' sh' hx
  refine ⟨zx_fq hx, fun A Us K hA hv hP => ?_⟩
  obtain ⟨a, rfl, hp, hK⟩ := hP
  obtain ⟨A', u, h1, h2, h3⟩ := zfr_ok hT hN hS hcode (hh a A hp) hx.1 hv hA (h a A hp)
  exact ⟨A', u, h1, h2, hK u A' h3⟩
theorem zs_nil {T : fT} : zsp T [] := fun _ h => absurd h List.not_mem_nil
theorem zs_cons {T : fT} {key na : Nat} {P : zQ} {l : zP} {r : fR} (hT : T.2.2.2.2.2.1 key = (na, r)) (hr : zdo r P) (h : zsp T l) : zsp T ((key, na, P) :: l) := fun x hx => by
  rcases List.mem_cons.mp hx with rfl | hx
  · refine ⟨?_, ?_⟩
    · show (T.2.2.2.2.2.1 key).1 = na
      rw [hT]
    · show zdo (T.2.2.2.2.2.1 key).2 P
      rw [hT]
      exact hr
  · exact h x hx
theorem z_nop : zdo f_nop (fun _ A K => K none A) := by
  intro As ws sh rv ws' sh' hx
  obtain ⟨rfl, rfl, rfl⟩ := hx
  exact ⟨zx.rf, fun A Us K hA hv hK => ⟨A, none, hA, trivial, hK⟩⟩
theorem no_zh {Q : Nat × (fL_ → List Value → zW → Prop) → Prop} : ∀ x ∈ ([] : zH), Q x := fun _ h => absurd h List.not_mem_nil
end
section
/-! what a call leaves alone, over places; a world by places out of the machine's -/
def zwr (Wr : List (Nat × Nat)) (t k : Nat) : Bool := Wr.any (fun x => Nat.beq x.1 t && Nat.beq x.2 k)
theorem zwr_t {Wr : List (Nat × Nat)} {t k : Nat} : zwr Wr t k = true ↔ (t, k) ∈ Wr := by
  unfold zwr
  rw [List.any_eq_true]
  constructor
  · rintro ⟨⟨a, b⟩, h1, h2⟩
    rw [Bool.and_eq_true] at h2
    have e1 : a = t := Nat.eq_of_beq_eq_true h2.1
    have e2 : b = k := Nat.eq_of_beq_eq_true h2.2
    rw [← e1, ← e2]
    exact h1
  · intro h
    refine ⟨(t, k), h, ?_⟩
    show (Nat.beq t t && Nat.beq k k) = true
    rw [nbT, nbT]
    rfl
theorem zwr_f {Wr : List (Nat × Nat)} {t k : Nat} (h : zwr Wr t k = false) : (t, k) ∉ Wr := fun hm => by
  rw [zwr_t.mpr hm] at h
  cases h
def zold (A : zW) (q : Nat) : Bool := Nat.blt q 385 || Nat.blt q (zN A)
/-- what may have changed -/
def zhv (Wr : List (Nat × Nat)) (A X : zW) : zW := (fun q i => bif zold A q && !(zwr Wr (zty A q) 0) then zI A q i else zI X q i, fun q i => bif zold A q && !(zwr Wr (zty A q) 0) then zJ A q i else zJ X q i, fun q k => bif zold A q && !(zwr Wr (zty A q) k) then zF A q k else zF X q k, fun q i => bif zold A q && !(zwr Wr (zty A q) 0) then zR A q i else zR X q i, fun q => bif zold A q then zK A q else zK X q, zN X)
theorem zn_get : ∀ {l : List Nat} {j x : Nat}, l[j]? = some x → zn l j = x
  | [], _, _, h => by simp at h
  | y :: l, 0, x, h => Option.some.inj h
  | y :: l, j + 1, x, h => zn_get (l := l) h
theorem zt_k_ok : (List.range 94).all (fun t => match cw_TT[t]? with
  | some td => Nat.beq (zn zt_k t) td.2.1
  | none => false) = true := by decide +kernel
/-- rows of references name what their elements are -/
theorem zt_el : cw_TT.all (fun td => match td.1, td.2.2.2[0]? with
  | 3, none => false
  | 5, none => false
  | _, _ => true) = true := by decide +kernel
theorem zt_len : cw_TT.length = 94 := by decide +kernel
theorem zt_kt {t : Nat} {td : ck_D} (h : cw_TT[t]? = some td) : zn zt_k t = td.2.1 := by
  have hlt := (List.getElem?_eq_some_iff.mp h).1
  rw [zt_len] at hlt
  have h1 := List.all_eq_true.mp zt_k_ok t (List.mem_range.mpr hlt)
  rw [h] at h1
  exact Nat.eq_of_beq_eq_true h1
def zc_is (c : mk_C) (j k : Nat) : Bool := Nat.beq (zc j k) 0 || (match c.2.2.2[k]? with
  | some v => Nat.beq v.1 2 && (decide (v.2.1 = 0) && (Nat.beq v.2.2 (zc j k) && Nat.blt (zc j k) 385))
  | none => false)
set_option maxRecDepth 20000 in
theorem zc_ok : (List.range 385).all (fun j => match lp_L2[j]? with
  | some c => (List.range 70).all (fun k => zc_is c j k)
  | none => false) = true := by decide +kernel
set_option maxRecDepth 20000 in
theorem zc_lt {j k : Nat} (h : zc j k ≠ 0) : j < 385 ∧ k < 70 := by
  by_cases h1 : j < 385
  · by_cases h2 : k < 70
    · exact ⟨h1, h2⟩
    · exfalso
      apply h
      unfold zc
      rw [nltF (show 70 ≤ k by omega), Bool.and_false]
      rfl
  · exfalso
    apply h
    unfold zc
    rw [nltF (show 385 ≤ j by omega)]
    rfl
set_option maxRecDepth 20000 in
theorem zc_at {j k : Nat} (h : zc j k ≠ 0) : zc j k < 385 ∧ ∃ c, lp_L2[j]? = some c ∧ c.2.2.2[k]? = some (2, 0, zc j k) := by
  obtain ⟨h1, h2⟩ := zc_lt h
  have h3 := List.all_eq_true.mp zc_ok j (List.mem_range.mpr h1)
  split at h3
  · rename_i c hc
    have h4 := List.all_eq_true.mp h3 k (List.mem_range.mpr h2)
    unfold zc_is at h4
    rw [nbF h, Bool.false_or] at h4
    split at h4
    · rename_i v hv
      rw [Bool.and_eq_true, Bool.and_eq_true, Bool.and_eq_true] at h4
      obtain ⟨a1, a2, a3, a4⟩ := h4
      obtain ⟨v1, v2, v3⟩ := v
      have e1 : v1 = 2 := Nat.eq_of_beq_eq_true a1
      have e2 : v2 = 0 := of_decide_eq_true a2
      have e3 : v3 = zc j k := Nat.eq_of_beq_eq_true a3
      subst e1
      subst e2
      refine ⟨Nat.le_of_ble_eq_true a4, c, hc, ?_⟩
      rw [hv, ← e3]
    · cases h4
  · cases h3
set_option maxRecDepth 20000 in
theorem zcr_z {r : Nat} {v : Value} (h : r = 0) : zcr r v = v := by
  subst h
  rfl
set_option maxRecDepth 20000 in
theorem zcr_s {r : Nat} {v : Value} (h : r ≠ 0) : zcr r v = .ref r := by
  cases r with
  | zero => exact absurd rfl h
  | succ r => rfl
set_option maxRecDepth 20000 in
/-- places that hold lasting references are never written -/
theorem zc_nw {Wr : List (Nat × Nat)} {j k : Nat} {c : mk_C} {t : Nat} (hk : bs_K.all (fun x => !(Wr.contains x)) = true) (hc : lp_L2[j]? = some c) (ht : lp_sh[j]? = some t) (hz : zc j k ≠ 0) : (t, bif c.1 == 0 then k else 0) ∉ Wr := by
  obtain ⟨-, c', h1, h2⟩ := zc_at hz
  have e : c = c' := Option.some.inj (hc.symm.trans h1)
  subst e
  obtain ⟨t', h3, h4⟩ := bs_cok bs_ok j c hc
  have e : t = t' := Option.some.inj (ht.symm.trans h3)
  subst e
  intro hm
  have h5 := List.all_eq_true.mp hk _ (h4 k _ h2)
  rw [List.contains_iff_mem.mpr hm] at h5
  cases h5
/-- what is at a place, its lasting references too -/
def zeax (X : zW) (ws : va_W) (j n : Nat) : (Nat → Int32) ⊕ (Nat → Int64) ⊕ (Nat → UInt32) ⊕ (Nat → UInt64) ⊕ (Nat → Option Nat) → Prop
  | .inl f => ∀ i, zI X j i = f i
  | .inr (.inl f) => ∀ i, zJ X j i = f i
  | .inr (.inr (.inl _)) => True
  | .inr (.inr (.inr (.inl _))) => True
  | .inr (.inr (.inr (.inr f))) => ∀ i, i < n → zvr ws (va_rf (f i)) (zR X j i)
def zex (X : zW) (ws : va_W) (j : Nat) : va_E → Prop
  | .inr o => (zK X j).1 = o.1 ∧ ∀ (k : Nat) (v : Value), o.2[k]? = some v → zvr ws v (zF X j k)
  | .inl x => (zK X j).1 = x.2.1 ∧ zeax X ws j x.2.1 x.2.2
def zaI : Option (Nat × va_E) → Nat → Int32
  | some (_, .inl (_, _, .inl f)), i => f i
  | _, _ => 0
def zaJ : Option (Nat × va_E) → Nat → Int64
  | some (_, .inl (_, _, .inr (.inl f))), i => f i
  | _, _ => 0
def zaK : Option (Nat × va_E) → Nat
  | some (_, .inl x) => x.2.1
  | some (_, .inr o) => o.1
  | none => 0
theorem fo_vr {ws : va_W} {sh : List Nat} {t : ck_T} {v : Value} (h : ck_fo ws sh t v) : ∃ u, zvr ws v u := by
  have hr : ∀ {ts : List Nat}, ck_rf ws sh ts v → ∃ u, zvr ws v u := fun hr => by
    obtain ⟨q, a, e, t, h1, h2, -, -⟩ := hr
    exact ⟨.ref q, a, e, h1, h2⟩
  unfold ck_fo at h
  split at h
  · obtain ⟨x, rfl, -⟩ := h
    exact ⟨.int x, rfl⟩
  · obtain ⟨x, rfl⟩ := h
    exact ⟨.long x, rfl⟩
  · exact hr h
  · rcases h with rfl | h
    · exact ⟨.null, rfl⟩
    · exact hr h
  · exact h.elim
theorem zF_ex {tys : List (ClassId × FieldType)} {TT : List ck_D} {SG : List Nat} {ws : va_W} {sh : List Nat} (hw : ck_wo tys TT SG ws sh) (q k : Nat) : ∃ u, ∀ (p : Nat) (o : Nat × List Value) (v : Value), ws[q]? = some (p, .inr o) → o.2[k]? = some v → zvr ws v u := by
  by_cases hx : ∃ (p : Nat) (o : Nat × List Value) (v : Value), ws[q]? = some (p, .inr o) ∧ o.2[k]? = some v
  · obtain ⟨p, o, v, h1, h2⟩ := hx
    have hlt := (List.getElem?_eq_some_iff.mp h1).1
    have hs : sh[q]? = some (sh[q]'(by rw [hw.1]; exact hlt)) := List.getElem?_eq_getElem _
    obtain ⟨td, d1, d2⟩ := hw.2.1 q p _ _ h1 hs
    have hu : ∃ u, zvr ws v u := by
      unfold ck_co at d2
      split at d2
      · obtain ⟨vs, e1, e2, e3⟩ := d2
        have e1 : o = (td.2.1, vs) := Sum.inr.inj e1
        subst e1
        have hk : k < td.2.2.2.length := by
          have := (List.getElem?_eq_some_iff.mp h2).1
          have h2 : k < vs.length := this
          omega
        obtain ⟨v', v1, v2⟩ := e3 k _ (List.getElem?_eq_getElem hk)
        have h2 : vs[k]? = some v := h2
        rw [h2] at v1
        have v1 := Option.some.inj v1
        subst v1
        exact fo_vr v2
      · obtain ⟨cA, f, -, e1, -⟩ := d2
        cases e1
      · obtain ⟨cA, f, -, e1⟩ := d2
        cases e1
      · obtain ⟨cA, C, f, -, e1, -⟩ := d2
        cases e1
      · obtain ⟨cA, f, -, e1, -⟩ := d2
        cases e1
      · obtain ⟨cA, f, -, e1, -⟩ := d2
        cases e1
      · exact d2.elim
    obtain ⟨u, hu⟩ := hu
    refine ⟨u, fun p' o' v' h3 h4 => ?_⟩
    rw [h1] at h3
    have e : o = o' := Sum.inr.inj (congrArg Prod.snd (Option.some.inj h3))
    subst e
    rw [h2] at h4
    have e := Option.some.inj h4
    subst e
    exact hu
  · exact ⟨.null, fun p o v h1 h2 => absurd ⟨p, o, v, h1, h2⟩ hx⟩
theorem zR_ex {tys : List (ClassId × FieldType)} {SG : List Nat} {ws : va_W} {sh : List Nat} (hw : ck_wo tys cw_TT SG ws sh) (q k : Nat) : ∃ u, ∀ (p n : Nat) (cA : ClassId) (f : Nat → Option Nat), ws[q]? = some (p, .inl (cA, n, .inr (.inr (.inr (.inr f))))) → k < n → zvr ws (va_rf (f k)) u := by
  by_cases hx : ∃ (p n : Nat) (cA : ClassId) (f : Nat → Option Nat), ws[q]? = some (p, .inl (cA, n, .inr (.inr (.inr (.inr f))))) ∧ k < n
  · obtain ⟨p, n, cA, f, h1, h2⟩ := hx
    have hlt := (List.getElem?_eq_some_iff.mp h1).1
    have hs : sh[q]? = some (sh[q]'(by rw [hw.1]; exact hlt)) := List.getElem?_eq_getElem _
    obtain ⟨td, d1, d2⟩ := hw.2.1 q p _ _ h1 hs
    have hel : ∀ t : ck_T, td.2.2.2[0]? = some t → ck_fo ws sh t (va_rf (f k)) → ∃ u, zvr ws (va_rf (f k)) u := fun t _ h => fo_vr h
    have h0 : ∃ t : ck_T, td.1 = 3 ∨ td.1 = 5 → td.2.2.2[0]? = some t := by
      cases h : td.2.2.2[0]? with
      | some t => exact ⟨t, fun _ => rfl⟩
      | none =>
        refine ⟨(0, 0, 0, []), fun hk => ?_⟩
        have h3 := List.all_eq_true.mp zt_el td (List.mem_of_getElem? d1)
        rw [h] at h3
        rcases hk with hk | hk
        · rw [hk] at h3
          exact absurd (show false = true from h3) Bool.false_ne_true
        · rw [hk] at h3
          exact absurd (show false = true from h3) Bool.false_ne_true
    obtain ⟨t, h0⟩ := h0
    have hu : ∃ u, zvr ws (va_rf (f k)) u := by
      have h0' := h0
      unfold ck_co at d2
      split at d2
      · obtain ⟨vs, e1, -⟩ := d2
        cases e1
      · obtain ⟨cA', f', -, e1, -⟩ := d2
        cases e1
      · obtain ⟨cA', f', -, e1⟩ := d2
        cases e1
      · rename_i hk
        obtain ⟨cA', C, f', -, e1, e2⟩ := d2
        cases e1
        have h3 := h0 (Or.inl hk)
        exact fo_vr (e2 t h3 k h2)
      · obtain ⟨cA', f', -, e1, -⟩ := d2
        cases e1
      · rename_i hk
        obtain ⟨cA', f', -, e1, e2⟩ := d2
        cases e1
        have h3 := h0 (Or.inr hk)
        exact fo_vr (e2 t h3 k h2)
      · exact d2.elim
    obtain ⟨u, hu⟩ := hu
    refine ⟨u, fun p' n' cA' f' h3 h4 => ?_⟩
    rw [h1] at h3
    cases h3
    exact hu
  · exact ⟨.null, fun p n cA f h1 h2 => absurd ⟨p, n, cA, f, h1, h2⟩ hx⟩
set_option maxRecDepth 20000 in
theorem zab_ex {tys : List (ClassId × FieldType)} {SG : List Nat} {ws : va_W} {sh : List Nat} (hw : ck_wo tys cw_TT SG ws sh) : ∃ X : zW, zN X = ws.length ∧ (∀ j t : Nat, sh[j]? = some t → (zK X j).2 = t) ∧ ∀ (j p : Nat) (e : va_E), ws[j]? = some (p, e) → zex X ws j e := by
  obtain ⟨F, hF⟩ := Classical.skolem.mp (fun x : Nat × Nat => zF_ex hw x.1 x.2)
  obtain ⟨G, hG⟩ := Classical.skolem.mp (fun x : Nat × Nat => zR_ex hw x.1 x.2)
  refine ⟨(fun q i => zaI ws[q]? i, fun q i => zaJ ws[q]? i, fun q k => F (q, k), fun q i => G (q, i), fun q => (zaK ws[q]?, (sh[q]?).getD 0), ws.length), rfl, fun j t ht => ?_, fun j p e hj => ?_⟩
  · show (sh[j]?).getD 0 = t
    rw [ht]
    rfl
  · obtain (⟨cA, n, f | f | f | f | f⟩ | o) := e
    · refine ⟨?_, fun i => ?_⟩
      · show zaK ws[j]? = n
        rw [hj]
        rfl
      · show zaI ws[j]? i = f i
        rw [hj]
        rfl
    · refine ⟨?_, fun i => ?_⟩
      · show zaK ws[j]? = n
        rw [hj]
        rfl
      · show zaJ ws[j]? i = f i
        rw [hj]
        rfl
    · refine ⟨?_, trivial⟩
      show zaK ws[j]? = n
      rw [hj]
      rfl
    · refine ⟨?_, trivial⟩
      show zaK ws[j]? = n
      rw [hj]
      rfl
    · refine ⟨?_, fun i hi => hG (j, i) p n cA f hj hi⟩
      show zaK ws[j]? = n
      rw [hj]
      rfl
    · refine ⟨?_, fun k v hv => hF (j, k) p o v hj hv⟩
      show zaK ws[j]? = o.1
      rw [hj]
      rfl
theorem co_len {tys : List (ClassId × FieldType)} {ws : va_W} {sh : List Nat} {td : ck_D} : ∀ {e : va_E}, ck_co tys ws sh td e → zaK (some (0, e)) = td.2.1 := fun {e} h => by
  unfold ck_co at h
  split at h
  · obtain ⟨vs, rfl, -⟩ := h
    rfl
  · obtain ⟨cA, f, -, rfl, -⟩ := h
    rfl
  · obtain ⟨cA, f, -, rfl⟩ := h
    rfl
  · obtain ⟨cA, C, f, -, rfl, -⟩ := h
    rfl
  · obtain ⟨cA, f, -, rfl, -⟩ := h
    rfl
  · obtain ⟨cA, f, -, rfl, -⟩ := h
    rfl
  · exact h.elim
/-- the class or length of a place that is there for good -/
theorem zkd_of {tys : List (ClassId × FieldType)} {SG : List Nat} {ws : va_W} {sh : List Nat} (hw : ck_wo tys cw_TT SG ws sh) (hs : ∀ q t : Nat, lp_sh[q]? = some t → sh[q]? = some t) {X : zW} {j p : Nat} {e : va_E} (hj : ws[j]? = some (p, e)) (hK : 385 ≤ j → (zK X j).1 = zaK (some (0, e))) : zkd X j = zaK (some (0, e)) := by
  unfold zkd
  by_cases h : j < 385
  · rw [nltT h]
    show zn zt_k (zn lp_sh j) = _
    have hl : j < lp_sh.length := by
      rw [show lp_sh.length = 385 by decide +kernel]
      exact h
    have h1 : lp_sh[j]? = some (lp_sh[j]'hl) := List.getElem?_eq_getElem hl
    obtain ⟨td, d1, d2⟩ := hw.2.1 j p e _ hj (hs _ _ h1)
    rw [zn_get h1, zt_kt d1, co_len d2]
  · rw [nltF (show 385 ≤ j by omega)]
    exact hK (by omega)
end
section
/-! calls of which nothing is said but what they leave alone -/
theorem lp_shl : lp_sh.length = 385 := by decide +kernel
theorem lp_L2l : lp_L2.length = 385 := by decide +kernel
theorem lp_sh_at {j : Nat} (h : j < 385) : lp_sh[j]? = some (zn lp_sh j) := by
  have hl : j < lp_sh.length := by
    rw [lp_shl]
    exact h
  have h1 : lp_sh[j]? = some (lp_sh[j]'hl) := List.getElem?_eq_getElem hl
  rw [h1, zn_get h1]
theorem lp_L2_at {j : Nat} (h : j < 385) : ∃ c, lp_L2[j]? = some c := by
  have hl : j < lp_L2.length := by
    rw [lp_L2l]
    exact h
  exact ⟨lp_L2[j]'hl, List.getElem?_eq_getElem hl⟩
/-- a world as its types say, with the lasting references, stands by places -/
theorem zA_ini {tys : List (ClassId × FieldType)} {ws : va_W} {sh : List Nat} {B : Nat → Nat} (hd : f_dj ws) (hw : ck_wo tys cw_TT cw_SG ws sh) (hB : Bs B ws sh) : ∃ A, zA A ws sh := by
  obtain ⟨X, x1, x2, x3⟩ := zab_ex hw
  have h385 : 385 ≤ ws.length := by
    obtain ⟨c, hc⟩ := lp_L2_at (show 384 < 385 by omega)
    obtain ⟨e, h1, -⟩ := hB.2 384 c hc
    have := (List.getElem?_eq_some_iff.mp h1).1
    omega
  refine ⟨X, hd, ⟨hw.1, x1, by omega⟩, fun j p e hj => ?_⟩
  have hlt := (List.getElem?_eq_some_iff.mp hj).1
  have hs : sh[j]? = some (sh[j]'(by rw [hw.1]; exact hlt)) := List.getElem?_eq_getElem _
  have ex := x3 j p e hj
  have cst : ∀ k : Nat, zc j k ≠ 0 → ∃ (c : mk_C) (e2 : va_E), lp_L2[j]? = some c ∧ c.2.2.2[k]? = some (2, 0, zc j k) ∧ ws[zc j k]? = some (B (zc j k), e2) ∧ cR B c e := fun k hz => by
    obtain ⟨a1, c, a2, a3⟩ := zc_at hz
    obtain ⟨c2, hc2⟩ := lp_L2_at a1
    obtain ⟨e2, b1, -⟩ := hB.2 _ c2 hc2
    obtain ⟨e1, b2, b3⟩ := hB.2 j c a2
    rw [hj] at b2
    have e3 : e = e1 := congrArg Prod.snd (Option.some.inj b2)
    subst e3
    exact ⟨c, e2, a2, a3, b1, b3⟩
  refine ⟨?_, ?_⟩
  · rw [hs]
    unfold zty
    by_cases h : j < 385
    · rw [nltT h]
      have h1 := hB.1 j _ (lp_sh_at h)
      rw [hs] at h1
      rw [Option.some.inj h1]
      rfl
    · rw [nltF (show 385 ≤ j by omega)]
      show some _ = some (zK X j).2
      rw [x2 j _ hs]
  · have hk : zkd X j = zaK (some (0, e)) := zkd_of hw hB.1 hj (fun _ => by
      obtain (⟨cA, n, f | f | f | f | f⟩ | o) := e <;> exact ex.1)
    obtain (⟨cA, n, f | f | f | f | f⟩ | o) := e
    · exact ⟨hk, ex.2⟩
    · exact ⟨hk, ex.2⟩
    · exact ⟨hk, trivial⟩
    · exact ⟨hk, trivial⟩
    · refine ⟨hk, fun i hi => ?_⟩
      unfold zrl
      by_cases hz : zc j i = 0
      · rw [zcr_z hz]
        exact ex.2 i hi
      · rw [zcr_s hz]
        obtain ⟨c, e2, a2, a3, b1, b3⟩ := cst i hz
        have h4 : f i = some (B (zc j i)) := b3.2 i _ a3
        rw [h4]
        exact ⟨_, e2, rfl, b1⟩
    · refine ⟨hk, fun k v hv => ?_⟩
      unfold zfl
      by_cases hz : zc j k = 0
      · rw [zcr_z hz]
        exact ex.2 k v hv
      · rw [zcr_s hz]
        obtain ⟨c, e2, a2, a3, b1, b3⟩ := cst k hz
        have h4 : o.2[k]? = some (.ref (B (zc j k))) := b3.2 k _ a3
        rw [h4] at hv
        have hv := Option.some.inj hv
        rw [← hv]
        exact ⟨_, e2, rfl, b1⟩
/-- an object's cell is an object, a row's a row -/
def zkk (c : mk_C) (t : Nat) : Bool := match cw_TT[t]? with
  | some td => Nat.beq td.1 0 == Nat.beq c.1 0
  | none => false
theorem zkk_ok : (List.range 385).all (fun j => match lp_L2[j]? with
  | some c => zkk c (zn lp_sh j)
  | none => false) = true := by decide +kernel
theorem zkk_at {j : Nat} {c : mk_C} (hc : lp_L2[j]? = some c) : ∃ td, cw_TT[zn lp_sh j]? = some td ∧ (td.1 = 0 ↔ c.1 = 0) := by
  have hj := (List.getElem?_eq_some_iff.mp hc).1
  rw [lp_L2l] at hj
  have h := List.all_eq_true.mp zkk_ok j (List.mem_range.mpr hj)
  rw [hc] at h
  have h : zkk c (zn lp_sh j) = true := h
  unfold zkk at h
  split at h
  · rename_i td htd
    refine ⟨td, htd, ?_⟩
    have h1 : Nat.beq td.1 0 = Nat.beq c.1 0 := eq_of_beq h
    constructor
    · intro e
      rw [e] at h1
      exact Nat.eq_of_beq_eq_true h1.symm
    · intro e
      rw [e] at h1
      exact Nat.eq_of_beq_eq_true h1
  · cases h
set_option maxRecDepth 20000 in
theorem zcls_ne {tys : List (ClassId × FieldType)} {ws : va_W} {sh : List Nat} {j p : Nat} {o : Nat × List Value} {c : mk_C} (hw : ck_wo tys cw_TT cw_SG ws sh) (hs : ∀ q t : Nat, lp_sh[q]? = some t → sh[q]? = some t) (h0 : ws[j]? = some (p, .inr o)) (hc : lp_L2[j]? = some c) (hn : c.1 ≠ 0) : False := by
  have hj := (List.getElem?_eq_some_iff.mp hc).1
  rw [lp_L2l] at hj
  obtain ⟨td, d1, d2⟩ := zkk_at hc
  obtain ⟨td', d3, d4⟩ := hw.2.1 j p _ _ h0 (hs j _ (lp_sh_at hj))
  have e := Option.some.inj (d1.symm.trans d3)
  subst e
  have hn1 : td.1 ≠ 0 := fun z => hn (d2.mp z)
  unfold ck_co at d4
  split at d4
  · rename_i hz
    exact hn1 hz
  · obtain ⟨cA, f, -, e1, -⟩ := d4
    cases e1
  · obtain ⟨cA, f, -, e1⟩ := d4
    cases e1
  · obtain ⟨cA, C, f, -, e1, -⟩ := d4
    cases e1
  · obtain ⟨cA, f, -, e1, -⟩ := d4
    cases e1
  · obtain ⟨cA, f, -, e1, -⟩ := d4
    cases e1
  · exact d4
set_option maxRecDepth 20000 in
theorem zcls_eq {tys : List (ClassId × FieldType)} {ws : va_W} {sh : List Nat} {j p : Nat} {x : ClassId × vp_A} {c : mk_C} (hw : ck_wo tys cw_TT cw_SG ws sh) (hs : ∀ q t : Nat, lp_sh[q]? = some t → sh[q]? = some t) (h0 : ws[j]? = some (p, .inl x)) (hc : lp_L2[j]? = some c) (hn : c.1 = 0) : False := by
  have hj := (List.getElem?_eq_some_iff.mp hc).1
  rw [lp_L2l] at hj
  obtain ⟨td, d1, d2⟩ := zkk_at hc
  obtain ⟨td', d3, d4⟩ := hw.2.1 j p _ _ h0 (hs j _ (lp_sh_at hj))
  have e := Option.some.inj (d1.symm.trans d3)
  subst e
  have hn1 : td.1 = 0 := d2.mpr hn
  unfold ck_co at d4
  rw [hn1] at d4
  obtain ⟨vs, e1, -⟩ := d4
  cases e1
theorem zold_t {A : zW} {j : Nat} (h : j < zN A) : zold A j = true := by
  unfold zold
  rw [nltT h, Bool.or_true]
theorem zold_b {A : zW} {j : Nat} (h : j < 385) : zold A j = true := by
  unfold zold
  rw [nltT h, Bool.true_or]
theorem zold_f {A : zW} {j : Nat} (h : zN A ≤ j) (h2 : 385 ≤ j) : zold A j = false := by
  unfold zold
  rw [nltF h, nltF h2]
  rfl
theorem zhv_ok {rt : Nat} {Wr : List (Nat × Nat)} {T : fT} {cc : ByteArray} {As : List Value} {ws : va_W} {sh : List Nat} {rv : Option Value} {ws' : va_W} {sh' : List Nat} {A : zW} (h : fq cw_TT cw_SG rt Wr T cc As ws sh rv ws' sh') (hA : zA A ws sh) (hk : bs_K.all (fun x => !(Wr.contains x)) = true) (hs : ∀ q t : Nat, lp_sh[q]? = some t → sh[q]? = some t) : ∃ X, zN A ≤ zN X ∧ zA (zhv Wr A X) ws' sh' := by
  have hzx := zx_fq h
  obtain ⟨-, -, hd', hex, ⟨tys, hw, hw'⟩, -⟩ := h
  obtain ⟨X, x1, x2, x3⟩ := zab_ex hw'
  obtain ⟨hd, ⟨a1, a2, a3⟩, a4⟩ := hA
  have hs' : ∀ q t : Nat, lp_sh[q]? = some t → sh'[q]? = some t := fun q t ht => hex.1 q t (hs q t ht)
  have hle : ws.length ≤ ws'.length := by
    obtain ⟨x, hx⟩ : ∃ x, ws[ws.length - 1]? = some x := ⟨_, List.getElem?_eq_getElem (show ws.length - 1 < ws.length by omega)⟩
    obtain ⟨p, e⟩ := x
    obtain ⟨e', h1⟩ := hzx _ _ _ hx
    have := (List.getElem?_eq_some_iff.mp h1).1
    omega
  refine ⟨X, by omega, hd', ⟨hw'.1, x1, by show 385 ≤ zN X; omega⟩, fun j p e' hj => ?_⟩
  have ex := x3 j p e' hj
  have hlt' := (List.getElem?_eq_some_iff.mp hj).1
  have hsj : sh'[j]? = some (sh'[j]'(by rw [hw'.1]; exact hlt')) := List.getElem?_eq_getElem _
  by_cases hl : j < ws.length
  · obtain ⟨⟨p0, e⟩, h0⟩ : ∃ x, ws[j]? = some x := ⟨_, List.getElem?_eq_getElem hl⟩
    obtain ⟨g1, g2⟩ := a4 j p0 e h0
    obtain ⟨e1, y1, y2⟩ := hex.2 j p0 e _ h0 g1
    rw [hj] at y1
    have y1 := Option.some.inj y1
    have e1p : p = p0 := congrArg Prod.fst y1
    have e1e : e' = e1 := congrArg Prod.snd y1
    subst e1p
    subst e1e
    have ho : zold A j = true := zold_t (by omega)
    have hK : zK (zhv Wr A X) j = zK A j := by
      show (bif zold A j then zK A j else zK X j) = _
      rw [ho]
      rfl
    have hty : zty (zhv Wr A X) j = zty A j := by
      unfold zty
      rw [hK]
    have hkd : zkd (zhv Wr A X) j = zkd A j := by
      unfold zkd
      rw [hK]
    refine ⟨by rw [hty]; exact hex.1 j _ g1, ?_⟩
    have nz : ∀ k : Nat, zc j k ≠ 0 → ∀ c, lp_L2[j]? = some c → (zty A j, bif c.1 == 0 then k else 0) ∉ Wr := fun k hz c hc => by
      have hj385 := (zc_lt hz).1
      have ht := lp_sh_at hj385
      have e2 := Option.some.inj ((hs j _ ht).symm.trans g1)
      rw [← e2]
      exact zc_nw hk hc ht hz
    have hFs : ∀ k, (zty A j, k) ∉ Wr → zF (zhv Wr A X) j k = zF A j k := fun k hn => by
      show (bif zold A j && !(zwr Wr (zty A j) k) then zF A j k else zF X j k) = _
      have hf : zwr Wr (zty A j) k = false := by
        cases hb : zwr Wr (zty A j) k with
        | false => rfl
        | true => exact absurd (zwr_t.mp hb) hn
      rw [ho, hf]
      rfl
    have hFc : ∀ k, (zty A j, k) ∈ Wr → zF (zhv Wr A X) j k = zF X j k := fun k hn => by
      show (bif zold A j && !(zwr Wr (zty A j) k) then zF A j k else zF X j k) = _
      rw [zwr_t.mpr hn, Bool.not_true, Bool.and_false]
      rfl
    cases e with
    | inr o =>
      cases e' with
      | inl _ => exact y2.elim
      | inr o' =>
        obtain ⟨y3, y4⟩ := y2
        refine ⟨hkd.trans (g2.1.trans y3.symm), fun k v hv => ?_⟩
        unfold zfl
        by_cases hm : (zty A j, k) ∈ Wr
        · by_cases hz : zc j k = 0
          · rw [zcr_z hz, hFc k hm]
            exact ex.2 k v hv
          · exfalso
            obtain ⟨-, c, hc, hck⟩ := zc_at hz
            have h5 := nz k hz c hc
            cases hb : (c.1 == 0) with
            | true =>
              rw [hb] at h5
              exact h5 hm
            | false =>
              exact zcls_ne hw hs h0 hc (beq_eq_false_iff_ne.mp hb)
        · have hv' : o.2[k]? = some v := by
            rw [← y4 k hm]
            exact hv
          rw [hFs k hm]
          exact (g2.2 k v hv').mv hzx
    | inl x =>
      cases e' with
      | inr _ => exact y2.elim
      | inl y =>
        have y2 : (zty A j, 0) ∉ Wr → y = x := y2
        by_cases hm : (zty A j, 0) ∈ Wr
        · have hf : ∀ (α : Type) (u v : α), (bif zold A j && !(zwr Wr (zty A j) 0) then u else v) = v := fun α u v => by
            rw [zwr_t.mpr hm, Bool.not_true, Bool.and_false]
            rfl
          have hlen : zkd A j = y.2.1 := by
            obtain ⟨td, d1, d2⟩ := hw.2.1 j p _ _ h0 g1
            obtain ⟨td', d3, d4⟩ := hw'.2.1 j p _ _ hj (hex.1 j _ g1)
            have e2 : td = td' := Option.some.inj (d1.symm.trans d3)
            subst e2
            have l1 : x.2.1 = td.2.1 := co_len d2
            have l2 : y.2.1 = td.2.1 := co_len d4
            exact g2.1.trans (l1.trans l2.symm)
          refine ⟨hkd.trans hlen, ?_⟩
          obtain ⟨cA, n, f | f | f | f | f⟩ := y
          · intro i
            show (bif zold A j && !(zwr Wr (zty A j) 0) then zI A j i else zI X j i) = f i
            rw [hf]
            exact ex.2 i
          · intro i
            show (bif zold A j && !(zwr Wr (zty A j) 0) then zJ A j i else zJ X j i) = f i
            rw [hf]
            exact ex.2 i
          · exact trivial
          · exact trivial
          · intro i hi
            show zvr ws' (va_rf (f i)) (zcr (zc j i) (bif zold A j && !(zwr Wr (zty A j) 0) then zR A j i else zR X j i))
            rw [hf]
            by_cases hz : zc j i = 0
            · rw [zcr_z hz]
              exact ex.2 i hi
            · exfalso
              obtain ⟨-, c, hc, hck⟩ := zc_at hz
              have h5 := nz i hz c hc
              cases hb : (c.1 == 0) with
              | true => exact zcls_eq hw hs h0 hc (eq_of_beq hb)
              | false =>
                rw [hb] at h5
                exact h5 hm
        · have e2 := y2 hm
          subst e2
          have hf : zwr Wr (zty A j) 0 = false := by
            cases hb : zwr Wr (zty A j) 0 with
            | false => rfl
            | true => exact absurd (zwr_t.mp hb) hm
          have hs1 : ∀ (α : Type) (u v : α), (bif zold A j && !(zwr Wr (zty A j) 0) then u else v) = u := fun α u v => by
            rw [ho, hf]
            rfl
          refine ⟨hkd.trans g2.1, ?_⟩
          obtain ⟨cA, n, f | f | f | f | f⟩ := y
          · intro i
            show (bif zold A j && !(zwr Wr (zty A j) 0) then zI A j i else zI X j i) = f i
            rw [hs1]
            exact g2.2 i
          · intro i
            show (bif zold A j && !(zwr Wr (zty A j) 0) then zJ A j i else zJ X j i) = f i
            rw [hs1]
            exact g2.2 i
          · exact trivial
          · exact trivial
          · intro i hi
            show zvr ws' (va_rf (f i)) (zcr (zc j i) (bif zold A j && !(zwr Wr (zty A j) 0) then zR A j i else zR X j i))
            rw [hs1]
            exact (g2.2 i hi).mv hzx
  · have ho : zold A j = false := zold_f (by omega) (by omega)
    have hb : ∀ (α : Type) (b : Bool) (u v : α), (bif zold A j && b then u else v) = v := fun α b u v => by
      rw [ho]
      rfl
    have hlt : Nat.blt j 385 = false := nltF (by omega)
    have hK : zK (zhv Wr A X) j = zK X j := by
      show (bif zold A j then zK A j else zK X j) = _
      rw [ho]
      rfl
    have hz : ∀ k, zc j k = 0 := fun k => by
      by_cases hz : zc j k = 0
      · exact hz
      · have := (zc_lt hz).1
        omega
    refine ⟨?_, ?_⟩
    · rw [hsj]
      unfold zty
      rw [hlt, hK]
      show some _ = some (zK X j).2
      rw [x2 j _ hsj]
    · have hkd : zkd (zhv Wr A X) j = (zK X j).1 := by
        unfold zkd
        rw [hlt, hK]
        rfl
      obtain (⟨cA, n, f | f | f | f | f⟩ | o) := e'
      · refine ⟨hkd.trans ex.1, fun i => ?_⟩
        show (bif zold A j && !(zwr Wr (zty A j) 0) then zI A j i else zI X j i) = f i
        rw [hb]
        exact ex.2 i
      · refine ⟨hkd.trans ex.1, fun i => ?_⟩
        show (bif zold A j && !(zwr Wr (zty A j) 0) then zJ A j i else zJ X j i) = f i
        rw [hb]
        exact ex.2 i
      · exact ⟨hkd.trans ex.1, trivial⟩
      · exact ⟨hkd.trans ex.1, trivial⟩
      · refine ⟨hkd.trans ex.1, fun i hi => ?_⟩
        show zvr ws' (va_rf (f i)) (zcr (zc j i) (bif zold A j && !(zwr Wr (zty A j) 0) then zR A j i else zR X j i))
        rw [hb, zcr_z (hz i)]
        exact ex.2 i hi
      · refine ⟨hkd.trans ex.1, fun k v hv => ?_⟩
        show zvr ws' v (zcr (zc j k) (bif zold A j && !(zwr Wr (zty A j) k) then zF A j k else zF X j k))
        rw [hb, zcr_z (hz k)]
        exact ex.2 k v hv
/-- an answer's kind -/
def zrk (rt : Nat) (u : Option Value) : Prop := match rt with
  | 0 => u = none
  | 1 => ∃ x : Int32, u = some (.int x)
  | 2 => ∃ x : Int32, u = some (.int x) ∧ 0 ≤ x.toInt ∧ x.toInt ≤ 1
  | 3 => ∃ x : Int64, u = some (.long x)
  | _ => False
def zhq (rt : Nat) (Wr : List (Nat × Nat)) : zQ := fun _ A K => ∀ (X : zW) (u : Option Value), zrk rt u → zN A ≤ zN X → K u (zhv Wr A X)
theorem zrk_ok {rt : Nat} {rv : Option Value} {ws : va_W} (h : f_rk rt rv) (hr : rt < 4) : zvs ws rv.toList rv.toList ∧ zrk rt rv := by
  match rt, hr, h with
  | 0, _, h =>
    have h : rv = none := h
    subst h
    exact ⟨trivial, rfl⟩
  | 1, _, h =>
    obtain ⟨x, rfl⟩ := h
    exact ⟨⟨rfl, trivial⟩, x, rfl⟩
  | 2, _, h =>
    obtain ⟨x, rfl, h1, h2⟩ := h
    exact ⟨⟨rfl, trivial⟩, x, rfl, h1, h2⟩
  | 3, _, h =>
    obtain ⟨x, rfl⟩ := h
    exact ⟨⟨rfl, trivial⟩, x, rfl⟩
  | n + 4, hr, _ => omega
/-- the types of the places that are there for good -/
theorem zA.sh {A : zW} {ws : va_W} {sh : List Nat} (h : zA A ws sh) : ∀ q t : Nat, lp_sh[q]? = some t → sh[q]? = some t := fun q t ht => by
  obtain ⟨hd, ⟨a1, a2, a3⟩, a4⟩ := h
  have hq := (List.getElem?_eq_some_iff.mp ht).1
  rw [lp_shl] at hq
  obtain ⟨⟨p, e⟩, h0⟩ : ∃ x, ws[q]? = some x := ⟨_, List.getElem?_eq_getElem (show q < ws.length by omega)⟩
  obtain ⟨g1, -⟩ := a4 q p e h0
  rw [g1]
  unfold zty
  rw [nltT hq]
  show some (zn lp_sh q) = some t
  rw [zn_get ht]
theorem zdo_hv {rt : Nat} {Wr : List (Nat × Nat)} {T : fT} {cc : ByteArray} (hr : rt < 4) (hk : bs_K.all (fun x => !(Wr.contains x)) = true) : zdo (fq cw_TT cw_SG rt Wr T cc) (zhq rt Wr) := by
  intro As ws sh rv ws' sh' hx
  refine ⟨zx_fq hx, fun A Us K hA hv hK => ?_⟩
  obtain ⟨X, hN, hX⟩ := zhv_ok hx hA hk hA.sh
  obtain ⟨r1, r2⟩ := zrk_ok (ws := ws') hx.2.2.2.2.2 hr
  exact ⟨_, rv, hX, r1, hK X rv r2 hN⟩
end
