/-! texts: the machine that both parsers are -/
def updW (v : Nat → Nat → Int64) (i : Nat) (f : Nat → Int64) : Nat → Nat → Int64 := fun j => if j = i then f else v j
theorem updW_at {v : Nat → Nat → Int64} {i : Nat} {f : Nat → Int64} : updW v i f i = f := if_pos rfl
theorem updW_ne {v : Nat → Nat → Int64} {i j : Nat} {f : Nat → Int64} (h : j ≠ i) : updW v i f j = v j := if_neg h
/-- minus signs above: done -/
def tdA : Nat → (Nat → Int32) → (Nat → Nat → Int64) → Nat → Nat × (Nat → Nat → Int64)
  | 0, _, v, _ => (0, v)
  | k + 1, m, v, vc => if (m k).toInt = 45 then tdA k m (updW v (vc - 1) (fun x => o_turn (v (vc - 1) x))) vc else (k + 1, v)
def rdV (c : Int32) (u v : Int64) : Int64 := if c.toInt = 38 then o_meet u v else if c.toInt = 124 then o_join u v else o_join (o_turn u) v
/-- the sign above takes the two values on top -/
def rdZ (c : Int32) (v : Nat → Nat → Int64) (vc : Nat) : Nat → Nat → Int64 := updW v (vc - 2) (fun x => rdV c (v (vc - 2) x) (v (vc - 1) x))
/-- signs above that bind at least as strongly -/
def bdA (L : Int) : Nat → (Nat → Int32) → (Nat → Nat → Int64) → Nat → Nat × Nat × (Nat → Nat → Int64)
  | 0, _, v, vc => (0, vc, v)
  | k + 1, m, v, vc => if L ≤ (rkc (m k)).toInt then bdA L k m (rdZ (m k) v vc) (vc - 1) else (k + 1, vc, v)
/-- there are values enough for it -/
def bdK (L : Int) : Nat → (Nat → Int32) → Nat → Prop
  | 0, _, _ => True
  | k + 1, m, vc => L ≤ (rkc (m k)).toInt → 2 ≤ vc ∧ bdK L k m (vc - 1)
abbrev pS : Type := (Nat × (Nat → Int32)) × Nat × (Nat → Nat → Int64)
def psh (c : Int32) (s : pS) : pS := ((s.1.1 + 1, upd s.1.2 s.1.1 c), s.2)
def bdS (L : Int) (s : pS) : pS := let b := bdA L s.1.1 s.1.2 s.2.2 s.2.1; ((b.1, s.1.2), b.2.1, b.2.2)
def tdS (s : pS) : pS := let t := tdA s.1.1 s.1.2 s.2.2 s.2.1; ((t.1, s.1.2), s.2.1, t.2)
def popS (s : pS) : pS := ((s.1.1 - 1, s.1.2), s.2)
/-- a letter's worlds, word by word -/
def ltW (k x : Nat) : Int64 := if k < 6 then fw_v k else if k = 6 then (if x % 2 = 1 then m1_ else 0) else (if 2 ≤ x then m1_ else 0)
def opdW (c : Int32) (x : Nat) : Int64 := if c.toInt = 49 then m1_ else if c.toInt = 48 then 0 else ltW (c.toInt - 97).toNat x
def valS (c : Int32) (s : pS) : pS := (s.1, s.2.1 + 1, updW s.2.2 s.2.1 (opdW c))
/-- a mark of the text -/
def chA (c : Int32) (s : pS) : pS :=
  if 0 < (rkc c).toInt then psh c (bdS (if (rkc c).toInt ≤ 2 then 2 else 3) s)
  else if c.toInt = 40 ∨ c.toInt = 45 then psh c s
  else if c.toInt = 41 then tdS (popS (bdS 1 s))
  else tdS (valS c s)
def runA (g : Nat → Int32) : Nat → pS
  | 0 => ((0, fun _ => 0), 0, fun _ _ => 0)
  | n + 1 => chA (g n) (runA g n)
/-- the words of the text's worlds -/
def txtW (g : Nat → Int32) (n : Nat) : Nat → Int64 := (bdS 1 (runA g n)).2.2 0
/-- what a text must hold that is right so far: binary signs and values in balance, minus signs where they may stand -/
def cnA (p : Int32 → Bool) : Nat → (Nat → Int32) → Nat
  | 0, _ => 0
  | k + 1, m => cnA p k m + (if p (m k) = true then 1 else 0)
def isB (c : Int32) : Bool := decide (0 < (rkc c).toInt)
def isP (c : Int32) : Bool := decide (c.toInt = 40)
theorem isB_t {c : Int32} : isB c = true ↔ 0 < (rkc c).toInt := decide_eq_true_iff
theorem isB_f {c : Int32} : isB c = false ↔ ¬ 0 < (rkc c).toInt := decide_eq_false_iff_not
theorem isP_t {c : Int32} : isP c = true ↔ c.toInt = 40 := decide_eq_true_iff
theorem isP_f {c : Int32} : isP c = false ↔ ¬ c.toInt = 40 := decide_eq_false_iff_not
theorem rk_b {c : Int32} : 0 < (rkc c).toInt ↔ (c.toInt = 38 ∨ c.toInt = 124 ∨ c.toInt = 62) := by
  have h := rkc_pos (c := c)
  omega
theorem cnA_upd {p : Int32 → Bool} {m : Nat → Int32} {c : Int32} : ∀ {k j : Nat}, k ≤ j → cnA p k (upd m j c) = cnA p k m
  | 0, _, _ => rfl
  | k + 1, j, h => by
    show cnA p k (upd m j c) + (if p (upd m j c k) = true then 1 else 0) = cnA p k m + (if p (m k) = true then 1 else 0)
    rw [cnA_upd (by omega), upd_ne (by omega)]
theorem cnA_cut {p : Int32 → Bool} {m : Nat → Int32} {a : Nat} : ∀ {k : Nat}, a ≤ k → (∀ j, a ≤ j → j < k → p (m j) = false) → cnA p k m = cnA p a m
  | 0, h, _ => by
    have h : a = 0 := by omega
    rw [h]
  | k + 1, h, hp => by
    by_cases e : a = k + 1
    · rw [e]
    · show cnA p k m + (if p (m k) = true then 1 else 0) = cnA p a m
      rw [if_neg (by rw [hp k (by omega) (by omega)]; decide), cnA_cut (by omega) (fun j h1 h2 => hp j h1 (by omega))]
      rfl
/-- what holds of a text that is right so far -/
def okS (b : Bool) (o i : Nat) (s : pS) : Prop := s.2.1 = cnA isB s.1.1 s.1.2 + (if b = true then 0 else 1) ∧ cnA isP s.1.1 s.1.2 = o ∧ s.1.1 ≤ i ∧ 2 * s.2.1 ≤ i + (if b = true then 0 else 1) ∧ ∀ j, j < s.1.1 → ((s.1.2 j).toInt = 40 ∨ (s.1.2 j).toInt = 45 ∨ 0 < (rkc (s.1.2 j)).toInt) ∧ ((s.1.2 j).toInt = 45 → (j + 1 = s.1.1 → b = true) ∧ (j + 1 < s.1.1 → ¬ 0 < (rkc (s.1.2 (j + 1))).toInt))
theorem bdK_of {L : Int} (hL : 1 ≤ L) : ∀ {k : Nat} {m : Nat → Int32} {vc : Nat}, vc = cnA isB k m + 1 → bdK L k m vc
  | 0, _, _, _ => trivial
  | k + 1, m, vc, h => by
    intro hr
    have h : vc = cnA isB k m + (if isB (m k) = true then 1 else 0) + 1 := h
    rw [if_pos (isB_t.mpr (by omega))] at h
    exact ⟨by omega, bdK_of hL (by omega)⟩
/-- what binding leaves -/
theorem bdA_ok {L : Int} (hL : 1 ≤ L) : ∀ {k : Nat} {m : Nat → Int32} {v : Nat → Nat → Int64} {vc : Nat}, vc = cnA isB k m + 1 → (bdA L k m v vc).1 ≤ k ∧ (bdA L k m v vc).2.1 = cnA isB (bdA L k m v vc).1 m + 1 ∧ (bdA L k m v vc).2.1 ≤ vc ∧ (∀ j, (bdA L k m v vc).1 ≤ j → j < k → L ≤ (rkc (m j)).toInt) ∧ ((bdA L k m v vc).1 = 0 ∨ ¬ L ≤ (rkc (m ((bdA L k m v vc).1 - 1))).toInt)
  | 0, m, v, vc, h => ⟨Nat.le_refl _, h, Nat.le_refl _, fun j _ h2 => absurd h2 (Nat.not_lt_zero j), Or.inl rfl⟩
  | k + 1, m, v, vc, h => by
    have h : vc = cnA isB k m + (if isB (m k) = true then 1 else 0) + 1 := h
    unfold bdA
    by_cases hr : L ≤ (rkc (m k)).toInt
    · rw [if_pos hr]
      rw [if_pos (isB_t.mpr (by omega))] at h
      obtain ⟨a1, a2, a3, a4, a5⟩ := bdA_ok hL (k := k) (m := m) (v := rdZ (m k) v vc) (vc := vc - 1) (by omega)
      refine ⟨by omega, a2, by omega, fun j h1 h2 => ?_, a5⟩
      by_cases e : j = k
      · rw [e]
        exact hr
      · exact a4 j h1 (by omega)
    · rw [if_neg hr]
      exact ⟨Nat.le_refl _, h, Nat.le_refl _, fun j h1 h2 => by have h1 : k + 1 ≤ j := h1; omega, Or.inr hr⟩
theorem tdA_ok : ∀ {k : Nat} {m : Nat → Int32} {v : Nat → Nat → Int64} {vc : Nat}, (tdA k m v vc).1 ≤ k ∧ (∀ j, (tdA k m v vc).1 ≤ j → j < k → (m j).toInt = 45) ∧ ((tdA k m v vc).1 = 0 ∨ ¬ (m ((tdA k m v vc).1 - 1)).toInt = 45)
  | 0, m, v, vc => ⟨Nat.le_refl _, fun j _ h2 => absurd h2 (Nat.not_lt_zero j), Or.inl rfl⟩
  | k + 1, m, v, vc => by
    unfold tdA
    by_cases hr : (m k).toInt = 45
    · rw [if_pos hr]
      obtain ⟨a1, a4, a5⟩ := tdA_ok (k := k) (m := m) (v := updW v (vc - 1) (fun x => o_turn (v (vc - 1) x))) (vc := vc)
      refine ⟨by omega, fun j h1 h2 => ?_, a5⟩
      by_cases e : j = k
      · rw [e]
        exact hr
      · exact a4 j h1 (by omega)
    · rw [if_neg hr]
      exact ⟨Nat.le_refl _, fun j h1 h2 => by have h1 : k + 1 ≤ j := h1; omega, Or.inr hr⟩
theorem okS_0 : okS true 0 0 (runA (fun _ => 0) 0) := ⟨rfl, rfl, Nat.le_refl _, Nat.le_refl _, fun j h => absurd h (Nat.not_lt_zero j)⟩
/-- a sign pushed -/
theorem okS_psh {o i : Nat} {s : pS} {c : Int32} (h : okS true o i s) (hc : c.toInt = 40 ∨ c.toInt = 45) : okS true (if c.toInt = 40 then o + 1 else o) (i + 1) (psh c s) := by
  obtain ⟨h1, h2, h3, h4, h5⟩ := h
  have nb : ¬ 0 < (rkc c).toInt := fun z => by
    have z := rk_b.mp z
    omega
  refine ⟨?_, ?_, by show s.1.1 + 1 ≤ i + 1; omega, by show 2 * s.2.1 ≤ i + 1 + 0; have h4 : 2 * s.2.1 ≤ i + 0 := h4; omega, fun j hj => ?_⟩
  · show s.2.1 = cnA isB s.1.1 (upd s.1.2 s.1.1 c) + (if isB (upd s.1.2 s.1.1 c s.1.1) = true then 1 else 0) + 0
    rw [cnA_upd (Nat.le_refl _), upd_at, if_neg (fun z => nb (isB_t.mp z))]
    exact h1
  · show cnA isP s.1.1 (upd s.1.2 s.1.1 c) + (if isP (upd s.1.2 s.1.1 c s.1.1) = true then 1 else 0) = _
    rw [cnA_upd (Nat.le_refl _), upd_at, h2]
    by_cases e : c.toInt = 40
    · rw [if_pos (isP_t.mpr e), if_pos e]
    · rw [if_neg (fun z => e (isP_t.mp z)), if_neg e]
      rfl
  · have hj : j < s.1.1 + 1 := hj
    show ((upd s.1.2 s.1.1 c j).toInt = 40 ∨ (upd s.1.2 s.1.1 c j).toInt = 45 ∨ 0 < (rkc (upd s.1.2 s.1.1 c j)).toInt) ∧ ((upd s.1.2 s.1.1 c j).toInt = 45 → (j + 1 = s.1.1 + 1 → true = true) ∧ (j + 1 < s.1.1 + 1 → ¬ 0 < (rkc (upd s.1.2 s.1.1 c (j + 1))).toInt))
    by_cases e : j = s.1.1
    · rw [e, upd_at]
      exact ⟨hc.imp id Or.inl, fun _ => ⟨fun _ => rfl, fun z => absurd z (Nat.lt_irrefl _)⟩⟩
    · obtain ⟨g1, g2⟩ := h5 j (by omega)
      rw [upd_ne e]
      refine ⟨g1, fun z => ⟨fun _ => rfl, fun z2 => ?_⟩⟩
      by_cases e2 : j + 1 = s.1.1
      · rw [e2, upd_at]
        exact nb
      · rw [upd_ne e2]
        exact (g2 z).2 (by omega)
theorem tdS_ok {b : Bool} {o i : Nat} {s : pS} (h1 : s.2.1 = cnA isB s.1.1 s.1.2 + 1) (h2 : cnA isP s.1.1 s.1.2 = o) (h3 : s.1.1 ≤ i) (h4 : 2 * s.2.1 ≤ i + 1) (h5 : ∀ j, j < s.1.1 → ((s.1.2 j).toInt = 40 ∨ (s.1.2 j).toInt = 45 ∨ 0 < (rkc (s.1.2 j)).toInt) ∧ ((s.1.2 j).toInt = 45 → (j + 1 = s.1.1 → b = true) ∧ (j + 1 < s.1.1 → ¬ 0 < (rkc (s.1.2 (j + 1))).toInt))) : okS false o i (tdS s) := by
  obtain ⟨a1, a2, a3⟩ := tdA_ok (k := s.1.1) (m := s.1.2) (v := s.2.2) (vc := s.2.1)
  refine ⟨?_, ?_, by show (tdA s.1.1 s.1.2 s.2.2 s.2.1).1 ≤ i; omega, h4, fun j hj => ?_⟩
  · show s.2.1 = cnA isB (tdA s.1.1 s.1.2 s.2.2 s.2.1).1 s.1.2 + 1
    exact h1.trans (congrArg (fun z => z + 1) (cnA_cut a1 (fun j g1 g2 => isB_f.mpr (fun z => by have z := rk_b.mp z; have y := a2 j g1 g2; omega))))
  · show cnA isP (tdA s.1.1 s.1.2 s.2.2 s.2.1).1 s.1.2 = o
    exact (cnA_cut a1 (fun j g1 g2 => isP_f.mpr (fun z => by have y := a2 j g1 g2; omega))).symm.trans h2
  · have hj : j < (tdA s.1.1 s.1.2 s.2.2 s.2.1).1 := hj
    obtain ⟨g1, g2⟩ := h5 j (by omega)
    refine ⟨g1, fun z => ⟨fun e => ?_, fun e => ?_⟩⟩
    · have e : j + 1 = (tdA s.1.1 s.1.2 s.2.2 s.2.1).1 := e
      have a3 := a3.resolve_left (by omega)
      rw [← e] at a3
      exact absurd z a3
    · have e : j + 1 < (tdA s.1.1 s.1.2 s.2.2 s.2.1).1 := e
      exact (g2 z).2 (by omega)
/-- binding leaves no minus sign above -/
theorem bd_top {L : Int} (hL : 1 ≤ L) {o i : Nat} {s : pS} (h : okS false o i s) {j : Nat} (hj : j + 1 = (bdS L s).1.1) : ¬ (s.1.2 j).toInt = 45 := by
  obtain ⟨h1, -, -, -, h5⟩ := h
  obtain ⟨a1, -, -, a4, -⟩ := bdA_ok hL (k := s.1.1) (m := s.1.2) (v := s.2.2) (vc := s.2.1) h1
  have hj : j + 1 = (bdA L s.1.1 s.1.2 s.2.2 s.2.1).1 := hj
  intro z
  obtain ⟨g1, g2⟩ := (h5 j (by omega)).2 z
  by_cases e : j + 1 = s.1.1
  · cases g1 e
  · have y := a4 (j + 1) (by omega) (by omega)
    exact g2 (by omega) (by omega)
theorem okS_op {L : Int} (hL : 1 ≤ L) {o i : Nat} {s : pS} {c : Int32} (h : okS false o i s) (hc : 0 < (rkc c).toInt) : okS true o (i + 1) (psh c (bdS L s)) := by
  have ht := fun (j : Nat) (hj : j + 1 = (bdS L s).1.1) => bd_top hL h hj
  obtain ⟨h1, h2, h3, h4, h5⟩ := h
  obtain ⟨a1, a2, a3, a4, -⟩ := bdA_ok hL (k := s.1.1) (m := s.1.2) (v := s.2.2) (vc := s.2.1) h1
  have ht : ∀ j, j + 1 = (bdA L s.1.1 s.1.2 s.2.2 s.2.1).1 → ¬ (s.1.2 j).toInt = 45 := ht
  have np := cnA_cut (p := isP) (m := s.1.2) a1 (fun j g1 g2 => isP_f.mpr (fun z => by have y := a4 j g1 g2; have y2 := rk_b.mp (show 0 < (rkc (s.1.2 j)).toInt by omega); omega))
  have e40 : ¬ c.toInt = 40 := fun z => by
    have y := rk_b.mp hc
    omega
  show okS true o (i + 1) (((bdA L s.1.1 s.1.2 s.2.2 s.2.1).1 + 1, upd s.1.2 (bdA L s.1.1 s.1.2 s.2.2 s.2.1).1 c), (bdA L s.1.1 s.1.2 s.2.2 s.2.1).2.1, (bdA L s.1.1 s.1.2 s.2.2 s.2.1).2.2)
  generalize bdA L s.1.1 s.1.2 s.2.2 s.2.1 = B at a1 a2 a3 a4 np ht
  refine ⟨?_, ?_, by show B.1 + 1 ≤ i + 1; omega, by show 2 * B.2.1 ≤ i + 1 + 0; have h4 : 2 * s.2.1 ≤ i + 1 := h4; omega, fun j hj => ?_⟩
  · show B.2.1 = cnA isB B.1 (upd s.1.2 B.1 c) + (if isB (upd s.1.2 B.1 c B.1) = true then 1 else 0) + 0
    rw [cnA_upd (Nat.le_refl _), upd_at, if_pos (isB_t.mpr hc)]
    exact a2
  · show cnA isP B.1 (upd s.1.2 B.1 c) + (if isP (upd s.1.2 B.1 c B.1) = true then 1 else 0) = o
    rw [cnA_upd (Nat.le_refl _), upd_at, if_neg (fun z => e40 (isP_t.mp z)), ← np]
    exact h2
  · have hj : j < B.1 + 1 := hj
    show ((upd s.1.2 B.1 c j).toInt = 40 ∨ (upd s.1.2 B.1 c j).toInt = 45 ∨ 0 < (rkc (upd s.1.2 B.1 c j)).toInt) ∧ ((upd s.1.2 B.1 c j).toInt = 45 → (j + 1 = B.1 + 1 → true = true) ∧ (j + 1 < B.1 + 1 → ¬ 0 < (rkc (upd s.1.2 B.1 c (j + 1))).toInt))
    by_cases e : j = B.1
    · rw [e, upd_at]
      exact ⟨Or.inr (Or.inr hc), fun _ => ⟨fun _ => rfl, fun z => absurd z (Nat.lt_irrefl _)⟩⟩
    · obtain ⟨g1, g2⟩ := h5 j (by omega)
      rw [upd_ne e]
      refine ⟨g1, fun z => ⟨fun _ => rfl, fun z2 => ?_⟩⟩
      by_cases e2 : j + 1 = B.1
      · exact absurd z (ht j e2)
      · rw [upd_ne e2]
        exact (g2 z).2 (by omega)
theorem okS_val {o i : Nat} {s : pS} {c : Int32} (h : okS true o i s) : okS false o (i + 1) (tdS (valS c s)) := by
  obtain ⟨h1, h2, h3, h4, h5⟩ := h
  have h1 : s.2.1 = cnA isB s.1.1 s.1.2 + 0 := h1
  have h4 : 2 * s.2.1 ≤ i + 0 := h4
  exact tdS_ok (b := true) (by show s.2.1 + 1 = cnA isB s.1.1 s.1.2 + 1; omega) h2 (by show s.1.1 ≤ i + 1; omega) (by show 2 * (s.2.1 + 1) ≤ i + 1 + 1; omega) h5
/-- before a bracket that closes: the sign above is the one that opens -/
theorem bd_close {o i : Nat} {s : pS} (h : okS false o i s) (ho : 0 < o) : 0 < (bdS 1 s).1.1 ∧ (s.1.2 ((bdS 1 s).1.1 - 1)).toInt = 40 := by
  have ht := fun (j : Nat) (hj : j + 1 = (bdS 1 s).1.1) => bd_top (Int.le_refl 1) h hj
  obtain ⟨h1, h2, h3, h4, h5⟩ := h
  obtain ⟨a1, a2, a3, a4, a5⟩ := bdA_ok (Int.le_refl 1) (k := s.1.1) (m := s.1.2) (v := s.2.2) (vc := s.2.1) h1
  have ht : ∀ j, j + 1 = (bdA 1 s.1.1 s.1.2 s.2.2 s.2.1).1 → ¬ (s.1.2 j).toInt = 45 := ht
  have np := cnA_cut (p := isP) (m := s.1.2) a1 (fun j g1 g2 => isP_f.mpr (fun z => by have y := a4 j g1 g2; have y2 := rk_b.mp (show 0 < (rkc (s.1.2 j)).toInt by omega); omega))
  show 0 < (bdA 1 s.1.1 s.1.2 s.2.2 s.2.1).1 ∧ (s.1.2 ((bdA 1 s.1.1 s.1.2 s.2.2 s.2.1).1 - 1)).toInt = 40
  generalize bdA 1 s.1.1 s.1.2 s.2.2 s.2.1 = B at a1 a2 a3 a4 a5 np ht
  have h0 : 0 < B.1 := by
    refine Nat.pos_of_ne_zero (fun e => ?_)
    rw [e] at np
    have np : cnA isP s.1.1 s.1.2 = 0 := np
    omega
  refine ⟨h0, ?_⟩
  have g1 := (h5 (B.1 - 1) (by omega)).1
  have g2 := ht (B.1 - 1) (by omega)
  have g3 := a5.resolve_left (by omega)
  omega
theorem okS_close {o i : Nat} {s : pS} (h : okS false o i s) (ho : 0 < o) : okS false (o - 1) (i + 1) (tdS (popS (bdS 1 s))) := by
  obtain ⟨hp, ht⟩ := bd_close h ho
  obtain ⟨h1, h2, h3, h4, h5⟩ := h
  obtain ⟨a1, a2, a3, a4, a5⟩ := bdA_ok (Int.le_refl 1) (k := s.1.1) (m := s.1.2) (v := s.2.2) (vc := s.2.1) h1
  have np := cnA_cut (p := isP) (m := s.1.2) a1 (fun j g1 g2 => isP_f.mpr (fun z => by have y := a4 j g1 g2; have y2 := rk_b.mp (show 0 < (rkc (s.1.2 j)).toInt by omega); omega))
  have hp : 0 < (bdA 1 s.1.1 s.1.2 s.2.2 s.2.1).1 := hp
  have ht : (s.1.2 ((bdA 1 s.1.1 s.1.2 s.2.2 s.2.1).1 - 1)).toInt = 40 := ht
  show okS false (o - 1) (i + 1) (tdS (((bdA 1 s.1.1 s.1.2 s.2.2 s.2.1).1 - 1, s.1.2), (bdA 1 s.1.1 s.1.2 s.2.2 s.2.1).2.1, (bdA 1 s.1.1 s.1.2 s.2.2 s.2.1).2.2))
  generalize bdA 1 s.1.1 s.1.2 s.2.2 s.2.1 = B at a1 a2 a3 a4 a5 np hp ht
  obtain ⟨k, ek⟩ : ∃ k, B.1 = k + 1 := ⟨B.1 - 1, by omega⟩
  rw [ek] at a2 np ht
  have ht : (s.1.2 k).toInt = 40 := ht
  have a2 : B.2.1 = cnA isB k s.1.2 + (if isB (s.1.2 k) = true then 1 else 0) + 1 := a2
  have np : cnA isP s.1.1 s.1.2 = cnA isP k s.1.2 + (if isP (s.1.2 k) = true then 1 else 0) := np
  rw [if_neg (fun z => by have z := rk_b.mp (isB_t.mp z); omega)] at a2
  rw [if_pos (isP_t.mpr ht)] at np
  have h4 : 2 * s.2.1 ≤ i + 1 := h4
  refine tdS_ok (b := true) (s := ((B.1 - 1, s.1.2), B.2.1, B.2.2)) ?_ ?_ ?_ ?_ (fun j hj => ?_)
  · show B.2.1 = cnA isB (B.1 - 1) s.1.2 + 1
    rw [ek, Nat.add_sub_cancel]
    omega
  · show cnA isP (B.1 - 1) s.1.2 = o - 1
    rw [ek, Nat.add_sub_cancel]
    omega
  · show B.1 - 1 ≤ i + 1
    omega
  · show 2 * B.2.1 ≤ i + 1 + 1
    omega
  · have hj : j < B.1 - 1 := hj
    obtain ⟨g1, g2⟩ := h5 j (by omega)
    exact ⟨g1, fun z => ⟨fun _ => rfl, fun e => (g2 z).2 (by have e : j + 1 < B.1 - 1 := e; omega)⟩⟩
