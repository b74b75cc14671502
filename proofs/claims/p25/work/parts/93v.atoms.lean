/-! whole worlds by their atoms: what lasts, the fields of objects, arrays of numbers -/
theorem s_X11_newSentence : f_do r_X11_newSentence (fun As h rv h' => ∀ a : Nat × List Value × Int32, As = [.ref a.1] → (h a.1 = some (.inr (11, a.2.1)) ∧ a.2.1.getD 1 .null = .int a.2.2) → h' = hset h a.1 (.inr (11, a.2.1.set 1 (.int (a.2.2 + 1)))) ∧ rv = some (.int a.2.2)) := by
  refine do_ofP (fun a : Nat × List Value × Int32 => [.ref a.1]) (fun a h => h a.1 = some (.inr (11, a.2.1)) ∧ a.2.1.getD 1 .null = .int a.2.2) (fun a h rv h' => h' = hset h a.1 (.inr (11, a.2.1.set 1 (.int (a.2.2 + 1)))) ∧ rv = some (.int a.2.2)) [] (fun _ _ => []) 40 fo_X11 no_sp k_X11_newSentence (fun _ _ _ => no_hd) (fun a h0 hp => ?_)
  obtain ⟨p, fs, c⟩ := a
  obtain ⟨hp, hc⟩ := hp
  have hp : h0 p = some (.inr (11, fs)) := hp
  have hc : fs.getD 1 .null = .int c := hc
  have g : eG fl_X11 108 (h0 p) = .int c := by
    rw [hp, ← hc]
    rfl
  show hset h0 p (sG pl_X11 108 (.int (iv (eG fl_X11 108 (h0 p)) + 1)) (h0 p)) = hset h0 p (.inr (11, fs.set 1 (.int (c + 1)))) ∧ some (eG fl_X11 108 (h0 p)) = some (.int c)
  rw [g, hp]
  exact ⟨rfl, rfl⟩
theorem bl_1 : lp_L2[1]? = some (3, 3, 60, [(2, 0, 2), (2, 0, 4), (2, 0, 6), (2, 0, 8), (2, 0, 10), (2, 0, 12), (2, 0, 14), (2, 0, 16), (2, 0, 18), (2, 0, 20), (2, 0, 22), (2, 0, 24), (2, 0, 26), (2, 0, 28), (2, 0, 30), (2, 0, 32), (2, 0, 34), (2, 0, 36), (2, 0, 38), (2, 0, 40), (2, 0, 42), (2, 0, 44), (2, 0, 46), (2, 0, 48), (2, 0, 50), (2, 0, 52), (2, 0, 54), (2, 0, 56), (2, 0, 58), (2, 0, 60), (2, 0, 62), (2, 0, 64), (2, 0, 66), (2, 0, 68), (2, 0, 70), (2, 0, 72), (2, 0, 74), (2, 0, 76), (2, 0, 78), (2, 0, 80), (2, 0, 82), (2, 0, 84), (2, 0, 86), (2, 0, 88), (2, 0, 90), (2, 0, 92), (2, 0, 94), (2, 0, 96), (2, 0, 98), (2, 0, 100), (2, 0, 102), (2, 0, 104), (2, 0, 106), (2, 0, 108), (2, 0, 110), (2, 0, 112), (2, 0, 114), (2, 0, 116), (2, 0, 118), (2, 0, 120)]) := lp_at_ok (by decide +kernel)
theorem bt_1 : lp_sh[1]? = some 18 := by decide +kernel
theorem bl_344 : lp_L2[344]? = some (2, 1, 240, []) := lp_at_ok (by decide +kernel)
theorem bt_344 : lp_sh[344]? = some 45 := by decide +kernel
def bI (B : Nat → Nat) (w : lW) : Prop := f_dj w.1 ∧ Bs B w.1 w.2
def oF (B : Nat → Nat) (q ci k : Nat) (v : Value) (w : lW) : Prop := ∃ fs : List Value, hof w.1 (B q) = some (.inr (ci, fs)) ∧ k < fs.length ∧ fs.getD k .null = v
def aI (B : Nat → Nat) (q n : Nat) (f : Nat → Int32) (w : lW) : Prop := ∃ cA : ClassId, hof w.1 (B q) = some (.inl (cA, n, .inl f))
def aJ (B : Nat → Nat) (q n : Nat) (f : Nat → Int64) (w : lW) : Prop := ∃ cA : ClassId, hof w.1 (B q) = some (.inl (cA, n, .inr (.inl f)))
section
variable {B : Nat → Nat} {rt : Nat} {Wr : List (Nat × Nat)} {T : fT} {cc : ByteArray} {As : List Value} {w w' : lW} {rv : Option Value}
theorem bI.keep (hI : bI B w) (h : fLr (fq cw_TT cw_SG rt Wr T cc) As w rv w') (hk : bs_K.all (fun x => !(Wr.contains x)) = true) : bI B w' :=
  ⟨h.2.2.1, hI.2.ex h.2.2.2.1 hk⟩
theorem oF.keep {q ci k t : Nat} {v : Value} {c : mk_C} (ho : oF B q ci k v w) (hI : bI B w) (h : fLr (fq cw_TT cw_SG rt Wr T cc) As w rv w') (hc : lp_L2[q]? = some c) (ht : lp_sh[q]? = some t) (hw : (t, k) ∉ Wr) : oF B q ci k v w' := by
  obtain ⟨fs, hp, hl, hv⟩ := ho
  obtain ⟨e, h1, h2, -⟩ := hI.2.h hI.1 hc
  rw [hp] at h2
  have h2 : .inr (ci, fs) = e := Option.some.inj h2
  subst h2
  have hx : ck_ex Wr w.1 w.2 w'.1 w'.2 := h.2.2.2.1
  obtain ⟨e', x1, x2⟩ := hx.2 q _ _ t h1 (hI.2.1 q t ht)
  cases e' with
  | inl _ => exact x2.elim
  | inr o' =>
    obtain ⟨y1, y2⟩ := x2
    have y1 : o'.1 = ci := y1
    have y : o'.2[k]? = fs[k]? := y2 k hw
    have hd' : f_dj w'.1 := h.2.2.1
    refine ⟨o'.2, ?_, ?_, ?_⟩
    · rw [hof_at hd' x1, ← y1]
    · rw [List.getElem?_eq_getElem hl] at y
      exact (List.getElem?_eq_some_iff.mp y).1
    · rw [List.getD_eq_getElem?_getD, y, ← List.getD_eq_getElem?_getD]
      exact hv
theorem aI.keep {q n t : Nat} {f : Nat → Int32} {c : mk_C} (ha : aI B q n f w) (hI : bI B w) (h : fLr (fq cw_TT cw_SG rt Wr T cc) As w rv w') (hc : lp_L2[q]? = some c) (ht : lp_sh[q]? = some t) (h0 : c.1 ≠ 0) (hw : (t, 0) ∉ Wr) : aI B q n f w' := by
  obtain ⟨cA, ha⟩ := ha
  exact ⟨cA, by rw [hI.2.same hI.1 h.2.2.1 h.2.2.2.1 hc ht h0 hw]; exact ha⟩
theorem aJ.keep {q n t : Nat} {f : Nat → Int64} {c : mk_C} (ha : aJ B q n f w) (hI : bI B w) (h : fLr (fq cw_TT cw_SG rt Wr T cc) As w rv w') (hc : lp_L2[q]? = some c) (ht : lp_sh[q]? = some t) (h0 : c.1 ≠ 0) (hw : (t, 0) ∉ Wr) : aJ B q n f w' := by
  obtain ⟨cA, ha⟩ := ha
  exact ⟨cA, by rw [hI.2.same hI.1 h.2.2.1 h.2.2.2.1 hc ht h0 hw]; exact ha⟩
/-- a place written -/
theorem bI.set (hI : bI B w) {p q : Nat} {c : mk_C} {e0 e : va_E} (hc : lp_L2[p]? = some c) (hq : w.1[q]? = some (B p, e0)) (he : cR B c e) : bI B (w.1.set q (B p, e), w.2) ∧ hof (w.1.set q (B p, e)) = hset (hof w.1) (B p) e := by
  obtain ⟨e1, h1, -⟩ := hI.2.2 p c hc
  have eq : q = p := hI.1 q p _ _ hq h1 rfl
  subst eq
  exact ⟨⟨hI.1.set hq, hI.2.set hq (fun c' hc' => by rw [hc] at hc'; exact (Option.some.inj hc') ▸ he)⟩, hof_set hI.1 hq⟩
theorem oF.upd {q ci k p : Nat} {v : Value} {c d : mk_C} {ws' : va_W} {sh' : List Nat} {e : va_E} (ho : oF B q ci k v w) (hI : bI B w) (hc : lp_L2[q]? = some c) (hd : lp_L2[p]? = some d) (hn : q ≠ p) (hh : hof ws' = hset (hof w.1) (B p) e) : oF B q ci k v (ws', sh') := by
  obtain ⟨fs, hp, hl, hv⟩ := ho
  refine ⟨fs, ?_, hl, hv⟩
  show hof ws' (B q) = _
  rw [hh, hset_ne (hI.2.ne hI.1 hc hd hn)]
  exact hp
theorem aI.upd {q n p : Nat} {f : Nat → Int32} {c d : mk_C} {ws' : va_W} {sh' : List Nat} {e : va_E} (ho : aI B q n f w) (hI : bI B w) (hc : lp_L2[q]? = some c) (hd : lp_L2[p]? = some d) (hn : q ≠ p) (hh : hof ws' = hset (hof w.1) (B p) e) : aI B q n f (ws', sh') := by
  obtain ⟨cA, ha⟩ := ho
  refine ⟨cA, ?_⟩
  show hof ws' (B q) = _
  rw [hh, hset_ne (hI.2.ne hI.1 hc hd hn)]
  exact ha
theorem aJ.upd {q n p : Nat} {f : Nat → Int64} {c d : mk_C} {ws' : va_W} {sh' : List Nat} {e : va_E} (ho : aJ B q n f w) (hI : bI B w) (hc : lp_L2[q]? = some c) (hd : lp_L2[p]? = some d) (hn : q ≠ p) (hh : hof ws' = hset (hof w.1) (B p) e) : aJ B q n f (ws', sh') := by
  obtain ⟨cA, ha⟩ := ho
  refine ⟨cA, ?_⟩
  show hof ws' (B q) = _
  rw [hh, hset_ne (hI.2.ne hI.1 hc hd hn)]
  exact ha
/-- a field of an object that is there for good -/
theorem oF.get {q ci k i : Nat} {v : Value} {fl : List (Nat × Nat × Nat)} (ho : oF B q ci k v w) (hk : kfd fl i ci = k) : eG fl i (hof w.1 (B q)) = v := by
  obtain ⟨fs, hp, -, hv⟩ := ho
  rw [hp]
  show fs.getD (kfd fl i ci) .null = v
  rw [hk, hv]
theorem oF.ref {q ci k k' r : Nat} {v : Value} {c : mk_C} (ho : oF B q ci k v w) (hI : bI B w) (hc : lp_L2[q]? = some c) (hr : c.2.2.2[k']? = some (2, 0, r)) : oF B q ci k' (.ref (B r)) w := by
  obtain ⟨fs, hp, -, -⟩ := ho
  obtain ⟨e, -, h2, h3⟩ := hI.2.h hI.1 hc
  rw [hp] at h2
  have h2 : .inr (ci, fs) = e := Option.some.inj h2
  subst h2
  have h4 : fs[k']? = some (.ref (B r)) := h3.2 k' r hr
  exact ⟨fs, hp, (List.getElem?_eq_some_iff.mp h4).1, by rw [List.getD_eq_getElem?_getD, h4]; rfl⟩
/-- a number written into an object -/
theorem oF.put (hI : bI B w) {p q ci k : Nat} {c : mk_C} {v v' : Value} {e0 : va_E} {i : Nat} {pl : List (Nat × Nat × Nat × Nat)} (ho : oF B p ci k v w) (hc : lp_L2[p]? = some c) (hq : w.1[q]? = some (B p, e0)) (hk : kpd pl i ci = k) (hr : ∀ r, c.2.2.2[k]? ≠ some (2, 0, r)) : bI B (w.1.set q (B p, sG pl i v' (hof w.1 (B p))), w.2) ∧ hof (w.1.set q (B p, sG pl i v' (hof w.1 (B p)))) = hset (hof w.1) (B p) (sG pl i v' (hof w.1 (B p))) ∧ oF B p ci k v' (w.1.set q (B p, sG pl i v' (hof w.1 (B p))), w.2) ∧ ∀ (k2 : Nat) (v2 : Value), k2 ≠ k → oF B p ci k2 v2 w → oF B p ci k2 v2 (w.1.set q (B p, sG pl i v' (hof w.1 (B p))), w.2) := by
  obtain ⟨fs, hp, hl, -⟩ := ho
  obtain ⟨e, -, h2, h3⟩ := hI.2.h hI.1 hc
  rw [hp] at h2
  have h2 : .inr (ci, fs) = e := Option.some.inj h2
  subst h2
  have es : sG pl i v' (hof w.1 (B p)) = .inr (ci, fs.set k v') := by
    rw [hp]
    show Sum.inr (ci, fs.set (kpd pl i ci) v') = _
    rw [hk]
  rw [es]
  obtain ⟨a1, a2⟩ := hI.set hc hq (cR.fld h3 hr)
  have hat : hof (w.1.set q (B p, .inr (ci, fs.set k v'))) (B p) = some (.inr (ci, fs.set k v')) := by rw [a2, hset_at]
  refine ⟨a1, a2, ⟨fs.set k v', hat, by rw [List.length_set]; exact hl, ?_⟩, fun k2 v2 hn ⟨fs2, g1, g2, g3⟩ => ?_⟩
  · rw [List.getD_eq_getElem?_getD, List.getElem?_set_self hl]
    rfl
  · rw [hp] at g1
    have g1 : (ci, fs) = (ci, fs2) := Sum.inr.inj (Option.some.inj g1)
    have g1 : fs = fs2 := congrArg Prod.snd g1
    subst g1
    exact ⟨fs.set k v', hat, by rw [List.length_set]; exact g2, by rw [getD_set_ne (Ne.symm hn)]; exact g3⟩
end
/-- the sentences' places -/
def sN (B : Nat → Nat) (w : lW) : Prop := ∃ (cA : ClassId) (g : Nat → Option Nat), hof w.1 (B 1) = some (.inl (cA, 60, .inr (.inr (.inr (.inr g))))) ∧ ∀ i, i < 60 → g i = some (B (2 + 2 * i))
theorem sn_ix : ∀ i, i < 60 → ([(2, 0, 2), (2, 0, 4), (2, 0, 6), (2, 0, 8), (2, 0, 10), (2, 0, 12), (2, 0, 14), (2, 0, 16), (2, 0, 18), (2, 0, 20), (2, 0, 22), (2, 0, 24), (2, 0, 26), (2, 0, 28), (2, 0, 30), (2, 0, 32), (2, 0, 34), (2, 0, 36), (2, 0, 38), (2, 0, 40), (2, 0, 42), (2, 0, 44), (2, 0, 46), (2, 0, 48), (2, 0, 50), (2, 0, 52), (2, 0, 54), (2, 0, 56), (2, 0, 58), (2, 0, 60), (2, 0, 62), (2, 0, 64), (2, 0, 66), (2, 0, 68), (2, 0, 70), (2, 0, 72), (2, 0, 74), (2, 0, 76), (2, 0, 78), (2, 0, 80), (2, 0, 82), (2, 0, 84), (2, 0, 86), (2, 0, 88), (2, 0, 90), (2, 0, 92), (2, 0, 94), (2, 0, 96), (2, 0, 98), (2, 0, 100), (2, 0, 102), (2, 0, 104), (2, 0, 106), (2, 0, 108), (2, 0, 110), (2, 0, 112), (2, 0, 114), (2, 0, 116), (2, 0, 118), (2, 0, 120)] : List mk_V)[i]? = some (2, 0, 2 + 2 * i) := by decide +kernel
theorem sN.of {B : Nat → Nat} {w : lW} (hI : bI B w) {tys : List (ClassId × FieldType)} (hw : ck_wo tys cw_TT cw_SG w.1 w.2) : sN B w := by
  obtain ⟨e, h1, h2, h3⟩ := hI.2.h hI.1 bl_1
  obtain ⟨td, d1, d2⟩ := hw.2.1 1 _ e 18 h1 (hI.2.1 1 18 bt_1)
  have e1 : td = (3, 60, 3, [(2, 0, 0, [86])]) := Option.some.inj (d1.symm.trans (show cw_TT[18]? = some (3, 60, 3, [(2, 0, 0, [86])]) from rfl))
  subst e1
  obtain ⟨cA, C, f, -, rfl, -⟩ := d2
  exact ⟨cA, f, h2, fun i hi => h3.2 i _ (sn_ix i hi)⟩
theorem sN.keep {B : Nat → Nat} {rt : Nat} {Wr : List (Nat × Nat)} {T : fT} {cc : ByteArray} {As : List Value} {w w' : lW} {rv : Option Value} (hI : bI B w) (h : fLr (fq cw_TT cw_SG rt Wr T cc) As w rv w') (hk : bs_K.all (fun x => !(Wr.contains x)) = true) : sN B w' := by
  obtain ⟨tys, -, hw⟩ := h.2.2.2.2.1
  exact sN.of (hI.keep h hk) hw
theorem sN.upd {B : Nat → Nat} {w : lW} (hs : sN B w) (hI : bI B w) {p : Nat} {d : mk_C} {ws' : va_W} {sh' : List Nat} {e : va_E} (hd : lp_L2[p]? = some d) (hn : 1 ≠ p) (hh : hof ws' = hset (hof w.1) (B p) e) : sN B (ws', sh') := by
  obtain ⟨cA, g, h1, h2⟩ := hs
  refine ⟨cA, g, ?_, h2⟩
  show hof ws' (B 1) = _
  rw [hh, hset_ne (hI.2.ne hI.1 bl_1 hd hn)]
  exact h1
