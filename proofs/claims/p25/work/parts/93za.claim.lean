/-! claim -/
theorem bl_282 : lp_L2[282]? = some (0, 3, 17, [(1, 0, 0), (1, 0, 0), (2, 0, 283), (2, 0, 284), (2, 0, 285), (2, 0, 286), (2, 0, 287), (2, 0, 289), (2, 0, 291), (2, 0, 293), (2, 0, 294), (2, 0, 319), (2, 0, 320), (2, 0, 322), (2, 0, 323), (1, (-1), 0), (1, (-1), 0)]) := lp_at_ok (by decide +kernel)
theorem bt_282 : lp_sh[282]? = some 15 := by decide +kernel
theorem bl_283 : lp_L2[283]? = some (1, 0, 12, []) := lp_at_ok (by decide +kernel)
theorem bt_283 : lp_sh[283]? = some 34 := by decide +kernel
theorem bl_284 : lp_L2[284]? = some (1, 0, 12, []) := lp_at_ok (by decide +kernel)
theorem bt_284 : lp_sh[284]? = some 38 := by decide +kernel
theorem cR_sI {B : Nat → Nat} {c : mk_C} {e : va_E} (h : cR B c e) (h0 : c.1 ≠ 0) (hr : ∀ k r : Nat, c.2.2.2[k]? ≠ some (2, 0, r)) {i : Nat} {v : Int32} : cR B c (sI i v (some e)) := by
  cases e with
  | inr o => exact absurd h.1 h0
  | inl x =>
    obtain ⟨cA, n, a⟩ := x
    unfold sI
    split
    · exact ⟨h0, fun k r hk => absurd hk (hr k r)⟩
    · rename_i e' _ he'
      have he' : (Sum.inl (cA, n, a) : va_E) = e' := Option.some.inj he'
      subst he'
      exact ⟨h0, fun k r hk => absurd hk (hr k r)⟩
    · rename_i he'
      cases he'
/-- a number written into an array of ints that is there for good -/
theorem bI.wI {B : Nat → Nat} {w : lW} (hI : bI B w) {p : Nat} {c : mk_C} (hc : lp_L2[p]? = some c) (h0 : c.1 ≠ 0) (hr : ∀ k r : Nat, c.2.2.2[k]? ≠ some (2, 0, r)) {E : Value} (hE : E = .ref (B p)) {q : Nat} {e0 : va_E} (hq : w.1[q]? = some (rv_ E, e0)) {i : Nat} {v : Int32} : bI B (w.1.set q (rv_ E, sI i v (hof w.1 (rv_ E))), w.2) ∧ hof (w.1.set q (rv_ E, sI i v (hof w.1 (rv_ E)))) = hset (hof w.1) (B p) (sI i v (hof w.1 (rv_ E))) := by
  subst hE
  have hq : w.1[q]? = some (B p, e0) := hq
  obtain ⟨e, h1, h2, h3⟩ := hI.2.h hI.1 hc
  have he : cR B c (sI i v (hof w.1 (B p))) := by
    rw [h2]
    exact cR_sI h3 h0 hr
  exact hI.set hc hq he
theorem s_X11_isSource : f_do r_X11_isSource (fun As h rv h' => ∀ k : Int32, As = [.int k] → True → h' = h ∧ rv = some (.int (if 0 ≤ k.toInt ∧ k.toInt < 6 then 1 else 0))) := by
  refine do_ofP (fun k : Int32 => [.int k]) (fun _ _ => True) (fun k h rv h' => h' = h ∧ rv = some (.int (if 0 ≤ k.toInt ∧ k.toInt < 6 then 1 else 0))) [] (fun _ _ => []) 40 fo_X11 no_sp k_X11_isSource (fun _ _ _ => no_hd) (fun k h0 _ => ?_)
  have e6 : (Int32.ofInt 6).toInt = 6 := by decide
  have no : ¬ (0 ≤ k.toInt ∧ k.toInt < 6) → h0 = h0 ∧ some (Value.int 0) = some (.int (if 0 ≤ k.toInt ∧ k.toInt < 6 then 1 else 0)) := fun h => by
    rw [if_neg h]
    exact ⟨rfl, rfl⟩
  refine ⟨fun h1 => ?_, fun h1 => ⟨fun h2 => ?_, fun h2 => ?_⟩⟩
  · have h1 : k.toInt < 0 := h1
    exact no (by omega)
  · have h2 : (Int32.ofInt 6).toInt ≤ k.toInt := h2
    exact no (by omega)
  · have h1 : ¬ k.toInt < 0 := h1
    have h2 : ¬ (Int32.ofInt 6).toInt ≤ k.toInt := h2
    refine ⟨rfl, ?_⟩
    show some (Value.int 1) = some (.int (if 0 ≤ k.toInt ∧ k.toInt < 6 then 1 else 0))
    rw [if_pos (by omega)]
theorem s_X12_noSource : f_do r_X12_noSource (fun As h rv h' => ∀ k : Int32, As = [.int k] → True → h' = h ∧ rv = some (.int (if 0 ≤ k.toInt ∧ k.toInt < 6 then 0 else 1))) := by
  refine do_ofP (fun k : Int32 => [.int k]) (fun _ _ => True) (fun k h rv h' => h' = h ∧ rv = some (.int (if 0 ≤ k.toInt ∧ k.toInt < 6 then 0 else 1))) [(457, 3, _)] (fun _ _ => []) 40 fo_X12 (List.forall_mem_cons.mpr ⟨sp_one rfl s_X12_in, no_sp⟩) k_X12_noSource (fun _ _ _ => no_hd) (fun k h0 _ => ?_)
  have e0 : (Int64.ofNat 0).toInt = 0 := by decide
  have e5 : (Int64.ofInt 5).toInt = 5 := by decide
  intro rv h1 hx
  obtain ⟨e2, er⟩ := hx (k.toInt64, Int64.ofNat 0, Int64.ofInt 5) rfl trivial
  have e2 : h1 = h0 := e2
  subst h1
  have er : rv = some (.int (if (Int64.ofNat 0).toInt ≤ k.toInt64.toInt ∧ k.toInt64.toInt ≤ (Int64.ofInt 5).toInt then 1 else 0)) := er
  rw [e0, e5, Int32.toInt_toInt64] at er
  subst er
  refine ⟨fun h => ?_, fun h => ?_⟩
  · have h : ¬ (if 0 ≤ k.toInt ∧ k.toInt ≤ 5 then (1 : Int32) else 0).toInt = 0 := h
    have hy : 0 ≤ k.toInt ∧ k.toInt ≤ 5 := by
      by_cases z : 0 ≤ k.toInt ∧ k.toInt ≤ 5
      · exact z
      · rw [if_neg z] at h
        exact absurd rfl h
    refine ⟨rfl, ?_⟩
    show some (Value.int 0) = some (.int (if 0 ≤ k.toInt ∧ k.toInt < 6 then 0 else 1))
    rw [if_pos (by omega)]
  · have h : ¬ ¬ (if 0 ≤ k.toInt ∧ k.toInt ≤ 5 then (1 : Int32) else 0).toInt = 0 := h
    have hy : ¬ (0 ≤ k.toInt ∧ k.toInt ≤ 5) := fun z => h (by rw [if_pos z]; decide)
    refine ⟨rfl, ?_⟩
    show some (Value.int 1) = some (.int (if 0 ≤ k.toInt ∧ k.toInt < 6 then 0 else 1))
    rw [if_neg (by omega)]
theorem fo_X3 : f_ok5 fl_X3 pl_X3 nw_X3 kl_X3 il_X3 = true := by decide +kernel
abbrev ifA : Type := Nat × List Value × Int32 × Nat × ClassId × (Nat → Int32)
theorem s_X3_isFull : f_do r_X3_isFull (fun As h rv h' => ∀ a : ifA, As = [.ref a.1] → (h a.1 = some (.inr (3, a.2.1)) ∧ a.2.1.getD 0 .null = .int a.2.2.1 ∧ a.2.1.getD 2 .null = .ref a.2.2.2.1 ∧ h a.2.2.2.1 = some (.inl (a.2.2.2.2.1, 12, .inl a.2.2.2.2.2))) → h' = h ∧ rv = some (.int (if a.2.2.1.toInt < 12 then 0 else 1))) := by
  refine do_ofP (fun a : ifA => [.ref a.1]) (fun a h => h a.1 = some (.inr (3, a.2.1)) ∧ a.2.1.getD 0 .null = .int a.2.2.1 ∧ a.2.1.getD 2 .null = .ref a.2.2.2.1 ∧ h a.2.2.2.1 = some (.inl (a.2.2.2.2.1, 12, .inl a.2.2.2.2.2))) (fun a h rv h' => h' = h ∧ rv = some (.int (if a.2.2.1.toInt < 12 then 0 else 1))) [] (fun _ _ => []) 40 fo_X3 no_sp k_X3_isFull (fun _ _ _ => no_hd) (fun a h0 hp => ?_)
  obtain ⟨p, fs, c, aS, cA, g⟩ := a
  obtain ⟨hp, hc, hs, ha⟩ := hp
  have hp : h0 p = some (.inr (3, fs)) := hp
  have hc : fs.getD 0 .null = .int c := hc
  have hs : fs.getD 2 .null = .ref aS := hs
  have ha : h0 aS = some (.inl (cA, 12, .inl g)) := ha
  have g1 : eG fl_X3 69 (h0 p) = .int c := by
    rw [hp, ← hc]
    rfl
  have g2 : eG fl_X3 9 (h0 p) = .ref aS := by
    rw [hp, ← hs]
    rfl
  have e12 : (Int32.ofNat 12).toInt = 12 := by decide
  refine ⟨fun h => ?_, fun h => ?_⟩
  · have h : (iv (eG fl_X3 69 (h0 p))).toInt < (Int32.ofNat (eL (h0 (rv_ (eG fl_X3 9 (h0 p)))))).toInt := h
    rw [g1, g2] at h
    have h : c.toInt < (Int32.ofNat (eL (h0 aS))).toInt := h
    rw [ha] at h
    have h : c.toInt < (Int32.ofNat 12).toInt := h
    refine ⟨rfl, ?_⟩
    show some (Value.int 0) = some (.int (if c.toInt < 12 then 0 else 1))
    rw [if_pos (by omega)]
  · have h : ¬ (iv (eG fl_X3 69 (h0 p))).toInt < (Int32.ofNat (eL (h0 (rv_ (eG fl_X3 9 (h0 p)))))).toInt := h
    rw [g1, g2] at h
    have h : ¬ c.toInt < (Int32.ofNat (eL (h0 aS))).toInt := h
    rw [ha] at h
    have h : ¬ c.toInt < (Int32.ofNat 12).toInt := h
    refine ⟨rfl, ?_⟩
    show some (Value.int 1) = some (.int (if c.toInt < 12 then 0 else 1))
    rw [if_neg (by omega)]
/-- the claims' count over whole worlds -/
def qI (B : Nat → Nat) (m : Int32) (w : lW) : Prop := bI B w ∧ oF B 282 3 0 (.int m) w
theorem qI.keep {B : Nat → Nat} {m : Int32} {rt : Nat} {Wr : List (Nat × Nat)} {T : fT} {cc : ByteArray} {As : List Value} {w w' : lW} {rv : Option Value} (hI : qI B m w) (h : fLr (fq cw_TT cw_SG rt Wr T cc) As w rv w') (hk : bs_K.all (fun x => !(Wr.contains x)) = true) (hw : (15, 0) ∉ Wr) : qI B m w' :=
  ⟨hI.1.keep h hk, hI.2.keep hI.1 h bl_282 bt_282 hw⟩
abbrev qkA : Type := (Nat → Nat) × Int32 × Int32 × Int32 × Nat
def qk_F : qkA → List Value := fun (B, _, s, source, u) => [.ref (B 282), .int s, .int source, .ref u]
def qk_P : qkA → lW → Prop := fun (B, m, _, _, _) w => qI B m w ∧ m.toInt < 12 ∧ ∃ f, aI B 283 12 f w
def qk_Q : qkA → lW → Option Value → lW → Prop := fun (B, m, _, _, _) _ rv w' => rv = some (.int m) ∧ oF B 282 3 0 (.int (m + 1)) w'
def in_q25 (B : Nat → Nat) (m s source : Int32) (u : Nat) : fL_ → List Value → lW → Prop := fun lg vs w => f_sub [(0, false, .ref (B 282)), (1, false, .int s), (2, false, .int source), (3, false, .ref u)] lg ∧ vs = [] ∧ qI B m w
def in_q59 (B : Nat → Nat) (m : Int32) : fL_ → List Value → lW → Prop := fun lg vs w => f_sub [(0, false, .ref (B 282))] lg ∧ vs = [] ∧ oF B 282 3 0 (.int (m + 1)) w
def qk_hd : qkA → lW → fI lW := fun (B, m, s, source, u) _ => [(25, in_q25 B m s source u), (35, in_q25 B m s source u), (58, in_q59 B m)]
def Sp_qk : fP lW := [(216, 2, fLr r_X1_become)]
theorem Sp_qk_ok : f_sp T_X3_keep Sp_qk wW := List.forall_mem_cons.mpr ⟨sp_w rfl (fun _ _ _ _ _ _ h => h.2.2.1), fun _ h => absurd h List.not_mem_nil⟩
section
variable {B : Nat → Nat} {m s source : Int32} {u : Nat} {w0 : lW}
theorem bR {B : Nat → Nat} {q ci k : Nat} {v : Value} {c : mk_C} {w : lW} {fl : List (Nat × Nat × Nat)} {i k2 r : Nat} (ho : oF B q ci k v w) (hI : bI B w) (hc : lp_L2[q]? = some c) (hr : c.2.2.2[k2]? = some (2, 0, r)) (hk : kfd fl i ci = k2) : eG fl i (hof w.1 (B q)) = .ref (B r) := (ho.ref hI hc hr).get hk
set_option maxHeartbeats 4000000 in
theorem qk_h25 : ∀ (lg : fL_) (vs : List Value) (w : lW), in_q25 B m s source u lg vs w → ∃ (L : fL_) (f : Nat), f_sub L lg ∧ wh oW T_X3_keep Sp_qk (qk_Q (B, m, s, source, u) w0) K_X3_keep (qk_hd (B, m, s, source, u) w0) f 25 L vs w := by
  rintro lg vs w ⟨hs, rfl, hI⟩
  refine ⟨_, 40, hs, ?_⟩
  intro q e0 hq
  obtain ⟨b1, b2⟩ := hI.1.wI bl_284 (by decide) (fun k r h => by cases h) (bR (fl := fl_X3) (i := 15) (k2 := 3) (r := 284) hI.2 hI.1 bl_282 rfl rfl) hq
  exact ⟨⟨rfl, rfl, rfl, rfl, trivial⟩, rfl, b1, hI.2.upd hI.1 bl_282 bl_284 (by decide) b2⟩
set_option maxHeartbeats 4000000 in
theorem qk_h35 : ∀ (lg : fL_) (vs : List Value) (w : lW), in_q25 B m s source u lg vs w → ∃ (L : fL_) (f : Nat), f_sub L lg ∧ wh oW T_X3_keep Sp_qk (qk_Q (B, m, s, source, u) w0) K_X3_keep (qk_hd (B, m, s, source, u) w0) f 35 L vs w := by
  rintro lg vs w ⟨hs, rfl, hI⟩
  refine ⟨_, 40, hs, ?_⟩
  intro rv w1 hx
  have hx : fLr r_X1_become _ w rv w1 := hx
  have hI1 := hI.keep hx (by decide) (by decide)
  obtain rfl : rv = none := hx.2.2.2.2.2
  intro q e0 hq
  have hq : w1.1[q]? = some (B 282, e0) := hq
  obtain ⟨-, -, b3, -⟩ := oF.put (v' := .int (m + 1)) (i := 69) (pl := pl_X3) hI1.1 hI1.2 bl_282 hq rfl (fun r h => by have h : some ((1, 0, 0) : mk_V) = some (2, 0, r) := h; cases h)
  have e1 : Value.int (iv (eG fl_X3 69 (hof w1.1 (B 282))) + 1) = .int (m + 1) := by
    rw [hI1.2.get (show kfd fl_X3 69 3 = 0 from rfl)]
    rfl
  refine ⟨⟨rfl, trivial⟩, rfl, ?_⟩
  show oF B 282 3 0 (.int (m + 1)) (w1.1.set q (B 282, sG pl_X3 69 (.int (iv (eG fl_X3 69 (hof w1.1 (B 282))) + 1)) (hof w1.1 (B 282))), w1.2)
  rw [e1]
  exact b3
theorem qk_h58 : ∀ (lg : fL_) (vs : List Value) (w : lW), in_q59 B m lg vs w → ∃ (L : fL_) (f : Nat), f_sub L lg ∧ wh oW T_X3_keep Sp_qk (qk_Q (B, m, s, source, u) w0) K_X3_keep (qk_hd (B, m, s, source, u) w0) f 58 L vs w := by
  rintro lg vs w ⟨hs, rfl, hI⟩
  refine ⟨_, 40, hs, ?_⟩
  show some (Value.int (iv (eG fl_X3 69 (hof w.1 (B 282))) - 1)) = some (.int m) ∧ oF B 282 3 0 (.int (m + 1)) w
  rw [hI.get (show kfd fl_X3 69 3 = 0 from rfl)]
  refine ⟨?_, hI⟩
  show some (Value.int (m + 1 - 1)) = some (.int m)
  rw [Int32.add_sub_cancel]
end
theorem s_X3_keep : ∀ (a : qkA) (w w' : lW) (rv : Option Value), fLr r_X3_keep (qk_F a) w rv w' → qk_P a w → qk_Q a w rv w' := by
  refine do_ofW qk_F qk_P qk_Q Sp_qk qk_hd 40 fo_X3 Sp_qk_ok k_X3_keep (fun a w0 hp => ?_) (fun a w0 hp hd0 => ?_)
  · obtain ⟨B, m, s, source, u⟩ := a
    exact List.forall_mem_cons.mpr ⟨qk_h25, List.forall_mem_cons.mpr ⟨qk_h35, List.forall_mem_cons.mpr ⟨qk_h58, fun _ h => absurd h List.not_mem_nil⟩⟩⟩
  · obtain ⟨B, m, s, source, u⟩ := a
    obtain ⟨hI, hm, f, cA, ha⟩ := hp
    have e12 : (Int32.ofNat 12).toInt = 12 := by decide
    have g1 : eG fl_X3 69 (hof w0.1 (B 282)) = .int m := hI.2.get rfl
    have g2 : eG fl_X3 9 (hof w0.1 (B 282)) = .ref (B 283) := bR hI.2 hI.1 bl_282 rfl rfl
    refine ⟨fun h => ?_, fun h => ?_⟩
    · intro q e0 hq
      obtain ⟨b1, b2⟩ := hI.1.wI bl_283 (by decide) (fun k r h => by cases h) g2 hq
      exact ⟨⟨rfl, rfl, rfl, rfl, trivial⟩, rfl, b1, hI.2.upd hI.1 bl_282 bl_283 (by decide) b2⟩
    · have h : ¬ (iv (eG fl_X3 69 (hof w0.1 (B 282)))).toInt < (Int32.ofNat (eL (hof w0.1 (rv_ (eG fl_X3 9 (hof w0.1 (B 282))))))).toInt := h
      rw [g1, g2] at h
      have h : ¬ m.toInt < (Int32.ofNat (eL (hof w0.1 (B 283)))).toInt := h
      rw [ha] at h
      have h : ¬ m.toInt < (Int32.ofNat 12).toInt := h
      omega
def clQ (s source c m v m' : Int32) : Prop :=
  if (0 ≤ s.toInt ∧ s.toInt < c.toInt) ∧ (0 ≤ source.toInt ∧ source.toInt < 6) then
    if m.toInt = 12 then v = -4 ∧ m' = m else v = m ∧ m' = m + 1
  else v = -1 ∧ m' = m
theorem clQ_eq {s source c m v v2 m1 m2 : Int32} (h1 : clQ s source c m v m1) (h2 : clQ s source c m v2 m2) : v = v2 ∧ m1 = m2 := by
  unfold clQ at h1 h2
  split at h1
  · rename_i a1
    rw [if_pos a1] at h2
    split at h1
    · rename_i a2
      rw [if_pos a2] at h2
      exact ⟨h1.1.trans h2.1.symm, h1.2.trans h2.2.symm⟩
    · rename_i a2
      rw [if_neg a2] at h2
      exact ⟨h1.1.trans h2.1.symm, h1.2.trans h2.2.symm⟩
  · rename_i a1
    rw [if_neg a1] at h2
    exact ⟨h1.1.trans h2.1.symm, h1.2.trans h2.2.symm⟩
abbrev qcA : Type := (Nat → Nat) × Int32 × Int32 × Int32 × Int32
def qc_F : qcA → List Value := fun (B, _, _, s, source) => [.ref (B 0), .int s, .int source]
def qc_P : qcA → lW → Prop := fun (B, c, m, _, _) w => nS B c w ∧ qI B m w ∧ (0 ≤ c.toInt ∧ c.toInt ≤ 60) ∧ m.toInt ≤ 12 ∧ ∃ f, aI B 283 12 f w
def qcO (B : Nat → Nat) (c m s source : Int32) (rv : Option Value) (w' : lW) : Prop := ∃ v m' : Int32, rv = some (.int v) ∧ oF B 282 3 0 (.int m') w' ∧ clQ s source c m v m'
def qc_Q : qcA → lW → Option Value → lW → Prop := fun (B, c, m, s, source) _ rv w' => qcO B c m s source rv w'
def Sp_qc : fP lW := [(381, 2, fLr r_X11_sentenceAt), (487, 1, fLr r_X11_isSource), (1041, 1, fLr r_X3_isFull), (1044, 4, fLr r_X3_keep)]
theorem Sp_qc_ok : f_sp T_X11_claim Sp_qc wW := List.forall_mem_cons.mpr ⟨sp_w rfl (fun _ _ _ _ _ _ h => h.2.2.1), List.forall_mem_cons.mpr ⟨sp_w rfl (fun _ _ _ _ _ _ h => h.2.2.1), List.forall_mem_cons.mpr ⟨sp_w rfl (fun _ _ _ _ _ _ h => h.2.2.1), List.forall_mem_cons.mpr ⟨sp_w rfl (fun _ _ _ _ _ _ h => h.2.2.1), fun _ h => absurd h List.not_mem_nil⟩⟩⟩⟩
set_option maxHeartbeats 4000000 in
theorem s_X11_claim : ∀ (a : qcA) (w w' : lW) (rv : Option Value), fLr r_X11_claim (qc_F a) w rv w' → qc_P a w → qc_Q a w rv w' := by
  refine do_ofW qc_F qc_P qc_Q Sp_qc (fun _ _ => []) 60 fo_X11 Sp_qc_ok k_X11_claim (fun _ _ _ => no_hd) (fun a w0 hp hd0 => ?_)
  obtain ⟨B, c, m, s, source⟩ := a
  obtain ⟨hn, hI, hc60, hm, f, ha⟩ := hp
  have unk : ∀ {w : lW}, qI B m w → ¬ ((0 ≤ s.toInt ∧ s.toInt < c.toInt) ∧ (0 ≤ source.toInt ∧ source.toInt < 6)) → qcO B c m s source (some (.int (-1))) w := by
    intro w hI hx
    refine ⟨-1, m, rfl, hI.2, ?_⟩
    unfold clQ
    rw [if_neg hx]
    exact ⟨rfl, rfl⟩
  intro rv w1 hx
  have hx : fLr r_X11_sentenceAt [.ref (B 0), .int s] w0 rv w1 := hx
  obtain ⟨rfl, hn1⟩ := cl_at hn hc60.2 hx
  have hI1 := hI.keep hx (by decide) (by decide)
  have ha1 := ha.keep hI.1 hx bl_283 bt_283 (by decide) (by decide)
  refine ⟨fun h1 => ?_, fun h1 => ?_⟩
  · have h1 : at_ B c s = .null := h1
    exact unk hI1 (fun z => at_nul.mp h1 z.1)
  have h1 : ¬ at_ B c s = .null := h1
  have hs : 0 ≤ s.toInt ∧ s.toInt < c.toInt := Classical.byContradiction fun z => h1 (at_nul.mpr z)
  intro rv w2 hx2
  have hx2 : fLr r_X11_isSource [.int source] w1 rv w2 := hx2
  have hI2 := hI1.keep hx2 (by decide) (by decide)
  have ha2 := ha1.keep hI1.1 hx2 bl_283 bt_283 (by decide) (by decide)
  have hn2 := hn1.keep hx2 (by decide) (by decide)
  obtain ⟨-, rfl⟩ := (s_X11_isSource _ _ _ _ _ _ hx2).2 source rfl trivial
  refine ⟨fun h2 => ?_, fun h2 => ?_⟩
  rotate_left
  · have h2 : ¬ ¬ (if 0 ≤ source.toInt ∧ source.toInt < 6 then (1 : Int32) else 0).toInt = 0 := h2
    exact unk hI2 (fun z => h2 (by rw [if_pos z.2]; decide))
  have h2 : ¬ (if 0 ≤ source.toInt ∧ source.toInt < 6 then (1 : Int32) else 0).toInt = 0 := h2
  have h6 : 0 ≤ source.toInt ∧ source.toInt < 6 := by
    by_cases z : 0 ≤ source.toInt ∧ source.toInt < 6
    · exact z
    · rw [if_neg z] at h2
      exact absurd rfl h2
  have g1 : eG fl_X11 55 (hof w2.1 (B 0)) = .ref (B 282) := bR hn2.2.2 hn2.1 bl_0 rfl rfl
  intro rv w3 hx3
  have hx3 : fLr r_X3_isFull [eG fl_X11 55 (hof w2.1 (B 0))] w2 rv w3 := hx3
  rw [g1] at hx3
  have hI3 := hI2.keep hx3 (by decide) (by decide)
  have ha3 := ha2.keep hI2.1 hx3 bl_283 bt_283 (by decide) (by decide)
  have hn3 := hn2.keep hx3 (by decide) (by decide)
  obtain ⟨fs, hp, hl, hv⟩ := id hI2.2
  obtain ⟨fs2, hp2, -, hs2⟩ := hI2.2.ref hI2.1 bl_282 (show _ = some (2, 0, 283) from rfl) (k' := 2)
  have e : fs = fs2 := congrArg Prod.snd (Sum.inr.inj (Option.some.inj (hp.symm.trans hp2)))
  subst e
  obtain ⟨cA, ha2'⟩ := ha2
  obtain ⟨-, er⟩ := (s_X3_isFull _ _ _ _ _ _ hx3).2 (B 282, fs, m, B 283, cA, f) rfl ⟨hp, hv, hs2, ha2'⟩
  have er : rv = some (.int (if m.toInt < 12 then 0 else 1)) := er
  subst er
  refine ⟨fun h3 => ?_, fun h3 => ?_⟩
  rotate_left
  · have h3 : ¬ (if m.toInt < 12 then (0 : Int32) else 1).toInt = 0 := h3
    have hm2 : ¬ m.toInt < 12 := fun z => h3 (by rw [if_pos z]; decide)
    refine ⟨-4, m, rfl, hI3.2, ?_⟩
    unfold clQ
    rw [if_pos ⟨hs, h6⟩, if_pos (by omega)]
    exact ⟨rfl, rfl⟩
  have h3 : (if m.toInt < 12 then (0 : Int32) else 1).toInt = 0 := h3
  have hm2 : m.toInt < 12 := by
    by_cases z : m.toInt < 12
    · exact z
    · rw [if_neg z] at h3
      exact absurd h3 (by decide)
  have g3 : eG fl_X11 55 (hof w3.1 (B 0)) = .ref (B 282) := bR hn3.2.2 hn3.1 bl_0 rfl rfl
  intro rv w4 hx4
  have hx4 : fLr r_X3_keep [eG fl_X11 55 (hof w3.1 (B 0)), .int s, .int source, at_ B c s] w3 rv w4 := hx4
  rw [g3, at_ref hs] at hx4
  obtain ⟨rfl, b1⟩ := s_X3_keep (B, m, s, source, B (2 + 2 * s.toInt.toNat)) w3 w4 rv hx4 ⟨hI3, hm2, f, ha3⟩
  refine ⟨m, m + 1, rfl, b1, ?_⟩
  unfold clQ
  rw [if_pos ⟨hs, h6⟩, if_neg (by omega)]
  exact ⟨rfl, rfl⟩
/-! claim: the reference's -/
abbrev qmA : Type := (Nat × List Value × Int32 × Int32) × (Nat × Nat) × Int32 × Int32
def qm_F : qmA → List Value := fun ((p, _, _, _), _, s, source) => [.ref p, .int s, .int source]
def qm_P : qmA → fH → Prop := fun ((p, fs, c, m), (a1, a2), _, _) h => h p = some (.inr (12, fs)) ∧ (fs.getD 1 .null = .int c ∧ fs.getD 40 .null = .int m ∧ fs.getD 41 .null = .ref a1 ∧ fs.getD 42 .null = .ref a2 ∧ fs.length = 68) ∧ p ≠ a1 ∧ p ≠ a2
def qmO (p : Nat) (c m s source : Int32) (rv : Option Value) (h' : fH) : Prop := ∃ v m' : Int32, rv = some (.int v) ∧ (∃ fs' : List Value, h' p = some (.inr (12, fs')) ∧ 40 < fs'.length ∧ fs'.getD 40 .null = .int m') ∧ clQ s source c m v m'
def qm_Q : qmA → fH → Option Value → fH → Prop := fun ((p, _, c, m), _, s, source) _ rv h' => qmO p c m s source rv h'
def qm_g (c m s source : Int32) : Prop := ((0 ≤ s.toInt ∧ s.toInt < c.toInt) ∧ (0 ≤ source.toInt ∧ source.toInt < 6)) ∧ ¬ m.toInt = 12
def in_qm (p : Nat) (fs : List Value) (c m s source : Int32) : fL_ → List Value → fH → Prop := fun lg vs w => f_sub [(0, false, .ref p), (1, false, .int s), (2, false, .int source)] lg ∧ vs = [] ∧ w p = some (.inr (12, fs)) ∧ qm_g c m s source
def qm_hd : qmA → fH → fI fH := fun ((p, fs, c, m), _, s, source) _ => [(39, in_qm p fs c m s source), (49, in_qm p fs c m s source), (59, in_qm p (fs.set 40 (.int (m + 1))) c m s source), (64, in_qm p ((fs.set 40 (.int (m + 1))).set 43 (.int 0)) c m s source)]
def Pi_noSource : fPh := fun As h rv h' => ∀ k : Int32, As = [.int k] → True → h' = h ∧ rv = some (.int (if 0 ≤ k.toInt ∧ k.toInt < 6 then 0 else 1))
def SpQM : fP fH := [(669, 2, Pi_noSentence), (727, 1, Pi_noSource)]
theorem SpQM_ok : f_sp T_X12_claim SpQM wH := List.forall_mem_cons.mpr ⟨sp_one rfl (show f_do r_X12_noSentence Pi_noSentence from s_X12_noSentence), List.forall_mem_cons.mpr ⟨sp_one rfl (show f_do r_X12_noSource Pi_noSource from s_X12_noSource), no_sp⟩⟩
section
variable {p a1 a2 : Nat} {fs : List Value} {c m s source : Int32} {h0 : fH}
set_option maxHeartbeats 4000000 in
theorem qm_en (hp : h0 p = some (.inr (12, fs))) (hc : fs.getD 1 .null = .int c) (hm : fs.getD 40 .null = .int m) (h41 : fs.getD 41 .null = .ref a1) (hl : fs.length = 68) (n1 : p ≠ a1) : wl oH T_X12_claim SpQM (qm_Q ((p, fs, c, m), (a1, a2), s, source) h0) K_X12_claim (qm_hd ((p, fs, c, m), (a1, a2), s, source) h0) 40 K_X12_claim 0 (la 0 (qm_F ((p, fs, c, m), (a1, a2), s, source))) [] h0 := by
  have e12 : (Int32.ofInt 12).toInt = 12 := by decide
  have unk : ¬ ((0 ≤ s.toInt ∧ s.toInt < c.toInt) ∧ (0 ≤ source.toInt ∧ source.toInt < 6)) → qmO p c m s source (some (.int (-1))) h0 := by
    intro hx
    refine ⟨-1, m, rfl, ⟨fs, hp, by omega, hm⟩, ?_⟩
    unfold clQ
    rw [if_neg hx]
    exact ⟨rfl, rfl⟩
  intro rv h1 hx
  obtain ⟨e1, rfl⟩ := hx (p, fs, c, s) rfl ⟨hp, hc⟩
  have e1 : h1 = h0 := e1
  subst h1
  refine ⟨fun h => ?_, fun h => ?_⟩
  · have h : ¬ (if 0 ≤ s.toInt ∧ s.toInt < c.toInt then (0 : Int32) else 1).toInt = 0 := h
    exact unk (fun z => h (by rw [if_pos z.1]; decide))
  have h : ¬ ¬ (if 0 ≤ s.toInt ∧ s.toInt < c.toInt then (0 : Int32) else 1).toInt = 0 := h
  have hs : 0 ≤ s.toInt ∧ s.toInt < c.toInt := by
    by_cases z : 0 ≤ s.toInt ∧ s.toInt < c.toInt
    · exact z
    · rw [if_neg z] at h
      exact absurd (by decide) h
  intro rv h1 hx
  obtain ⟨e1, rfl⟩ := hx source rfl trivial
  have e1 : h1 = h0 := e1
  subst h1
  refine ⟨fun h => ?_, fun h => ?_⟩
  rotate_left
  · have h : ¬ (if 0 ≤ source.toInt ∧ source.toInt < 6 then (0 : Int32) else 1).toInt = 0 := h
    exact unk (fun z => h (by rw [if_pos z.2]; decide))
  have h : (if 0 ≤ source.toInt ∧ source.toInt < 6 then (0 : Int32) else 1).toInt = 0 := h
  have h6 : 0 ≤ source.toInt ∧ source.toInt < 6 := by
    by_cases z : 0 ≤ source.toInt ∧ source.toInt < 6
    · exact z
    · rw [if_neg z] at h
      exact absurd h (by decide)
  have g1 : eG fl_X12 401 (h0 p) = .int m := by
    rw [hp, ← hm]
    rfl
  have g2 : eG fl_X12 77 (h0 p) = .ref a1 := by
    rw [hp, ← h41]
    rfl
  refine ⟨fun h => ?_, fun h => ?_⟩
  · have h : ¬ (iv (eG fl_X12 401 (h0 p))).toInt = (Int32.ofInt 12).toInt := h
    rw [g1, e12] at h
    have h : ¬ m.toInt = 12 := h
    refine ⟨⟨rfl, rfl, rfl, trivial⟩, rfl, ?_, ⟨hs, h6⟩, h⟩
    show hset h0 (rv_ (eG fl_X12 77 (h0 p))) _ p = some (.inr (12, fs))
    rw [g2]
    show hset h0 a1 _ p = some (.inr (12, fs))
    rw [hset_ne n1]
    exact hp
  · have h : ¬ ¬ (iv (eG fl_X12 401 (h0 p))).toInt = (Int32.ofInt 12).toInt := h
    rw [g1, e12] at h
    have h : ¬ ¬ m.toInt = 12 := h
    refine ⟨-4, m, rfl, ⟨fs, hp, by omega, hm⟩, ?_⟩
    unfold clQ
    rw [if_pos ⟨hs, h6⟩, if_pos (by omega)]
    exact ⟨rfl, rfl⟩
set_option maxHeartbeats 4000000 in
theorem qm_h39 (h42 : fs.getD 42 .null = .ref a2) (n2 : p ≠ a2) : ∀ (lg : fL_) (vs : List Value) (w : fH), in_qm p fs c m s source lg vs w → ∃ (L : fL_) (f : Nat), f_sub L lg ∧ wh oH T_X12_claim SpQM (qm_Q ((p, fs, c, m), (a1, a2), s, source) h0) K_X12_claim (qm_hd ((p, fs, c, m), (a1, a2), s, source) h0) f 39 L vs w := by
  rintro lg vs w ⟨hs, rfl, hw, hg⟩
  have hw : w p = some (.inr (12, fs)) := hw
  have g2 : eG fl_X12 80 (w p) = .ref a2 := by
    rw [hw, ← h42]
    rfl
  refine ⟨_, 40, hs, ⟨rfl, rfl, rfl, trivial⟩, rfl, ?_, hg⟩
  show hset w (rv_ (eG fl_X12 80 (w p))) _ p = some (.inr (12, fs))
  rw [g2]
  show hset w a2 _ p = some (.inr (12, fs))
  rw [hset_ne n2]
  exact hw
set_option maxHeartbeats 4000000 in
theorem qm_h49 (hm : fs.getD 40 .null = .int m) : ∀ (lg : fL_) (vs : List Value) (w : fH), in_qm p fs c m s source lg vs w → ∃ (L : fL_) (f : Nat), f_sub L lg ∧ wh oH T_X12_claim SpQM (qm_Q ((p, fs, c, m), (a1, a2), s, source) h0) K_X12_claim (qm_hd ((p, fs, c, m), (a1, a2), s, source) h0) f 49 L vs w := by
  rintro lg vs w ⟨hs, rfl, hw, hg⟩
  have hw : w p = some (.inr (12, fs)) := hw
  refine ⟨_, 40, hs, ⟨rfl, rfl, rfl, trivial⟩, rfl, ?_, hg⟩
  show hset w p (sG pl_X12 401 (.int (iv (eG fl_X12 401 (w p)) + 1)) (w p)) p = some (.inr (12, fs.set 40 (.int (m + 1))))
  rw [hset_at, hw]
  show some (Sum.inr (12, fs.set 40 (.int (iv (fs.getD 40 .null) + 1)))) = _
  rw [hm]
  rfl
set_option maxHeartbeats 4000000 in
theorem qm_h59 : ∀ (lg : fL_) (vs : List Value) (w : fH), in_qm p (fs.set 40 (.int (m + 1))) c m s source lg vs w → ∃ (L : fL_) (f : Nat), f_sub L lg ∧ wh oH T_X12_claim SpQM (qm_Q ((p, fs, c, m), (a1, a2), s, source) h0) K_X12_claim (qm_hd ((p, fs, c, m), (a1, a2), s, source) h0) f 59 L vs w := by
  rintro lg vs w ⟨hs, rfl, hw, hg⟩
  have hw : w p = some (.inr (12, fs.set 40 (.int (m + 1)))) := hw
  refine ⟨_, 40, hs, ⟨rfl, rfl, rfl, trivial⟩, rfl, ?_, hg⟩
  show hset w p (sG pl_X12 250 (.int (Int32.ofInt 0)) (w p)) p = some (.inr (12, (fs.set 40 (.int (m + 1))).set 43 (.int 0)))
  rw [hset_at, hw]
  rfl
set_option maxHeartbeats 4000000 in
theorem qm_h64 (hl : fs.length = 68) : ∀ (lg : fL_) (vs : List Value) (w : fH), in_qm p ((fs.set 40 (.int (m + 1))).set 43 (.int 0)) c m s source lg vs w → ∃ (L : fL_) (f : Nat), f_sub L lg ∧ wh oH T_X12_claim SpQM (qm_Q ((p, fs, c, m), (a1, a2), s, source) h0) K_X12_claim (qm_hd ((p, fs, c, m), (a1, a2), s, source) h0) f 64 L vs w := by
  rintro lg vs w ⟨hs, rfl, hw, hg⟩
  have hw : w p = some (.inr (12, (fs.set 40 (.int (m + 1))).set 43 (.int 0))) := hw
  have gv : ((fs.set 40 (.int (m + 1))).set 43 (.int 0)).getD 40 .null = .int (m + 1) := by
    rw [getD_set_ne (by decide), List.getD_eq_getElem?_getD, List.getElem?_set_self (by omega)]
    rfl
  refine ⟨_, 40, hs, ?_⟩
  show qmO p c m s source (some (.int (iv (eG fl_X12 401 (w p)) - 1))) w
  refine ⟨m, m + 1, ?_, ⟨_, hw, by rw [List.length_set, List.length_set]; omega, gv⟩, ?_⟩
  · rw [hw]
    show some (Value.int (iv (((fs.set 40 (.int (m + 1))).set 43 (.int 0)).getD 40 .null) - 1)) = some (.int m)
    rw [gv]
    show some (Value.int (m + 1 - 1)) = some (.int m)
    rw [Int32.add_sub_cancel]
  · unfold clQ
    rw [if_pos hg.1, if_neg hg.2]
    exact ⟨rfl, rfl⟩
end
theorem s_X12_claim : f_do r_X12_claim (fun As h rv h' => ∀ a : qmA, As = qm_F a → qm_P a h → qm_Q a h rv h') := by
  refine do_ofP qm_F qm_P qm_Q SpQM qm_hd 40 fo_X12 SpQM_ok k_X12_claim (fun a h0 hp => ?_) (fun a h0 hp => ?_)
  · obtain ⟨⟨p, fs, c, m⟩, ⟨a1, a2⟩, s, source⟩ := a
    obtain ⟨hp, ⟨hc, hm, h41, h42, hl⟩, n1, n2⟩ := hp
    exact List.forall_mem_cons.mpr ⟨qm_h39 h42 n2, List.forall_mem_cons.mpr ⟨qm_h49 hm, List.forall_mem_cons.mpr ⟨qm_h59, List.forall_mem_cons.mpr ⟨qm_h64 hl, fun _ h => absurd h List.not_mem_nil⟩⟩⟩⟩
  · obtain ⟨⟨p, fs, c, m⟩, ⟨a1, a2⟩, s, source⟩ := a
    obtain ⟨hp, ⟨hc, hm, h41, h42, hl⟩, n1, n2⟩ := hp
    exact qm_en hp hc hm h41 hl n1
