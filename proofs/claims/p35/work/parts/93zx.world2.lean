/-! worlds, truth, compare: the class's -/
theorem cl_size {B : Nat → Nat} {C : Nat} {W1 : Nat → Nat → Int64} {w1 w2 : lW} {rv : Option Value} (hx : fLr r_X1_size [.ref (B (2 + 2 * C))] w1 rv w2) (hI : bI B w1) (hW : wS B W1 w1) (hC : C < 60) : rv = some (.int (szA bcV (W1 C) 4)) := by
  obtain ⟨tys, hw, -⟩ := hx.2.2.2.2.1
  obtain ⟨fs1, c1, b1⟩ := hW.bx hI hw hC
  exact ((s_X1_size _ _ _ _ _ _ hx).2 _ rfl b1).2
theorem cl_within {B : Nat → Nat} {C D : Nat} {W1 : Nat → Nat → Int64} {w1 w2 : lW} {rv : Option Value} (hx : fLr r_X1_within [.ref (B (2 + 2 * C)), .ref (B (2 + 2 * D))] w1 rv w2) (hI : bI B w1) (hW : wS B W1 w1) (hC : C < 60) (hD : D < 60) : rv = some (.int (wv (allB o_in (W1 C) (W1 D) 4))) := by
  obtain ⟨tys, hw, -⟩ := hx.2.2.2.2.1
  obtain ⟨fs1, c1, b1⟩ := hW.bx hI hw hC
  obtain ⟨fs2, c2, b2⟩ := hW.bx hI hw hD
  exact ((s_X1_within _ _ _ _ _ _ hx).2 (_, _) rfl ⟨b1, b2⟩).2
theorem cl_apart {B : Nat → Nat} {C D : Nat} {W1 : Nat → Nat → Int64} {w1 w2 : lW} {rv : Option Value} (hx : fLr r_X1_apart [.ref (B (2 + 2 * C)), .ref (B (2 + 2 * D))] w1 rv w2) (hI : bI B w1) (hW : wS B W1 w1) (hC : C < 60) (hD : D < 60) : rv = some (.int (wv (allB o_meet (W1 C) (W1 D) 4))) := by
  obtain ⟨tys, hw, -⟩ := hx.2.2.2.2.1
  obtain ⟨fs1, c1, b1⟩ := hW.bx hI hw hC
  obtain ⟨fs2, c2, b2⟩ := hW.bx hI hw hD
  exact ((s_X1_apart _ _ _ _ _ _ hx).2 (_, _) rfl ⟨b1, b2⟩).2
abbrev w1A : Type := ((Nat → Nat) × Int32 × (Nat → Nat → Int64)) × Int32
def w1_F : w1A → List Value := fun ((B, _, _), s) => [.ref (B 0), .int s]
def w1_P : w1A → lW → Prop := fun ((B, c, W), _) w => nS B c w ∧ wS B W w ∧ 0 ≤ c.toInt ∧ c.toInt ≤ 60
def w1V (c s v : Int32) : Int32 := if 0 ≤ s.toInt ∧ s.toInt < c.toInt then v else -1
def w1_Q : w1A → lW → Option Value → lW → Prop := fun ((_, c, W), s) _ rv _ => rv = some (.int (w1V c s (szA bcV (W s.toInt.toNat) 4)))
def Sp_w1 : fP lW := [(381, 2, fLr r_X11_sentenceAt), (438, 1, fLr r_X1_size)]
theorem Sp_w1_ok : f_sp T_X11_worlds Sp_w1 wW := List.forall_mem_cons.mpr ⟨sp_w rfl (fun _ _ _ _ _ _ h => h.2.2.1), List.forall_mem_cons.mpr ⟨sp_w rfl (fun _ _ _ _ _ _ h => h.2.2.1), fun _ h => absurd h List.not_mem_nil⟩⟩
set_option maxHeartbeats 4000000 in
theorem s_X11_worlds : ∀ (a : w1A) (w w' : lW) (rv : Option Value), fLr r_X11_worlds (w1_F a) w rv w' → w1_P a w → w1_Q a w rv w' := by
  refine do_ofW w1_F w1_P w1_Q Sp_w1 (fun _ _ => []) 40 fo_X11 Sp_w1_ok k_X11_worlds (fun _ _ _ => no_hd) (fun a w0 hp hd0 => ?_)
  obtain ⟨⟨B, c, W⟩, s⟩ := a
  obtain ⟨hI, hW, hc60⟩ := hp
  have hI : nS B c w0 := hI
  have hW : wS B W w0 := hW
  have hc60 : 0 ≤ c.toInt ∧ c.toInt ≤ 60 := hc60
  intro rv w1 hx
  have hx : fLr r_X11_sentenceAt [.ref (B 0), .int s] w0 rv w1 := hx
  obtain ⟨rfl, hI1⟩ := cl_at hI hc60.2 hx
  have hW1 := hW.keep hI.1 hx (by decide)
  refine ⟨fun h => ?_, fun h => ?_⟩
  · have h : ¬ at_ B c s = .null := h
    have hs : 0 ≤ s.toInt ∧ s.toInt < c.toInt := Classical.byContradiction fun z => h (at_nul.mpr z)
    intro rv w2 hx2
    have hx2 : fLr r_X1_size [at_ B c s] w1 rv w2 := hx2
    rw [at_ref hs] at hx2
    have er := cl_size hx2 hI1.1 hW1 (by omega)
    subst er
    show some (Value.int (szA bcV (W s.toInt.toNat) 4)) = some (.int (w1V c s (szA bcV (W s.toInt.toNat) 4)))
    unfold w1V
    rw [if_pos hs]
  · have h : at_ B c s = .null := h
    have hs := at_nul.mp h
    show some (Value.int (-1)) = some (.int (w1V c s (szA bcV (W s.toInt.toNat) 4)))
    unfold w1V
    rw [if_neg hs]
theorem s_X11_isWorld : f_do r_X11_isWorld (fun As h rv h' => ∀ k : Int32, As = [.int k] → True → h' = h ∧ rv = some (.int (if 0 ≤ k.toInt ∧ k.toInt < 256 then 1 else 0))) := by
  refine do_ofP (fun k : Int32 => [.int k]) (fun _ _ => True) (fun k h rv h' => h' = h ∧ rv = some (.int (if 0 ≤ k.toInt ∧ k.toInt < 256 then 1 else 0))) [] (fun _ _ => []) 40 fo_X11 no_sp k_X11_isWorld (fun _ _ _ => no_hd) (fun k h0 _ => ?_)
  have e : (Int32.ofInt 256).toInt = 256 := by decide
  refine ⟨fun h => ?_, fun h => ⟨fun h2 => ?_, fun h2 => ?_⟩⟩
  · have h : k.toInt < 0 := h
    refine ⟨rfl, ?_⟩
    show some (Value.int 0) = some (.int (if 0 ≤ k.toInt ∧ k.toInt < 256 then 1 else 0))
    rw [if_neg (by omega)]
  · have h2 : (Int32.ofInt 256).toInt ≤ k.toInt := h2
    rw [e] at h2
    refine ⟨rfl, ?_⟩
    show some (Value.int 0) = some (.int (if 0 ≤ k.toInt ∧ k.toInt < 256 then 1 else 0))
    rw [if_neg (by omega)]
  · have h : ¬ k.toInt < 0 := h
    have h2 : ¬ (Int32.ofInt 256).toInt ≤ k.toInt := h2
    rw [e] at h2
    refine ⟨rfl, ?_⟩
    show some (Value.int 1) = some (.int (if 0 ≤ k.toInt ∧ k.toInt < 256 then 1 else 0))
    rw [if_pos ⟨by omega, by omega⟩]
/-- whether a world is there -/
def hasW (f : Nat → Int64) (k : Int32) : Bool := hbB (f (k.toInt.toNat / 64)) (Int32.ofNat (k.toInt.toNat % 64))
set_option maxHeartbeats 4000000 in
theorem s_X1_has : f_do r_X1_has (fun As h rv h' => ∀ a : bxA × Int32, As = [.ref a.1.1, .int a.2] → (bx a.1 h ∧ 0 ≤ a.2.toInt ∧ a.2.toInt < 256) → h' = h ∧ rv = some (.int (wv (hasW a.1.2.2.2.2 a.2)))) := by
  refine do_ofP (fun a : bxA × Int32 => [.ref a.1.1, .int a.2]) (fun a h => bx a.1 h ∧ 0 ≤ a.2.toInt ∧ a.2.toInt < 256) (fun a h rv h' => h' = h ∧ rv = some (.int (wv (hasW a.1.2.2.2.2 a.2)))) [] (fun _ _ => []) 60 fo_X1 no_sp k_X1_has (fun _ _ _ => no_hd) (fun a h0 hp => ?_)
  obtain ⟨⟨p, fs, a, cA, f⟩, k⟩ := a
  obtain ⟨⟨hp, h0a, ha⟩, k0, k1⟩ := hp
  have hp : h0 p = some (.inr (1, fs)) := hp
  have h0a : fs.getD 0 .null = .ref a := h0a
  have ha : h0 a = some (.inl (cA, 4, .inr (.inl f))) := ha
  have k0 : 0 ≤ k.toInt := k0
  have k1 : k.toInt < 256 := k1
  have ek : k = Int32.ofNat k.toInt.toNat := n32_of (by omega)
  obtain ⟨q1, -, q3, -⟩ := wd_n k.toInt.toNat (by omega)
  rw [← ek] at q1 q3
  have g1 : eG fl_X1 13 (h0 p) = .ref a := by
    rw [hp, ← h0a]
    rfl
  have el : (Int32.ofNat (eL (h0 (rv_ (eG fl_X1 13 (h0 p)))))).toInt = 4 := by
    rw [g1]
    show (Int32.ofNat (eL (h0 a))).toInt = 4
    rw [ha]
    exact e4_
  have eu : eJ (h0 (rv_ (eG fl_X1 13 (h0 p)))) (k >>> (Int32.ofInt 6 &&& 31)).toNatClampNeg = f (k.toInt.toNat / 64) := by
    rw [g1]
    show eJ (h0 a) (k >>> (Int32.ofInt 6 &&& 31)).toInt.toNat = _
    rw [q1, ha]
    rfl
  refine ⟨fun h1 => ?_, fun h1 => ⟨fun h2 => ?_, fun h2 => ⟨fun h3 => ?_, fun h3 => ?_⟩⟩⟩
  · have h1 : (k >>> (Int32.ofInt 6 &&& 31)).toInt < 0 := h1
    rw [q1] at h1
    omega
  · have h2 : (Int32.ofNat (eL (h0 (rv_ (eG fl_X1 13 (h0 p)))))).toInt ≤ (k >>> (Int32.ofInt 6 &&& 31)).toInt := h2
    rw [el, q1] at h2
    omega
  · have h3 : ck_cm .ne (lg_cmp (us_ (eJ (h0 (rv_ (eG fl_X1 13 (h0 p)))) (k >>> (Int32.ofInt 6 &&& 31)).toNatClampNeg) (k &&& Int32.ofInt 63) &&& Int64.ofNat 1) (Int64.ofNat 1)).toInt 0 := h3
    rw [eu, q3] at h3
    have h3 : ¬ hb (f (k.toInt.toNat / 64)) (Int32.ofNat (k.toInt.toNat % 64)) := ck_cm_lg.mp h3
    refine ⟨rfl, ?_⟩
    show some (Value.int 0) = some (.int (wv (hbB (f (k.toInt.toNat / 64)) (Int32.ofNat (k.toInt.toNat % 64)))))
    rw [show hbB (f (k.toInt.toNat / 64)) (Int32.ofNat (k.toInt.toNat % 64)) = false from Bool.eq_false_iff.mpr (fun z => h3 (hbB_t.mp z))]
    rfl
  · have h3 : ¬ ck_cm .ne (lg_cmp (us_ (eJ (h0 (rv_ (eG fl_X1 13 (h0 p)))) (k >>> (Int32.ofInt 6 &&& 31)).toNatClampNeg) (k &&& Int32.ofInt 63) &&& Int64.ofNat 1) (Int64.ofNat 1)).toInt 0 := h3
    rw [eu, q3] at h3
    have h3 : ¬ ¬ hb (f (k.toInt.toNat / 64)) (Int32.ofNat (k.toInt.toNat % 64)) := fun z => h3 (ck_cm_lg.mpr z)
    refine ⟨rfl, ?_⟩
    show some (Value.int 1) = some (.int (wv (hbB (f (k.toInt.toNat / 64)) (Int32.ofNat (k.toInt.toNat % 64)))))
    rw [hbB_t.mpr (Classical.not_not.mp h3)]
    rfl
abbrev t1A : Type := ((Nat → Nat) × Int32 × (Nat → Nat → Int64)) × Int32 × Int32
def t1_F : t1A → List Value := fun ((B, _, _), s, k) => [.ref (B 0), .int s, .int k]
def t1_P : t1A → lW → Prop := fun ((B, c, W), _, _) w => nS B c w ∧ wS B W w ∧ 0 ≤ c.toInt ∧ c.toInt ≤ 60
def t1V (c s k : Int32) (b : Bool) : Int32 := if (0 ≤ s.toInt ∧ s.toInt < c.toInt) ∧ (0 ≤ k.toInt ∧ k.toInt < 256) then wv b else -1
def t1_Q : t1A → lW → Option Value → lW → Prop := fun ((_, c, W), s, k) _ rv _ => rv = some (.int (t1V c s k (hasW (W s.toInt.toNat) k)))
def in_t19 (B : Nat → Nat) (c : Int32) (W : Nat → Nat → Int64) (s k : Int32) : fL_ → List Value → lW → Prop := fun lg vs w => f_sub [(3, false, at_ B c s), (2, false, .int k)] lg ∧ vs = [] ∧ nS B c w ∧ wS B W w ∧ (0 ≤ s.toInt ∧ s.toInt < c.toInt) ∧ (0 ≤ k.toInt ∧ k.toInt < 256)
def t1_hd : t1A → lW → fI lW := fun ((B, c, W), s, k) _ => [(19, in_t19 B c W s k)]
def Sp_t1 : fP lW := [(381, 2, fLr r_X11_sentenceAt), (448, 1, fLr r_X11_isWorld), (456, 2, fLr r_X1_has)]
theorem Sp_t1_ok : f_sp T_X11_truth Sp_t1 wW := List.forall_mem_cons.mpr ⟨sp_w rfl (fun _ _ _ _ _ _ h => h.2.2.1), List.forall_mem_cons.mpr ⟨sp_w rfl (fun _ _ _ _ _ _ h => h.2.2.1), List.forall_mem_cons.mpr ⟨sp_w rfl (fun _ _ _ _ _ _ h => h.2.2.1), fun _ h => absurd h List.not_mem_nil⟩⟩⟩
set_option maxHeartbeats 4000000 in
theorem s_X11_truth : ∀ (a : t1A) (w w' : lW) (rv : Option Value), fLr r_X11_truth (t1_F a) w rv w' → t1_P a w → t1_Q a w rv w' := by
  refine do_ofW t1_F t1_P t1_Q Sp_t1 t1_hd 40 fo_X11 Sp_t1_ok k_X11_truth (fun a w0 hp => ?_) (fun a w0 hp hd0 => ?_)
  · obtain ⟨⟨B, c, W⟩, s, k⟩ := a
    obtain ⟨-, -, hc60⟩ := hp
    have hc60 : 0 ≤ c.toInt ∧ c.toInt ≤ 60 := hc60
    refine List.forall_mem_cons.mpr ⟨?_, fun _ h => absurd h List.not_mem_nil⟩
    rintro lg vs w ⟨hs, rfl, hI, hW, h1, h2⟩
    refine ⟨_, 40, hs, ?_⟩
    intro rv w1 hx
    have hx : fLr r_X1_has [at_ B c s, .int k] w rv w1 := hx
    rw [at_ref h1] at hx
    obtain ⟨tys, hw, -⟩ := hx.2.2.2.2.1
    obtain ⟨fs1, c1, b1⟩ := hW.bx hI.1 hw (i := s.toInt.toNat) (by omega)
    obtain ⟨-, rfl⟩ := (s_X1_has _ _ _ _ _ _ hx).2 (_, k) rfl ⟨b1, h2⟩
    refine ⟨fun h => ?_, fun h => ?_⟩
    · have h : (wv (hasW (W s.toInt.toNat) k)).toInt = 0 := h
      show some (Value.int 0) = some (.int (t1V c s k (hasW (W s.toInt.toNat) k)))
      unfold t1V
      rw [if_pos ⟨h1, h2⟩, wv_0 h]
      rfl
    · have h : ¬ (wv (hasW (W s.toInt.toNat) k)).toInt = 0 := h
      show some (Value.int 1) = some (.int (t1V c s k (hasW (W s.toInt.toNat) k)))
      unfold t1V
      rw [if_pos ⟨h1, h2⟩, wv_1 h]
      rfl
  · obtain ⟨⟨B, c, W⟩, s, k⟩ := a
    obtain ⟨hI, hW, hc60⟩ := hp
    have hI : nS B c w0 := hI
    have hW : wS B W w0 := hW
    have hc60 : 0 ≤ c.toInt ∧ c.toInt ≤ 60 := hc60
    intro rv w1 hx
    have hx : fLr r_X11_sentenceAt [.ref (B 0), .int s] w0 rv w1 := hx
    obtain ⟨rfl, hI1⟩ := cl_at hI hc60.2 hx
    have hW1 := hW.keep hI.1 hx (by decide)
    have no : ¬ ((0 ≤ s.toInt ∧ s.toInt < c.toInt) ∧ (0 ≤ k.toInt ∧ k.toInt < 256)) → some (Value.int (-1)) = some (.int (t1V c s k (hasW (W s.toInt.toNat) k))) := fun z => by
      unfold t1V
      rw [if_neg z]
    refine ⟨fun h => ?_, fun h => ?_⟩
    · have h : at_ B c s = .null := h
      exact no (fun z => at_nul.mp h z.1)
    · have h : ¬ at_ B c s = .null := h
      have hs : 0 ≤ s.toInt ∧ s.toInt < c.toInt := Classical.byContradiction fun z => h (at_nul.mpr z)
      intro rv w2 hx2
      have hx2 : fLr r_X11_isWorld [.int k] w1 rv w2 := hx2
      have hI2 := hI1.keep hx2 (by decide) (by decide)
      have hW2 := hW1.keep hI1.1 hx2 (by decide)
      obtain ⟨-, rfl⟩ := (s_X11_isWorld _ _ _ _ _ _ hx2).2 k rfl trivial
      refine ⟨fun h2 => ?_, fun h2 => ?_⟩
      · have h2 : ¬ (if 0 ≤ k.toInt ∧ k.toInt < 256 then (1 : Int32) else 0).toInt = 0 := h2
        have hk : 0 ≤ k.toInt ∧ k.toInt < 256 := by
          by_cases z : 0 ≤ k.toInt ∧ k.toInt < 256
          · exact z
          · rw [if_neg z] at h2
            exact absurd rfl h2
        exact ⟨⟨rfl, rfl, trivial⟩, rfl, hI2, hW2, hs, hk⟩
      · have h2 : ¬ ¬ (if 0 ≤ k.toInt ∧ k.toInt < 256 then (1 : Int32) else 0).toInt = 0 := h2
        exact no (fun z => h2 (by rw [if_pos z.2]; decide))
/-- how two sentences stand to one another -/
def cmV (b1 b2 b3 : Bool) : Int32 := if b1 = true then (if b2 = true then 3 else 1) else if b2 = true then 2 else if b3 = true then 4 else 0
abbrev c1A : Type := ((Nat → Nat) × Int32 × (Nat → Nat → Int64)) × Int32 × Int32
def c1_F : c1A → List Value := fun ((B, _, _), a, b) => [.ref (B 0), .int a, .int b]
def c1_P : c1A → lW → Prop := fun ((B, c, W), _, _) w => nS B c w ∧ wS B W w ∧ 0 ≤ c.toInt ∧ c.toInt ≤ 60
def c1V (c a b v : Int32) : Int32 := if (0 ≤ a.toInt ∧ a.toInt < c.toInt) ∧ (0 ≤ b.toInt ∧ b.toInt < c.toInt) then v else -1
def c1W (f g : Nat → Int64) : Int32 := cmV (allB o_in f g 4) (allB o_in g f 4) (allB o_meet f g 4)
def c1_Q : c1A → lW → Option Value → lW → Prop := fun ((_, c, W), a, b) _ rv _ => rv = some (.int (c1V c a b (c1W (W a.toInt.toNat) (W b.toInt.toNat))))
def g1_ (B : Nat → Nat) (c : Int32) (W : Nat → Nat → Int64) (a b : Int32) (w : lW) : Prop := nS B c w ∧ wS B W w ∧ (0 ≤ a.toInt ∧ a.toInt < c.toInt) ∧ (0 ≤ b.toInt ∧ b.toInt < c.toInt)
def in_c24 (B : Nat → Nat) (c : Int32) (W : Nat → Nat → Int64) (a b : Int32) : fL_ → List Value → lW → Prop := fun lg vs w => f_sub [(4, false, at_ B c b), (3, false, at_ B c a)] lg ∧ vs = [] ∧ g1_ B c W a b w
def in_c40 (B : Nat → Nat) (c : Int32) (W : Nat → Nat → Int64) (a b : Int32) : fL_ → List Value → lW → Prop := fun lg vs w => f_sub [(6, false, .int (wv (allB o_in (W b.toInt.toNat) (W a.toInt.toNat) 4))), (5, false, .int (wv (allB o_in (W a.toInt.toNat) (W b.toInt.toNat) 4))), (4, false, at_ B c b), (3, false, at_ B c a)] lg ∧ vs = [] ∧ g1_ B c W a b w
def in_c32 (B : Nat → Nat) (c : Int32) (W : Nat → Nat → Int64) (a b : Int32) : fL_ → List Value → lW → Prop := fun lg vs w => f_sub [(5, false, .int (wv (allB o_in (W a.toInt.toNat) (W b.toInt.toNat) 4))), (4, false, at_ B c b), (3, false, at_ B c a)] lg ∧ vs = [] ∧ g1_ B c W a b w
def c1_hd : c1A → lW → fI lW := fun ((B, c, W), a, b) _ => [(24, in_c24 B c W a b), (32, in_c32 B c W a b), (40, in_c40 B c W a b)]
def Sp_c1 : fP lW := [(381, 2, fLr r_X11_sentenceAt), (465, 2, fLr r_X1_within), (477, 2, fLr r_X1_apart)]
theorem Sp_c1_ok : f_sp T_X11_compare Sp_c1 wW := List.forall_mem_cons.mpr ⟨sp_w rfl (fun _ _ _ _ _ _ h => h.2.2.1), List.forall_mem_cons.mpr ⟨sp_w rfl (fun _ _ _ _ _ _ h => h.2.2.1), List.forall_mem_cons.mpr ⟨sp_w rfl (fun _ _ _ _ _ _ h => h.2.2.1), fun _ h => absurd h List.not_mem_nil⟩⟩⟩
section
variable {B : Nat → Nat} {c a b : Int32} {W : Nat → Nat → Int64} {w0 : lW}
theorem c1_no (z : ¬ ((0 ≤ a.toInt ∧ a.toInt < c.toInt) ∧ (0 ≤ b.toInt ∧ b.toInt < c.toInt))) {v : Int32} : some (Value.int (-1)) = some (.int (c1V c a b v)) := by
  unfold c1V
  rw [if_neg z]
theorem c1_ye (z : (0 ≤ a.toInt ∧ a.toInt < c.toInt) ∧ (0 ≤ b.toInt ∧ b.toInt < c.toInt)) {v u : Int32} (h : v = u) : some (Value.int v) = some (.int (c1V c a b u)) := by
  unfold c1V
  rw [if_pos z, h]
set_option maxHeartbeats 4000000 in
theorem c1_h24 (hc60 : 0 ≤ c.toInt ∧ c.toInt ≤ 60) : ∀ (lg : fL_) (vs : List Value) (w : lW), in_c24 B c W a b lg vs w → ∃ (L : fL_) (f : Nat), f_sub L lg ∧ wh oW T_X11_compare Sp_c1 (c1_Q ((B, c, W), a, b) w0) K_X11_compare (c1_hd ((B, c, W), a, b) w0) f 24 L vs w := by
  rintro lg vs w ⟨hs, rfl, hI, hW, h1, h2⟩
  refine ⟨_, 40, hs, ?_⟩
  intro rv w1 hx
  have hx : fLr r_X1_within [at_ B c a, at_ B c b] w rv w1 := hx
  rw [at_ref h1, at_ref h2] at hx
  have hI1 := hI.keep hx (by decide) (by decide)
  have hW1 := hW.keep hI.1 hx (by decide)
  have er := cl_within hx hI.1 hW (by omega) (by omega)
  subst er
  exact ⟨⟨rfl, rfl, rfl, trivial⟩, rfl, hI1, hW1, h1, h2⟩
set_option maxHeartbeats 4000000 in
theorem c1_h32 (hc60 : 0 ≤ c.toInt ∧ c.toInt ≤ 60) : ∀ (lg : fL_) (vs : List Value) (w : lW), in_c32 B c W a b lg vs w → ∃ (L : fL_) (f : Nat), f_sub L lg ∧ wh oW T_X11_compare Sp_c1 (c1_Q ((B, c, W), a, b) w0) K_X11_compare (c1_hd ((B, c, W), a, b) w0) f 32 L vs w := by
  rintro lg vs w ⟨hs, rfl, hI, hW, h1, h2⟩
  refine ⟨_, 40, hs, ?_⟩
  intro rv w2 hx2
  have hx2 : fLr r_X1_within [at_ B c b, at_ B c a] w rv w2 := hx2
  rw [at_ref h1, at_ref h2] at hx2
  have hI2 := hI.keep hx2 (by decide) (by decide)
  have hW2 := hW.keep hI.1 hx2 (by decide)
  have er := cl_within hx2 hI.1 hW (by omega) (by omega)
  subst er
  exact ⟨⟨rfl, rfl, rfl, rfl, trivial⟩, rfl, hI2, hW2, h1, h2⟩
set_option maxHeartbeats 4000000 in
theorem c1_h40 (hc60 : 0 ≤ c.toInt ∧ c.toInt ≤ 60) : ∀ (lg : fL_) (vs : List Value) (w : lW), in_c40 B c W a b lg vs w → ∃ (L : fL_) (f : Nat), f_sub L lg ∧ wh oW T_X11_compare Sp_c1 (c1_Q ((B, c, W), a, b) w0) K_X11_compare (c1_hd ((B, c, W), a, b) w0) f 40 L vs w := by
  rintro lg vs w ⟨hs, rfl, hI, hW, k1, k2⟩
  refine ⟨_, 80, hs, fun h1 => ⟨fun h2 => ⟨fun h3 => ?_, fun h3 => ?_⟩, fun h2 => absurd h1 h2⟩, fun h1 => ⟨fun h2 => ⟨fun h3 => absurd h3 h1, fun h3 => ?_⟩, fun h2 => ?_⟩⟩
  · have e1 := wv_0 (show (wv (allB o_in (W a.toInt.toNat) (W b.toInt.toNat) 4)).toInt = 0 from h1)
    have e2 := wv_0 (show (wv (allB o_in (W b.toInt.toNat) (W a.toInt.toNat) 4)).toInt = 0 from h3)
    intro rv w1 hx
    have hx : fLr r_X1_apart [at_ B c a, at_ B c b] w rv w1 := hx
    rw [at_ref k1, at_ref k2] at hx
    have er := cl_apart hx hI.1 hW (by omega) (by omega)
    subst er
    refine ⟨fun h => ?_, fun h => ?_⟩
    · have e3 := wv_0 (show (wv (allB o_meet (W a.toInt.toNat) (W b.toInt.toNat) 4)).toInt = 0 from h)
      exact c1_ye ⟨k1, k2⟩ (by unfold c1W cmV; rw [e1, e2, e3]; rfl)
    · have e3 := wv_1 (show ¬ (wv (allB o_meet (W a.toInt.toNat) (W b.toInt.toNat) 4)).toInt = 0 from h)
      exact c1_ye ⟨k1, k2⟩ (by unfold c1W cmV; rw [e1, e2, e3]; rfl)
  · have e1 := wv_0 (show (wv (allB o_in (W a.toInt.toNat) (W b.toInt.toNat) 4)).toInt = 0 from h1)
    have e2 := wv_1 (show ¬ (wv (allB o_in (W b.toInt.toNat) (W a.toInt.toNat) 4)).toInt = 0 from h3)
    exact c1_ye ⟨k1, k2⟩ (by unfold c1W cmV; rw [e1, e2]; rfl)
  · have e1 := wv_1 (show ¬ (wv (allB o_in (W a.toInt.toNat) (W b.toInt.toNat) 4)).toInt = 0 from h1)
    have e2 := wv_0 (show (wv (allB o_in (W b.toInt.toNat) (W a.toInt.toNat) 4)).toInt = 0 from h2)
    exact c1_ye ⟨k1, k2⟩ (by unfold c1W cmV; rw [e1, e2]; rfl)
  · have e1 := wv_1 (show ¬ (wv (allB o_in (W a.toInt.toNat) (W b.toInt.toNat) 4)).toInt = 0 from h1)
    have e2 := wv_1 (show ¬ (wv (allB o_in (W b.toInt.toNat) (W a.toInt.toNat) 4)).toInt = 0 from h2)
    exact c1_ye ⟨k1, k2⟩ (by unfold c1W cmV; rw [e1, e2]; rfl)
end
set_option maxHeartbeats 4000000 in
theorem s_X11_compare : ∀ (a : c1A) (w w' : lW) (rv : Option Value), fLr r_X11_compare (c1_F a) w rv w' → c1_P a w → c1_Q a w rv w' := by
  refine do_ofW c1_F c1_P c1_Q Sp_c1 c1_hd 40 fo_X11 Sp_c1_ok k_X11_compare (fun a w0 hp => ?_) (fun a w0 hp hd0 => ?_)
  · obtain ⟨⟨B, c, W⟩, a, b⟩ := a
    obtain ⟨-, -, hc60⟩ := hp
    exact List.forall_mem_cons.mpr ⟨c1_h24 hc60, List.forall_mem_cons.mpr ⟨c1_h32 hc60, List.forall_mem_cons.mpr ⟨c1_h40 hc60, fun _ h => absurd h List.not_mem_nil⟩⟩⟩
  · obtain ⟨⟨B, c, W⟩, a, b⟩ := a
    obtain ⟨hI, hW, hc60⟩ := hp
    have hI : nS B c w0 := hI
    have hW : wS B W w0 := hW
    have hc60 : 0 ≤ c.toInt ∧ c.toInt ≤ 60 := hc60
    intro rv w1 hx
    have hx : fLr r_X11_sentenceAt [.ref (B 0), .int a] w0 rv w1 := hx
    obtain ⟨rfl, hI1⟩ := cl_at hI hc60.2 hx
    have hW1 := hW.keep hI.1 hx (by decide)
    intro rv w2 hx2
    have hx2 : fLr r_X11_sentenceAt [.ref (B 0), .int b] w1 rv w2 := hx2
    obtain ⟨rfl, hI2⟩ := cl_at hI1 hc60.2 hx2
    have hW2 := hW1.keep hI1.1 hx2 (by decide)
    refine ⟨fun h => ?_, fun h => ⟨fun h2 => ?_, fun h2 => ?_⟩⟩
    · have h : at_ B c a = .null := h
      exact c1_no (fun z => at_nul.mp h z.1)
    · have h : ¬ at_ B c a = .null := h
      have h2 : ¬ at_ B c b = .null := h2
      exact ⟨⟨rfl, rfl, trivial⟩, rfl, hI2, hW2, Classical.byContradiction fun z => h (at_nul.mpr z), Classical.byContradiction fun z => h2 (at_nul.mpr z)⟩
    · have h2 : at_ B c b = .null := h2
      exact c1_no (fun z => at_nul.mp h2 z.2)
/-! the reference's -/
theorem s_X12_worlds : f_do r_X12_worlds (fun As h rv h' => ∀ a : rtA × Int32 × Int32, As = [.ref a.1.1.1, .int a.2.2] → (rt a.1 h ∧ a.1.1.2.getD 1 .null = .int a.2.1 ∧ a.2.1.toInt ≤ 60) → h' = h ∧ rv = some (.int (w1V a.2.1 a.2.2 (szA (fun v => cbA v 64) (rtW a.1.2.2.2 a.2.2) 4)))) := by
  refine do_ofP (fun a : rtA × Int32 × Int32 => [.ref a.1.1.1, .int a.2.2]) (fun a h => rt a.1 h ∧ a.1.1.2.getD 1 .null = .int a.2.1 ∧ a.2.1.toInt ≤ 60) (fun a h rv h' => h' = h ∧ rv = some (.int (w1V a.2.1 a.2.2 (szA (fun v => cbA v 64) (rtW a.1.2.2.2 a.2.2) 4)))) [(669, 2, _), (690, 2, _)] (fun _ _ => []) 40 fo_X12 (List.forall_mem_cons.mpr ⟨sp_one rfl s_X12_noSentence, List.forall_mem_cons.mpr ⟨sp_one rfl s_X12_countAt, no_sp⟩⟩) k_X12_worlds (fun _ _ _ => no_hd) (fun a h0 hp => ?_)
  obtain ⟨⟨⟨p, fs⟩, aT, cT, g⟩, c, s⟩ := a
  obtain ⟨hr, hc, hc60⟩ := hp
  have hr : rt ((p, fs), aT, cT, g) h0 := hr
  have hc : fs.getD 1 .null = .int c := hc
  have hc60 : c.toInt ≤ 60 := hc60
  intro rv h1 hx
  obtain ⟨e1, rfl⟩ := hx (p, fs, c, s) rfl ⟨hr.1, hc⟩
  have e1 : h1 = h0 := e1
  subst h1
  refine ⟨fun h => ?_, fun h => ?_⟩
  · have h : (if 0 ≤ s.toInt ∧ s.toInt < c.toInt then (0 : Int32) else 1).toInt = 0 := h
    have hs : 0 ≤ s.toInt ∧ s.toInt < c.toInt := by
      by_cases z : 0 ≤ s.toInt ∧ s.toInt < c.toInt
      · exact z
      · rw [if_neg z] at h
        exact absurd h (by decide)
    intro rv h1 hx2
    obtain ⟨e1, rfl⟩ := hx2 (((p, fs), aT, cT, g), s) rfl ⟨hr, hs.1, (show s.toInt < 60 by omega)⟩
    have e1 : h1 = h0 := e1
    refine ⟨e1, ?_⟩
    show some (Value.int (szA (fun v => cbA v 64) (rtW g s) 4)) = some (.int (w1V c s (szA (fun v => cbA v 64) (rtW g s) 4)))
    unfold w1V
    rw [if_pos hs]
  · have h : ¬ (if 0 ≤ s.toInt ∧ s.toInt < c.toInt then (0 : Int32) else 1).toInt = 0 := h
    have hs : ¬ (0 ≤ s.toInt ∧ s.toInt < c.toInt) := fun z => h (by rw [if_pos z]; decide)
    refine ⟨rfl, ?_⟩
    show some (Value.int (-1)) = some (.int (w1V c s (szA (fun v => cbA v 64) (rtW g s) 4)))
    unfold w1V
    rw [if_neg hs]
def in_t24 (x : rtA) (c s k : Int32) (h0 : fH) : fL_ → List Value → fH → Prop := fun lg vs w => f_sub [(0, false, .ref x.1.1), (1, false, .int s), (2, false, .int k)] lg ∧ vs = [] ∧ w = h0 ∧ (0 ≤ s.toInt ∧ s.toInt < c.toInt) ∧ (0 ≤ k.toInt ∧ k.toInt < 256)
set_option maxHeartbeats 4000000 in
theorem s_X12_truth : f_do r_X12_truth (fun As h rv h' => ∀ a : rtA × Int32 × Int32 × Int32, As = [.ref a.1.1.1, .int a.2.2.1, .int a.2.2.2] → (rt a.1 h ∧ a.1.1.2.getD 1 .null = .int a.2.1 ∧ a.2.1.toInt ≤ 60) → h' = h ∧ rv = some (.int (t1V a.2.1 a.2.2.1 a.2.2.2 (hasW (rtW a.1.2.2.2 a.2.2.1) a.2.2.2)))) := by
  refine do_ofP (fun a : rtA × Int32 × Int32 × Int32 => [.ref a.1.1.1, .int a.2.2.1, .int a.2.2.2]) (fun a h => rt a.1 h ∧ a.1.1.2.getD 1 .null = .int a.2.1 ∧ a.2.1.toInt ≤ 60) (fun a h rv h' => h' = h ∧ rv = some (.int (t1V a.2.1 a.2.2.1 a.2.2.2 (hasW (rtW a.1.2.2.2 a.2.2.1) a.2.2.2)))) [(669, 2, _), (457, 3, _), (475, 2, _)] (fun a h => [(24, in_t24 a.1 a.2.1 a.2.2.1 a.2.2.2 h)]) 60 fo_X12 (List.forall_mem_cons.mpr ⟨sp_one rfl s_X12_noSentence, List.forall_mem_cons.mpr ⟨sp_one rfl s_X12_in, List.forall_mem_cons.mpr ⟨sp_one rfl s_X12_hasBit, no_sp⟩⟩⟩) k_X12_truth (fun a h0 hp => ?_) (fun a h0 hp => ?_)
  · obtain ⟨⟨⟨p, fs⟩, aT, cT, g⟩, c, s, k⟩ := a
    obtain ⟨hr, hc, hc60⟩ := hp
    have hr : rt ((p, fs), aT, cT, g) h0 := hr
    have hc60 : c.toInt ≤ 60 := hc60
    refine List.forall_mem_cons.mpr ⟨?_, fun _ h => absurd h List.not_mem_nil⟩
    rintro lg vs w ⟨hs, rfl, ew, h1, h2⟩
    have ew : w = h0 := ew
    have h1 : 0 ≤ s.toInt ∧ s.toInt < c.toInt := h1
    have h2 : 0 ≤ k.toInt ∧ k.toInt < 256 := h2
    have ek : k = Int32.ofNat k.toInt.toNat := n32_of (by omega)
    obtain ⟨-, q2, -, q4⟩ := wd_n k.toInt.toNat (by omega)
    rw [← ek] at q2 q4
    have eu := rt_at (x := ((p, fs), aT, cT, g)) (h := w) (by rw [ew]; exact hr) (s := s) (t := k / Int32.ofInt 64) ⟨h1.1, by omega⟩ (by rw [q2]; omega) (by rw [q2]; omega)
    have eu : eJ (w (rv_ (eG fl_X12 7 (w p)))) (Int32.ofInt 4 * s + k / Int32.ofInt 64).toNatClampNeg = rtW g s (k.toInt.toNat / 64) := by
      refine eu.trans ?_
      rw [q2]
      rfl
    refine ⟨_, 60, hs, ?_⟩
    intro rv h3 hx
    obtain ⟨e1, er⟩ := hx (eJ (w (rv_ (eG fl_X12 7 (w p)))) (Int32.ofInt 4 * s + k / Int32.ofInt 64).toNatClampNeg, k % Int32.ofInt 64) rfl trivial
    have e1 : h3 = w := e1
    have er : rv = some (.int (wv (hbB (eJ (w (rv_ (eG fl_X12 7 (w p)))) (Int32.ofInt 4 * s + k / Int32.ofInt 64).toNatClampNeg) (k % Int32.ofInt 64)))) := er
    rw [eu, q4] at er
    subst er
    refine ⟨fun h => ?_, fun h => ?_⟩
    · have h : (wv (hasW (rtW g s) k)).toInt = 0 := h
      refine ⟨e1.trans ew, ?_⟩
      show some (Value.int 0) = some (.int (t1V c s k (hasW (rtW g s) k)))
      unfold t1V
      rw [if_pos ⟨h1, h2⟩, wv_0 h]
      rfl
    · have h : ¬ (wv (hasW (rtW g s) k)).toInt = 0 := h
      refine ⟨e1.trans ew, ?_⟩
      show some (Value.int 1) = some (.int (t1V c s k (hasW (rtW g s) k)))
      unfold t1V
      rw [if_pos ⟨h1, h2⟩, wv_1 h]
      rfl
  · obtain ⟨⟨⟨p, fs⟩, aT, cT, g⟩, c, s, k⟩ := a
    obtain ⟨hr, hc, hc60⟩ := hp
    have hr : rt ((p, fs), aT, cT, g) h0 := hr
    have hc : fs.getD 1 .null = .int c := hc
    have e0 : (Int64.ofNat 0).toInt = 0 := by decide
    have e2 : (Int64.ofInt 255).toInt = 255 := by decide
    have no : ¬ ((0 ≤ s.toInt ∧ s.toInt < c.toInt) ∧ (0 ≤ k.toInt ∧ k.toInt < 256)) → h0 = h0 ∧ some (Value.int (-1)) = some (.int (t1V c s k (hasW (rtW g s) k))) := fun z => by
      refine ⟨rfl, ?_⟩
      unfold t1V
      rw [if_neg z]
    intro rv h1 hx
    obtain ⟨e1, rfl⟩ := hx (p, fs, c, s) rfl ⟨hr.1, hc⟩
    have e1 : h1 = h0 := e1
    subst h1
    refine ⟨fun h => ?_, fun h => ?_⟩
    · have h : ¬ (if 0 ≤ s.toInt ∧ s.toInt < c.toInt then (0 : Int32) else 1).toInt = 0 := h
      exact no (fun z => h (by rw [if_pos z.1]; decide))
    · have h : ¬ ¬ (if 0 ≤ s.toInt ∧ s.toInt < c.toInt then (0 : Int32) else 1).toInt = 0 := h
      have hs : 0 ≤ s.toInt ∧ s.toInt < c.toInt := by
        by_cases z : 0 ≤ s.toInt ∧ s.toInt < c.toInt
        · exact z
        · rw [if_neg z] at h
          exact absurd (by decide) h
      intro rv h1 hx2
      obtain ⟨e1, er⟩ := hx2 (k.toInt64, Int64.ofNat 0, Int64.ofInt 255) rfl trivial
      have e1 : h1 = h0 := e1
      subst h1
      have er : rv = some (.int (if (Int64.ofNat 0).toInt ≤ k.toInt64.toInt ∧ k.toInt64.toInt ≤ (Int64.ofInt 255).toInt then 1 else 0)) := er
      rw [e0, e2, Int32.toInt_toInt64] at er
      subst er
      refine ⟨fun h2 => ?_, fun h2 => ?_⟩
      · have h2 : ¬ (if 0 ≤ k.toInt ∧ k.toInt ≤ 255 then (1 : Int32) else 0).toInt = 0 := h2
        have hk : 0 ≤ k.toInt ∧ k.toInt ≤ 255 := by
          by_cases z : 0 ≤ k.toInt ∧ k.toInt ≤ 255
          · exact z
          · rw [if_neg z] at h2
            exact absurd rfl h2
        exact ⟨⟨rfl, rfl, rfl, trivial⟩, rfl, rfl, hs, hk.1, (show k.toInt < 256 by omega)⟩
      · have h2 : ¬ ¬ (if 0 ≤ k.toInt ∧ k.toInt ≤ 255 then (1 : Int32) else 0).toInt = 0 := h2
        exact no (fun z => h2 (by rw [if_pos ⟨z.2.1, by omega⟩]; decide))
def g2_ (c a b : Int32) : Prop := (0 ≤ a.toInt ∧ a.toInt < c.toInt) ∧ (0 ≤ b.toInt ∧ b.toInt < c.toInt)
def in_c18 (x : rtA) (c a b : Int32) (h0 : fH) : fL_ → List Value → fH → Prop := fun lg vs w => f_sub [(0, false, .ref x.1.1), (1, false, .int a), (2, false, .int b)] lg ∧ vs = [] ∧ w = h0 ∧ g2_ c a b
def in_c33 (x : rtA) (c a b : Int32) (h0 : fH) : fL_ → List Value → fH → Prop := fun lg vs w => f_sub [(4, false, .int (wv (allB o_in (rtW x.2.2.2 b) (rtW x.2.2.2 a) 4))), (3, false, .int (wv (allB o_in (rtW x.2.2.2 a) (rtW x.2.2.2 b) 4))), (0, false, .ref x.1.1), (1, false, .int a), (2, false, .int b)] lg ∧ vs = [] ∧ w = h0 ∧ g2_ c a b
abbrev c2A : Type := rtA × Int32 × Int32 × Int32
def c2_F : c2A → List Value := fun (x, _, a, b) => [.ref x.1.1, .int a, .int b]
def c2_P : c2A → fH → Prop := fun (x, c, _, _) h => rt x h ∧ x.1.2.getD 1 .null = .int c ∧ c.toInt ≤ 60
def c2_Q : c2A → fH → Option Value → fH → Prop := fun (x, c, a, b) h rv h' => h' = h ∧ rv = some (.int (c1V c a b (c1W (rtW x.2.2.2 a) (rtW x.2.2.2 b))))
def c2_hd : c2A → fH → fI fH := fun (x, c, a, b) h => [(18, in_c18 x c a b h), (33, in_c33 x c a b h)]
def Pi_isWithin : fPh := fun As h rv h' => ∀ a : rtA × Int32 × Int32, As = [.ref a.1.1.1, .int a.2.1, .int a.2.2] → (rt a.1 h ∧ (0 ≤ a.2.1.toInt ∧ a.2.1.toInt < 60) ∧ (0 ≤ a.2.2.toInt ∧ a.2.2.toInt < 60)) → h' = h ∧ rv = some (.int (wv (allB o_in (rtW a.1.2.2.2 a.2.1) (rtW a.1.2.2.2 a.2.2) 4)))
def Pi_areApart : fPh := fun As h rv h' => ∀ a : rtA × Int32 × Int32, As = [.ref a.1.1.1, .int a.2.1, .int a.2.2] → (rt a.1 h ∧ (0 ≤ a.2.1.toInt ∧ a.2.1.toInt < 60) ∧ (0 ≤ a.2.2.toInt ∧ a.2.2.toInt < 60)) → h' = h ∧ rv = some (.int (wv (allB o_meet (rtW a.1.2.2.2 a.2.1) (rtW a.1.2.2.2 a.2.2) 4)))
def Sp_c2 : fP fH := [(669, 2, Pi_noSentence), (705, 3, Pi_isWithin), (717, 3, Pi_areApart)]
theorem Sp_c2_ok : f_sp T_X12_compare Sp_c2 wH := List.forall_mem_cons.mpr ⟨sp_one rfl (show f_do r_X12_noSentence Pi_noSentence from s_X12_noSentence), List.forall_mem_cons.mpr ⟨sp_one rfl (show f_do r_X12_isWithin Pi_isWithin from s_X12_isWithin), List.forall_mem_cons.mpr ⟨sp_one rfl (show f_do r_X12_areApart Pi_areApart from s_X12_areApart), no_sp⟩⟩⟩
section
variable {x : rtA} {c a b : Int32} {h0 : fH}
set_option maxHeartbeats 4000000 in
theorem c2_h18 (hr : rt x h0) (hc60 : c.toInt ≤ 60) : ∀ (lg : fL_) (vs : List Value) (w : fH), in_c18 x c a b h0 lg vs w → ∃ (L : fL_) (f : Nat), f_sub L lg ∧ wh oH T_X12_compare Sp_c2 (c2_Q (x, c, a, b) h0) K_X12_compare (c2_hd (x, c, a, b) h0) f 18 L vs w := by
  rintro lg vs w ⟨hs, rfl, ew, k1, k2⟩
  have ew : w = h0 := ew
  have ga : 0 ≤ a.toInt ∧ a.toInt < 60 := ⟨k1.1, by have := k1.2; omega⟩
  have gb : 0 ≤ b.toInt ∧ b.toInt < 60 := ⟨k2.1, by have := k2.2; omega⟩
  refine ⟨_, 40, hs, ?_⟩
  intro rv h1 hx
  obtain ⟨e1, rfl⟩ := hx (x, a, b) rfl ⟨by rw [ew]; exact hr, ga, gb⟩
  have e1 : h1 = w := e1
  intro rv h2 hx2
  obtain ⟨e2, rfl⟩ := hx2 (x, b, a) rfl ⟨by rw [e1, ew]; exact hr, gb, ga⟩
  have e2 : h2 = h1 := e2
  exact ⟨⟨rfl, rfl, rfl, rfl, rfl, trivial⟩, rfl, e2.trans (e1.trans ew), k1, k2⟩
set_option maxHeartbeats 4000000 in
theorem c2_h33 (hr : rt x h0) (hc60 : c.toInt ≤ 60) : ∀ (lg : fL_) (vs : List Value) (w : fH), in_c33 x c a b h0 lg vs w → ∃ (L : fL_) (f : Nat), f_sub L lg ∧ wh oH T_X12_compare Sp_c2 (c2_Q (x, c, a, b) h0) K_X12_compare (c2_hd (x, c, a, b) h0) f 33 L vs w := by
  rintro lg vs w ⟨hs, rfl, ew, k1, k2⟩
  have ew : w = h0 := ew
  have ga : 0 ≤ a.toInt ∧ a.toInt < 60 := ⟨k1.1, by have := k1.2; omega⟩
  have gb : 0 ≤ b.toInt ∧ b.toInt < 60 := ⟨k2.1, by have := k2.2; omega⟩
  refine ⟨_, 80, hs, fun h1 => ⟨fun h2 => ⟨fun h3 => ?_, fun h3 => ?_⟩, fun h2 => absurd h1 h2⟩, fun h1 => ⟨fun h2 => ⟨fun h3 => absurd h3 h1, fun h3 => ?_⟩, fun h2 => ?_⟩⟩
  · have e1 := wv_0 (show (wv (allB o_in (rtW x.2.2.2 a) (rtW x.2.2.2 b) 4)).toInt = 0 from h1)
    have e2 := wv_0 (show (wv (allB o_in (rtW x.2.2.2 b) (rtW x.2.2.2 a) 4)).toInt = 0 from h3)
    intro rv h4 hx
    obtain ⟨e4, rfl⟩ := hx (x, a, b) rfl ⟨by rw [ew]; exact hr, ga, gb⟩
    have e4 : h4 = w := e4
    refine ⟨fun h => ?_, fun h => ?_⟩
    · have e3 := wv_0 (show (wv (allB o_meet (rtW x.2.2.2 a) (rtW x.2.2.2 b) 4)).toInt = 0 from h)
      exact ⟨e4.trans ew, c1_ye ⟨k1, k2⟩ (by unfold c1W cmV; rw [e1, e2, e3]; rfl)⟩
    · have e3 := wv_1 (show ¬ (wv (allB o_meet (rtW x.2.2.2 a) (rtW x.2.2.2 b) 4)).toInt = 0 from h)
      exact ⟨e4.trans ew, c1_ye ⟨k1, k2⟩ (by unfold c1W cmV; rw [e1, e2, e3]; rfl)⟩
  · have e1 := wv_0 (show (wv (allB o_in (rtW x.2.2.2 a) (rtW x.2.2.2 b) 4)).toInt = 0 from h1)
    have e2 := wv_1 (show ¬ (wv (allB o_in (rtW x.2.2.2 b) (rtW x.2.2.2 a) 4)).toInt = 0 from h3)
    exact ⟨ew, c1_ye ⟨k1, k2⟩ (by unfold c1W cmV; rw [e1, e2]; rfl)⟩
  · have e1 := wv_1 (show ¬ (wv (allB o_in (rtW x.2.2.2 a) (rtW x.2.2.2 b) 4)).toInt = 0 from h1)
    have e2 := wv_0 (show (wv (allB o_in (rtW x.2.2.2 b) (rtW x.2.2.2 a) 4)).toInt = 0 from h2)
    exact ⟨ew, c1_ye ⟨k1, k2⟩ (by unfold c1W cmV; rw [e1, e2]; rfl)⟩
  · have e1 := wv_1 (show ¬ (wv (allB o_in (rtW x.2.2.2 a) (rtW x.2.2.2 b) 4)).toInt = 0 from h1)
    have e2 := wv_1 (show ¬ (wv (allB o_in (rtW x.2.2.2 b) (rtW x.2.2.2 a) 4)).toInt = 0 from h2)
    exact ⟨ew, c1_ye ⟨k1, k2⟩ (by unfold c1W cmV; rw [e1, e2]; rfl)⟩
end
set_option maxHeartbeats 4000000 in
theorem s_X12_compare : f_do r_X12_compare (fun As h rv h' => ∀ a : c2A, As = c2_F a → c2_P a h → c2_Q a h rv h') := by
  refine do_ofP c2_F c2_P c2_Q Sp_c2 c2_hd 40 fo_X12 Sp_c2_ok k_X12_compare (fun a h0 hp => ?_) (fun a h0 hp => ?_)
  · obtain ⟨x, c, a, b⟩ := a
    obtain ⟨hr, hc, hc60⟩ := hp
    exact List.forall_mem_cons.mpr ⟨c2_h18 hr hc60, List.forall_mem_cons.mpr ⟨c2_h33 hr hc60, fun _ h => absurd h List.not_mem_nil⟩⟩
  · obtain ⟨⟨⟨p, fs⟩, aT, cT, g⟩, c, a, b⟩ := a
    obtain ⟨hr, hc, hc60⟩ := hp
    have hr : rt ((p, fs), aT, cT, g) h0 := hr
    have hc : fs.getD 1 .null = .int c := hc
    have no : ¬ ((0 ≤ a.toInt ∧ a.toInt < c.toInt) ∧ (0 ≤ b.toInt ∧ b.toInt < c.toInt)) → c2_Q (((p, fs), aT, cT, g), c, a, b) h0 (some (.int (-1))) h0 := fun z => ⟨rfl, c1_no z⟩
    intro rv h1 hx
    obtain ⟨e1, rfl⟩ := hx (p, fs, c, a) rfl ⟨hr.1, hc⟩
    have e1 : h1 = h0 := e1
    subst h1
    refine ⟨fun h => ?_, fun h => ?_⟩
    · have h : ¬ (if 0 ≤ a.toInt ∧ a.toInt < c.toInt then (0 : Int32) else 1).toInt = 0 := h
      exact no (fun z => h (by rw [if_pos z.1]; decide))
    · have h : ¬ ¬ (if 0 ≤ a.toInt ∧ a.toInt < c.toInt then (0 : Int32) else 1).toInt = 0 := h
      have ha : 0 ≤ a.toInt ∧ a.toInt < c.toInt := by
        by_cases z : 0 ≤ a.toInt ∧ a.toInt < c.toInt
        · exact z
        · rw [if_neg z] at h
          exact absurd (by decide) h
      intro rv h1 hx2
      obtain ⟨e1, rfl⟩ := hx2 (p, fs, c, b) rfl ⟨hr.1, hc⟩
      have e1 : h1 = h0 := e1
      subst h1
      refine ⟨fun h2 => ?_, fun h2 => ?_⟩
      · have h2 : (if 0 ≤ b.toInt ∧ b.toInt < c.toInt then (0 : Int32) else 1).toInt = 0 := h2
        have hb : 0 ≤ b.toInt ∧ b.toInt < c.toInt := by
          by_cases z : 0 ≤ b.toInt ∧ b.toInt < c.toInt
          · exact z
          · rw [if_neg z] at h2
            exact absurd h2 (by decide)
        exact ⟨⟨rfl, rfl, rfl, trivial⟩, rfl, rfl, ha, hb⟩
      · have h2 : ¬ (if 0 ≤ b.toInt ∧ b.toInt < c.toInt then (0 : Int32) else 1).toInt = 0 := h2
        exact no (fun z => h2 (by rw [if_pos z.2]; decide))
