/-! texts: the class's methods one by one -/
/-- a letter's set -/
abbrev fwA : Type := bxA × Int32
def P_fw : fPh := fun As h rv h' => ∀ a : fwA, As = [.ref a.1.1, .int a.2] → (bx a.1 h ∧ 0 ≤ a.2.toInt ∧ a.2.toInt < 8) → rv = none ∧ ∃ g : Nat → Int64, h' = hset h a.1.2.2.1 (.inl (a.1.2.2.2.1, 4, .inr (.inl g))) ∧ ∀ x, x < 4 → g x = ltW a.2.toInt.toNat x
def in_fw (p a : Nat) (cA : ClassId) (f : Nat → Int64) (k : Int32) (h0 : fH) : fL_ → List Value → fH → Prop := fun lg vs w => ∃ (t : Int32) (g : Nat → Int64), f_sub [(2, false, .int t), (0, false, .ref p), (1, false, .int k)] lg ∧ vs = [] ∧ w = hset h0 a (.inl (cA, 4, .inr (.inl g))) ∧ 0 ≤ t.toInt ∧ t.toInt ≤ 4 ∧ ∀ x, x < 4 → g x = if x < t.toInt.toNat then ltW k.toInt.toNat x else f x
theorem o_stepF {F f g : Nat → Int64} {t : Nat} {u : Int64} (h : ∀ x, x < 4 → g x = if x < t then F x else f x) (ht : t < 4) (hu : u = F t) : ∀ x, x < 4 → vp_updL g t u x = if x < t + 1 then F x else f x := by
  intro x hx
  unfold vp_updL
  by_cases e : x = t
  · subst e
    rw [if_pos rfl, if_pos (by omega), hu]
  · rw [if_neg e, h x hx]
    by_cases hl : x < t
    · rw [if_pos hl, if_pos (by omega)]
    · rw [if_neg hl, if_neg (by omega)]
theorem i32_of {t : Int32} {n : Int} (h : t.toInt = n) : t = Int32.ofInt n := by
  rw [← h]
  exact (Int32.ofInt_toInt t).symm
/-- the shift's bit, for the letters g and h -/
theorem fw_bit {t k : Int32} (t0 : 0 ≤ t.toInt) (t4 : t.toInt < 4) (k6 : 6 ≤ k.toInt) (k8 : k.toInt < 8) : ((t >>> ((k - 6) &&& 31)) &&& 1).toInt = (if k.toInt = 6 then (t.toInt % 2) else (if 2 ≤ t.toInt then 1 else 0)) := by
  have hk : k = Int32.ofInt 6 ∨ k = Int32.ofInt 7 := by
    rcases (show k.toInt = 6 ∨ k.toInt = 7 by omega) with h | h
    · exact Or.inl (i32_of h)
    · exact Or.inr (i32_of h)
  have ht : t = Int32.ofInt 0 ∨ t = Int32.ofInt 1 ∨ t = Int32.ofInt 2 ∨ t = Int32.ofInt 3 := by
    rcases (show t.toInt = 0 ∨ t.toInt = 1 ∨ t.toInt = 2 ∨ t.toInt = 3 by omega) with h | h | h | h
    · exact Or.inl (i32_of h)
    · exact Or.inr (Or.inl (i32_of h))
    · exact Or.inr (Or.inr (Or.inl (i32_of h)))
    · exact Or.inr (Or.inr (Or.inr (i32_of h)))
  rcases hk with rfl | rfl <;> rcases ht with rfl | rfl | rfl | rfl <;> decide
set_option maxHeartbeats 4000000 in
theorem s_X1_fillWith : f_do r_X1_fillWith P_fw := by
  refine do_ofP (fun a : fwA => [.ref a.1.1, .int a.2]) (fun a h => bx a.1 h ∧ 0 ≤ a.2.toInt ∧ a.2.toInt < 8) (fun a h rv h' => rv = none ∧ ∃ g : Nat → Int64, h' = hset h a.1.2.2.1 (.inl (a.1.2.2.2.1, 4, .inr (.inl g))) ∧ ∀ x, x < 4 → g x = ltW a.2.toInt.toNat x) [] (fun a h => [(2, in_fw a.1.1 a.1.2.2.1 a.1.2.2.2.1 a.1.2.2.2.2 a.2 h)]) 60 fo_X1 no_sp k_X1_fillWith (fun a h0 hp => ?_) (fun a h0 hp => ?_)
  · refine List.forall_mem_cons.mpr ⟨?_, fun _ h => absurd h List.not_mem_nil⟩
    obtain ⟨⟨p, fs, a, cA, f⟩, k⟩ := a
    obtain ⟨⟨hp, h0a, ha⟩, k0, k8⟩ := hp
    have hp : h0 p = some (.inr (1, fs)) := hp
    have h0a : fs.getD 0 .null = .ref a := h0a
    have ha : h0 a = some (.inl (cA, 4, .inr (.inl f))) := ha
    have k0 : 0 ≤ k.toInt := k0
    have k8 : k.toInt < 8 := k8
    rintro lg vs w ⟨t, g, hs, rfl, ew, t0, t4, hg⟩
    have ew : w = hset h0 a (.inl (cA, 4, .inr (.inl g))) := ew
    have hg : ∀ x, x < 4 → g x = if x < t.toInt.toNat then ltW k.toInt.toNat x else f x := hg
    have g1 : eG fl_X1 13 (w p) = .ref a := by
      rw [ew, hset_ne (Ne.symm (ne_of_h hp ha)), hp, ← h0a]
      rfl
    have wa : w a = some (.inl (cA, 4, .inr (.inl g))) := by rw [ew, hset_at]
    have l1 : (Int32.ofNat (eL (w (rv_ (eG fl_X1 13 (w p)))))).toInt = 4 := by
      rw [g1]
      show (Int32.ofNat (eL (w a))).toInt = 4
      rw [wa]
      exact e4_
    have nx : ∀ {L : fL_} {u : Int64}, ¬ 4 ≤ t.toInt → f_sub [(2, false, .int (t + 1)), (0, false, .ref p), (1, false, .int k)] L → u = ltW k.toInt.toNat t.toInt.toNat → in_fw p a cA f k h0 L [] (hset w (rv_ (eG fl_X1 13 (w p))) (sJ t.toNatClampNeg u (w (rv_ (eG fl_X1 13 (w p)))))) := by
      intro L u h4 hL hu
      obtain ⟨i1, i2, i3⟩ := t_inc t0 (show t.toInt < 4 by omega)
      refine ⟨t + 1, vp_updL g t.toInt.toNat u, hL, rfl, ?_, i1, i2, ?_⟩
      · rw [g1]
        show hset w a (sJ t.toNatClampNeg u (w a)) = _
        rw [wa, ew]
        exact hset_hset
      · rw [i3]
        exact o_stepF hg (by omega) hu
    have e1 : (Int32.ofInt 1).toInt = 1 := by decide
    have big : ¬ 4 ≤ t.toInt → 6 ≤ k.toInt → (((t >>> ((k - Int32.ofInt 6) &&& 31)) &&& Int32.ofInt 1).toInt ≠ (Int32.ofInt 1).toInt → ltW k.toInt.toNat t.toInt.toNat = 0) ∧ (((t >>> ((k - Int32.ofInt 6) &&& 31)) &&& Int32.ofInt 1).toInt = (Int32.ofInt 1).toInt → ltW k.toInt.toNat t.toInt.toNat = m1_) := by
      intro h4 h6
      have l6 : k.toInt = 6 → ltW k.toInt.toNat t.toInt.toNat = if t.toInt.toNat % 2 = 1 then m1_ else 0 := fun h => by
        unfold ltW
        rw [if_neg (show ¬ k.toInt.toNat < 6 by omega), if_pos (show k.toInt.toNat = 6 by omega)]
      have l7 : ¬ k.toInt = 6 → ltW k.toInt.toNat t.toInt.toNat = if 2 ≤ t.toInt.toNat then m1_ else 0 := fun h => by
        unfold ltW
        rw [if_neg (show ¬ k.toInt.toNat < 6 by omega), if_neg (show ¬ k.toInt.toNat = 6 by omega)]
      have hb : ((t >>> ((k - Int32.ofInt 6) &&& 31)) &&& Int32.ofInt 1).toInt = (if k.toInt = 6 then (t.toInt % 2) else (if 2 ≤ t.toInt then 1 else 0)) := fw_bit t0 (by omega) h6 k8
      by_cases hk : k.toInt = 6
      · rw [if_pos hk] at hb
        rw [hb, e1, l6 hk]
        exact ⟨fun z => if_neg (by omega), fun z => if_pos (by omega)⟩
      · rw [if_neg hk] at hb
        rw [hb, e1, l7 hk]
        by_cases h2 : 2 ≤ t.toInt
        · rw [if_pos h2]
          exact ⟨fun z => absurd rfl z, fun _ => if_pos (by omega)⟩
        · rw [if_neg h2]
          exact ⟨fun _ => if_neg (by omega), fun z => absurd z (by decide)⟩
    refine ⟨_, 60, hs, fun hc => ?_, fun hc => ⟨fun hk => ⟨fun hb => ?_, fun hb => ?_⟩, fun hk => ?_⟩⟩
    · have hc : (Int32.ofNat (eL (w (rv_ (eG fl_X1 13 (w p)))))).toInt ≤ t.toInt := hc
      rw [l1] at hc
      refine ⟨rfl, g, ew, fun x hx => ?_⟩
      rw [hg x hx, t_end t4 hc, if_pos hx]
    · have hk : k.toInt < 0 := hk
      omega
    · have hk : k.toInt < 0 := hk
      omega
    · have hc : ¬ (Int32.ofNat (eL (w (rv_ (eG fl_X1 13 (w p)))))).toInt ≤ t.toInt := hc
      rw [l1] at hc
      intro q hq
      have hq : w q = none := hq
      refine ⟨fun h6 => ⟨fun hb => ?_, fun hb => ?_⟩, fun h6 => ?_⟩
      · have h6 : (Int32.ofNat (eL (w q))).toInt ≤ k.toInt := h6
        rw [hq] at h6
        have h6 : (Int32.ofNat 6).toInt ≤ k.toInt := h6
        have h6 : 6 ≤ k.toInt := h6
        have hb : ¬ ((t >>> ((k - Int32.ofInt 6) &&& 31)) &&& Int32.ofInt 1).toInt = (Int32.ofInt 1).toInt := hb
        exact nx hc ⟨rfl, rfl, rfl, trivial⟩ ((big hc h6).1 hb).symm
      · have h6 : (Int32.ofNat (eL (w q))).toInt ≤ k.toInt := h6
        rw [hq] at h6
        have h6 : 6 ≤ k.toInt := h6
        have hb : ¬ ¬ ((t >>> ((k - Int32.ofInt 6) &&& 31)) &&& Int32.ofInt 1).toInt = (Int32.ofInt 1).toInt := hb
        exact nx hc ⟨rfl, rfl, rfl, trivial⟩ ((big hc h6).2 (Classical.not_not.mp hb)).symm
      · have h6 : ¬ (Int32.ofNat (eL (w q))).toInt ≤ k.toInt := h6
        rw [hq] at h6
        have h6 : ¬ 6 ≤ k.toInt := h6
        intro q2 hq2
        have hq2 : w q2 = none := hq2
        refine nx hc ⟨rfl, rfl, rfl, trivial⟩ ?_
        show eJ (w q2) k.toNatClampNeg = ltW k.toInt.toNat t.toInt.toNat
        rw [hq2]
        unfold ltW
        rw [if_pos (by omega)]
        rfl
  · obtain ⟨⟨p, fs, a, cA, f⟩, k⟩ := a
    obtain ⟨⟨hp, h0a, ha⟩, -, -⟩ := hp
    exact ⟨0, f, ⟨rfl, rfl, rfl, trivial⟩, rfl, (hset_self ha).symm, by decide, by decide, fun x _ => (if_neg (Nat.not_lt_zero x)).symm⟩
/-! the reader's methods over whole worlds -/
section
variable {B : Nat → Nat} {s : pS} {km kv : Nat} {w w' : lW} {rv : Option Value}
/-- one value done to -/
theorem v_one {o : Nat → Int64 → Int64} {rt : Nat} {Wr : List (Nat × Nat)} {T : fT} {cc : ByteArray} {X : List Value} {i : Nat} (hx : fLr (fq cw_TT cw_SG rt Wr T cc) (.ref (B (129 + 2 * i)) :: X) w rv w') (h : rX B s km kv w) (hi : i < 32) (hk : bs_K.all (fun x => !(Wr.contains x)) = true) (hw : (12, 2) ∉ Wr ∧ (12, 3) ∉ Wr ∧ (25, 0) ∉ Wr) (hs : ∀ a : bxA, a.1 = B (129 + 2 * i) → bx a (hof w.1) → rv = none ∧ ∃ g : Nat → Int64, hof w'.1 = hset (hof w.1) a.2.2.1 (.inl (a.2.2.2.1, 4, .inr (.inl g))) ∧ ∀ x, x < 4 → g x = o x (a.2.2.2.2 x)) (n : Nat) (hn : n ≤ s.2.1 ∨ (n = i + 1 ∧ i = s.2.1 ∧ ∀ x u u', o x u = o x u')) : rv = none ∧ rX B (s.1, n, updW s.2.2 i (fun x => o x (s.2.2 i x))) km kv w' := by
  obtain ⟨tys, hw1, -⟩ := hx.2.2.2.2.1
  obtain ⟨V, a6, a7⟩ := h.2.2.2.2.1
  obtain ⟨fs, cA, b⟩ := a6.bx h.1 hw1 hi
  obtain ⟨e, -⟩ := hs _ rfl b
  refine ⟨e, h.kV hx hk hw (fun V h1 h2 => ?_)⟩
  obtain ⟨fs, cA, b⟩ := h1.bx h.1 hw1 hi
  obtain ⟨-, g, e1, e2⟩ := hs _ rfl b
  refine ⟨_, h1.upd h.1 hi e1, fun j hj x hx4 => ?_⟩
  by_cases ej : j = i
  · subst ej
    rw [updW_at, updW_at, e2 x hx4]
    show o x (V j x) = o x (s.2.2 j x)
    rcases hn with hn | ⟨-, -, hn⟩
    · rw [h2 j (by omega) x hx4]
    · exact hn x _ _
  · rw [updW_ne ej, updW_ne ej]
    exact h2 j (by rcases hn with hn | ⟨hn, hn2, -⟩ <;> omega) x hx4
/-- one value done to by another -/
theorem v_two {o : Int64 → Int64 → Int64} {rt : Nat} {Wr : List (Nat × Nat)} {T : fT} {cc : ByteArray} {i j : Nat} (hx : fLr (fq cw_TT cw_SG rt Wr T cc) [.ref (B (129 + 2 * i)), .ref (B (129 + 2 * j))] w rv w') (hs : f_do (fq cw_TT cw_SG rt Wr T cc) (P_op2 o)) (h : rX B s km kv w) (hi : i < 32) (hj : j < 32) (hij : i ≠ j) (his : i < s.2.1) (hjs : j < s.2.1) (hk : bs_K.all (fun x => !(Wr.contains x)) = true) (hw : (12, 2) ∉ Wr ∧ (12, 3) ∉ Wr ∧ (25, 0) ∉ Wr) : rv = none ∧ rX B (s.1, s.2.1, updW s.2.2 i (fun x => o (s.2.2 i x) (s.2.2 j x))) km kv w' := by
  obtain ⟨tys, hw1, -⟩ := hx.2.2.2.2.1
  have hs := (hs _ _ _ _ _ _ hx).2
  obtain ⟨V, a6, a7⟩ := h.2.2.2.2.1
  obtain ⟨fs, cA, b⟩ := a6.bx h.1 hw1 hi
  obtain ⟨fs2, cA2, b2⟩ := a6.bx h.1 hw1 hj
  have hne := h.1.2.ne h.1.1 (bl_VW i hi) (bl_VW j hj) (by omega)
  obtain ⟨e, -⟩ := hs (_, _) rfl ⟨b, b2, hne⟩
  refine ⟨e, h.kV hx hk hw (fun V h1 h2 => ?_)⟩
  obtain ⟨fs, cA, b⟩ := h1.bx h.1 hw1 hi
  obtain ⟨fs2, cA2, b2⟩ := h1.bx h.1 hw1 hj
  obtain ⟨-, g, e1, e2⟩ := hs (_, _) rfl ⟨b, b2, hne⟩
  refine ⟨_, h1.upd h.1 hi e1, fun y hy x hx4 => ?_⟩
  by_cases ey : y = i
  · subst ey
    rw [updW_at, updW_at, e2 x hx4]
    show o (V y x) (V j x) = _
    rw [h2 y hy x hx4, h2 j hjs x hx4]
  · rw [updW_ne ey, updW_ne ey]
    exact h2 y hy x hx4
end
/-- a sign marked -/
abbrev maA : Type := (Nat → Nat) × pS × Int32
def ma_F : maA → List Value := fun (B, _, c) => [.ref (B 126), .int c]
def in_ma (B : Nat → Nat) (s : pS) (c : Int32) : fL_ → List Value → lW → Prop := fun lg vs w => f_sub [(0, false, .ref (B 126)), (1, false, .int c)] lg ∧ vs = [] ∧ rX B (psh c s) s.1.1 s.2.1 w
set_option maxHeartbeats 4000000 in
theorem s_X7_mark : ∀ (a : maA) (w w' : lW) (rv : Option Value), fLr r_X7_mark (ma_F a) w rv w' → (rS a.1 a.2.1 w ∧ a.2.1.1.1 < 60) → rv = none ∧ rS a.1 (psh a.2.2 a.2.1) w' := by
  refine do_ofW ma_F (fun a w => rS a.1 a.2.1 w ∧ a.2.1.1.1 < 60) (fun a _ rv w' => rv = none ∧ rS a.1 (psh a.2.2 a.2.1) w') [] (fun a _ => [(23, in_ma a.1 a.2.1 a.2.2)]) 40 fo_X7 (fun _ h => absurd h List.not_mem_nil) k_X7_mark (fun a w0 hp => ?_) (fun a w0 hp hd0 => ?_)
  · refine List.forall_mem_cons.mpr ⟨?_, fun _ h => absurd h List.not_mem_nil⟩
    obtain ⟨B, s, c⟩ := a
    obtain ⟨-, h60⟩ := hp
    have h60 : s.1.1 < 60 := h60
    rintro lg vs w ⟨hs, rfl, h⟩
    have h : rX B (psh c s) s.1.1 s.2.1 w := h
    obtain ⟨x, g1, ex⟩ := h.g31
    refine ⟨_, 40, hs, ?_⟩
    intro q e0 hq
    have hq : w.1[q]? = some (B 126, e0) := hq
    refine ⟨rfl, ?_⟩
    exact h.p31 hq (x := x + 1) (show Value.int (iv (eG fl_X7 31 (hof w.1 (B 126))) + 1) = .int (x + 1) by rw [g1]; rfl) (i_p1 ex (by omega))
  · obtain ⟨B, s, c⟩ := a
    obtain ⟨h, h60⟩ := hp
    have h : rX B s s.1.1 s.2.1 w0 := h
    have h60 : s.1.1 < 60 := h60
    obtain ⟨x, g1, ex⟩ := h.g31
    have e60 : (Int32.ofNat 60).toInt = 60 := by decide
    refine ⟨fun hc => ?_, fun hc => ?_⟩
    · intro q e0 hq
      refine ⟨⟨rfl, rfl, trivial⟩, rfl, h.w127 h.g9 hq ?_⟩
      show (iv (eG fl_X7 31 (hof w0.1 (B 126)))).toInt.toNat = s.1.1
      rw [g1]
      exact nat_i ex
    · have hc : ¬ (iv (eG fl_X7 31 (hof w0.1 (B 126)))).toInt < (Int32.ofNat (eL (hof w0.1 (rv_ (eG fl_X7 9 (hof w0.1 (B 126))))))).toInt := hc
      rw [g1, h.g9] at hc
      obtain ⟨f, ⟨cA, af⟩, -⟩ := h.2.2.2.1
      have hc : ¬ x.toInt < (Int32.ofNat (eL (hof w0.1 (B 127)))).toInt := hc
      rw [af] at hc
      have hc : ¬ x.toInt < (Int32.ofNat 60).toInt := hc
      rw [e60] at hc
      omega
/-- an operand -/
def in_op33 (B : Nat → Nat) (s : pS) (c : Int32) : fL_ → List Value → lW → Prop := fun lg vs w => f_sub [(1, false, .int c), (2, false, .ref (B (129 + 2 * s.2.1)))] lg ∧ vs = [] ∧ rX B s s.1.1 (s.2.1 + 1) w
def Sp_opd : fP lW := [(180, 1, fLr r_X1_fillUp), (195, 1, fLr r_X1_clear), (204, 2, fLr r_X1_fillWith)]
theorem Sp_opd_ok : f_sp T_X7_operand Sp_opd wW := List.forall_mem_cons.mpr ⟨sp_w rfl (fun _ _ _ _ _ _ h => h.2.2.1), List.forall_mem_cons.mpr ⟨sp_w rfl (fun _ _ _ _ _ _ h => h.2.2.1), List.forall_mem_cons.mpr ⟨sp_w rfl (fun _ _ _ _ _ _ h => h.2.2.1), fun _ h => absurd h List.not_mem_nil⟩⟩⟩
set_option maxHeartbeats 4000000 in
theorem s_X7_operand : ∀ (a : maA) (w w' : lW) (rv : Option Value), fLr r_X7_operand (ma_F a) w rv w' → (rS a.1 a.2.1 w ∧ a.2.1.2.1 < 32 ∧ okc a.2.2) → rv = none ∧ rS a.1 (valS a.2.2 a.2.1) w' := by
  refine do_ofW ma_F (fun a w => rS a.1 a.2.1 w ∧ a.2.1.2.1 < 32 ∧ okc a.2.2) (fun a _ rv w' => rv = none ∧ rS a.1 (valS a.2.2 a.2.1) w') Sp_opd (fun a _ => [(33, in_op33 a.1 a.2.1 a.2.2)]) 40 fo_X7 Sp_opd_ok k_X7_operand (fun a w0 hp => ?_) (fun a w0 hp hd0 => ?_)
  · refine List.forall_mem_cons.mpr ⟨?_, fun _ h => absurd h List.not_mem_nil⟩
    obtain ⟨B, s, c⟩ := a
    obtain ⟨-, h32, hok⟩ := hp
    have h32 : s.2.1 < 32 := h32
    have hok : okc c := hok
    rintro lg vs w ⟨hs, rfl, h⟩
    have h : rX B s s.1.1 (s.2.1 + 1) w := h
    have e49 : (Int32.ofInt 49).toInt = 49 := by decide
    have e48 : (Int32.ofInt 48).toInt = 48 := by decide
    refine ⟨_, 40, hs, fun h1 => ⟨fun h2 => ?_, fun h2 => ?_⟩, fun h1 => ?_⟩
    · have h1 : ¬ c.toInt = (Int32.ofInt 49).toInt := h1
      rw [e49] at h1
      have h2 : ¬ c.toInt = (Int32.ofInt 48).toInt := h2
      rw [e48] at h2
      have hr : 97 ≤ c.toInt ∧ c.toInt ≤ 104 := by
        unfold okc at hok
        omega
      have e97 : (Int32.ofInt 97).toInt = 97 := by decide
      have ek : (c - Int32.ofInt 97).toInt = c.toInt - 97 := by
        rw [i_sub (by rw [e97]; omega) (by rw [e97]; omega), e97]
      intro rv w1 hx
      have hx : fLr r_X1_fillWith [.ref (B (129 + 2 * s.2.1)), .int (c - Int32.ofInt 97)] w rv w1 := hx
      obtain ⟨rfl, a1⟩ := v_one (o := fun x _ => ltW (c - Int32.ofInt 97).toInt.toNat x) hx h h32 (by decide) (by decide) (fun a ha hb => by
        exact (s_X1_fillWith _ _ _ _ _ _ hx).2 (a, c - Int32.ofInt 97) (by rw [ha]) ⟨hb, (show 0 ≤ (c - Int32.ofInt 97).toInt by omega), (show (c - Int32.ofInt 97).toInt < 8 by omega)⟩) (s.2.1 + 1) (Or.inr ⟨rfl, rfl, fun _ _ _ => rfl⟩)
      refine ⟨rfl, ?_⟩
      have ew : (fun x => ltW (c - Int32.ofInt 97).toInt.toNat x) = opdW c := by
        funext x
        unfold opdW
        rw [if_neg h1, if_neg h2, ek]
      show rX B (s.1, s.2.1 + 1, updW s.2.2 s.2.1 (opdW c)) s.1.1 (s.2.1 + 1) w1
      rw [← ew]
      exact a1
    · have h1 : ¬ c.toInt = (Int32.ofInt 49).toInt := h1
      rw [e49] at h1
      have h2 : ¬ ¬ c.toInt = (Int32.ofInt 48).toInt := h2
      rw [e48] at h2
      intro rv w1 hx
      have hx : fLr r_X1_clear [.ref (B (129 + 2 * s.2.1))] w rv w1 := hx
      obtain ⟨rfl, a1⟩ := v_one (o := fun _ _ => 0) hx h h32 (by decide) (by decide) (fun a ha hb => (s_X1_clear _ _ _ _ _ _ hx).2 a (by rw [ha]) hb) (s.2.1 + 1) (Or.inr ⟨rfl, rfl, fun _ _ _ => rfl⟩)
      refine ⟨rfl, ?_⟩
      have ew : (fun _ => (0 : Int64)) = opdW c := by
        funext x
        unfold opdW
        rw [if_neg h1, if_pos (Classical.not_not.mp h2)]
      show rX B (s.1, s.2.1 + 1, updW s.2.2 s.2.1 (opdW c)) s.1.1 (s.2.1 + 1) w1
      rw [← ew]
      exact a1
    · have h1 : ¬ ¬ c.toInt = (Int32.ofInt 49).toInt := h1
      rw [e49] at h1
      intro rv w1 hx
      have hx : fLr r_X1_fillUp [.ref (B (129 + 2 * s.2.1))] w rv w1 := hx
      obtain ⟨rfl, a1⟩ := v_one (o := fun _ _ => m1_) hx h h32 (by decide) (by decide) (fun a ha hb => (s_X1_fillUp _ _ _ _ _ _ hx).2 a (by rw [ha]) hb) (s.2.1 + 1) (Or.inr ⟨rfl, rfl, fun _ _ _ => rfl⟩)
      refine ⟨rfl, ?_⟩
      have ew : (fun _ => m1_) = opdW c := by
        funext x
        unfold opdW
        rw [if_pos (Classical.not_not.mp h1)]
      show rX B (s.1, s.2.1 + 1, updW s.2.2 s.2.1 (opdW c)) s.1.1 (s.2.1 + 1) w1
      rw [← ew]
      exact a1
  · obtain ⟨B, s, c⟩ := a
    obtain ⟨h, h32, hok⟩ := hp
    have h : rX B s s.1.1 s.2.1 w0 := h
    have h32 : s.2.1 < 32 := h32
    obtain ⟨x, g1, ex⟩ := h.g35
    have e32 : (Int32.ofNat 32).toInt = 32 := by decide
    refine ⟨fun hc => ?_, fun hc => ?_⟩
    · intro q e0 hq
      have hq : w0.1[q]? = some (B 126, e0) := hq
      refine ⟨⟨rfl, ?_, trivial⟩, rfl, h.p35 hq (x := x + 1) (show Value.int (iv (eG fl_X7 35 (hof w0.1 (B 126))) + 1) = .int (x + 1) by rw [g1]; rfl) (i_p1 ex (by omega))⟩
      show some (false, eR (hof w0.1 (rv_ (eG fl_X7 19 (hof w0.1 (B 126))))) (iv (eG fl_X7 35 (hof w0.1 (B 126)))).toNatClampNeg) = some (false, .ref (B (129 + 2 * s.2.1)))
      rw [g1, h.g19]
      show some (false, eR (hof w0.1 (B 128)) x.toInt.toNat) = _
      rw [nat_i ex, h.vl h32]
    · have hc : ¬ (iv (eG fl_X7 35 (hof w0.1 (B 126)))).toInt < (Int32.ofNat (eL (hof w0.1 (rv_ (eG fl_X7 19 (hof w0.1 (B 126))))))).toInt := hc
      rw [g1, h.g19] at hc
      obtain ⟨cA, g, hg, -⟩ := h.2.2.2.2.2
      have hc : ¬ x.toInt < (Int32.ofNat (eL (hof w0.1 (B 128)))).toInt := hc
      rw [hg] at hc
      have hc : ¬ x.toInt < (Int32.ofNat 32).toInt := hc
      rw [e32] at hc
      omega
