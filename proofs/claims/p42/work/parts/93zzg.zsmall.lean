section
/-! small questions, over places -/
def zb (b : Bool) : Int32 := bif b then 1 else 0
theorem zb_n {p : Prop} [Decidable p] (h : (zb (decide p)).toInt = 0) : ¬ p := fun hp => by
  rw [decide_eq_true hp] at h
  exact absurd h (by decide)
theorem zb_y {p : Prop} [Decidable p] (h : ¬ (zb (decide p)).toInt = 0) : p := by
  by_cases hp : p
  · exact hp
  · rw [decide_eq_false hp] at h
    exact absurd (by decide) h
theorem zbf {p : Prop} [Decidable p] (h : ¬ p) : some (Value.int 0) = some (Value.int (zb (decide p))) := by
  rw [decide_eq_false h]
  rfl
theorem zbt {p : Prop} [Decidable p] (h : p) : some (Value.int 1) = some (Value.int (zb (decide p))) := by
  rw [decide_eq_true h]
  rfl
/-- a question: an answer, nothing changed; a step: an answer, and what becomes of the world -/
def zpu {α : Type} (F : α → List Value) (Pre : α → zW → Prop) (val : α → zW → Value) : zQ := fun Us A K => ∃ a, Us = F a ∧ Pre a A ∧ K (some (val a A)) A
def zfu {α : Type} (F : α → List Value) (Pre : α → zW → Prop) (val : α → zW → Option Value) (upd : α → zW → zW) : zQ := fun Us A K => ∃ a, Us = F a ∧ Pre a A ∧ K (val a A) (upd a A)
theorem zdo_fu {α : Type} {TT : List ck_D} {SG : List Nat} {rt : Nat} {Wr : List (Nat × Nat)} {T : fT} {cc : ByteArray} {code : ck_cd} {F : α → List Value} {Pre : α → zW → Prop} {val : α → zW → Option Value} {upd : α → zW → zW} (Sp : zP) (hd : α → zW → zH) (f : Nat) (hT : f_ok T = true) (hN : T.2.2.2.2.2.2 = none) (hS : zsp T Sp) (hcode : ∀ x ∈ code, decode cc x.1 = .ok (x.2.1, x.2.2))
    (hh : ∀ (a : α) (A0 : zW), Pre a A0 → ∀ x ∈ hd a A0, ∀ (lg : fL_) (vs : List Value) (A : zW), x.2 lg vs A → ∃ (L : fL_) (f : Nat), f_sub L lg ∧ zwh T Sp (fun rv A' => rv = val a A0 ∧ A' = upd a A0) code (hd a A0) f x.1 L vs A)
    (h : ∀ (a : α) (A0 : zW), Pre a A0 → zwl T Sp (fun rv A' => rv = val a A0 ∧ A' = upd a A0) code (hd a A0) f code 0 (la 0 (F a)) [] A0) : zdo (fq TT SG rt Wr T cc) (zfu F Pre val upd) := by
  intro As ws sh rv ws' sh' hx
  refine ⟨zx_fq hx, fun A Us K hA hv hP => ?_⟩
  obtain ⟨a, rfl, hp, hK⟩ := hP
  obtain ⟨A', u, h1, h2, h3, h4⟩ := zfr_ok hT hN hS hcode (hh a A hp) hx.1 hv hA (h a A hp)
  subst h3
  subst h4
  exact ⟨_, _, h1, h2, hK⟩
theorem zdo_pu {α : Type} {TT : List ck_D} {SG : List Nat} {rt : Nat} {Wr : List (Nat × Nat)} {T : fT} {cc : ByteArray} {code : ck_cd} {F : α → List Value} {Pre : α → zW → Prop} {val : α → zW → Value} (Sp : zP) (hd : α → zW → zH) (f : Nat) (hT : f_ok T = true) (hN : T.2.2.2.2.2.2 = none) (hS : zsp T Sp) (hcode : ∀ x ∈ code, decode cc x.1 = .ok (x.2.1, x.2.2))
    (hh : ∀ (a : α) (A0 : zW), Pre a A0 → ∀ x ∈ hd a A0, ∀ (lg : fL_) (vs : List Value) (A : zW), x.2 lg vs A → ∃ (L : fL_) (f : Nat), f_sub L lg ∧ zwh T Sp (fun rv A' => rv = some (val a A0) ∧ A' = A0) code (hd a A0) f x.1 L vs A)
    (h : ∀ (a : α) (A0 : zW), Pre a A0 → zwl T Sp (fun rv A' => rv = some (val a A0) ∧ A' = A0) code (hd a A0) f code 0 (la 0 (F a)) [] A0) : zdo (fq TT SG rt Wr T cc) (zpu F Pre val) :=
  zdo_fu (val := fun a A => some (val a A)) (upd := fun _ A => A) Sp hd f hT hN hS hcode hh h
theorem ze0 : (Int64.ofNat 0).toInt = 0 := by decide
theorem ze1 : (Int64.ofNat 1).toInt = 1 := by decide
theorem ze_dec (c : Int32) : (c.toInt64 - Int64.ofNat 1).toInt = c.toInt - 1 := by
  have h1 := Int32.le_toInt c
  have h2 := Int32.toInt_lt c
  rw [Int64.toInt_sub, Int32.toInt_toInt64, ze1]
  exact Int.bmod_eq_of_le (by omega) (by omega)
def q_isSource : zQ := zpu (fun k : Int32 => [.int k]) (fun _ _ => True) (fun k _ => .int (zb (decide (0 ≤ k.toInt ∧ k.toInt < 6))))
set_option maxRecDepth 20000 in
theorem za_X11_isSource : zdo r_X11_isSource q_isSource := by
  refine zdo_pu [] (fun _ _ => []) 40 fo_X11 rfl zs_nil k_X11_isSource (fun _ _ _ => no_zh) (fun k A _ => ?_)
  have e : (Int32.ofInt 6).toInt = 6 := by decide
  refine ⟨fun h => ?_, fun h => ⟨fun h2 => ?_, fun h2 => ?_⟩⟩
  · have h : k.toInt < 0 := h
    exact ⟨zbf (by omega), rfl⟩
  · have h2 : (Int32.ofInt 6).toInt ≤ k.toInt := h2
    exact ⟨zbf (by omega), rfl⟩
  · have h : ¬ k.toInt < 0 := h
    have h2 : ¬ (Int32.ofInt 6).toInt ≤ k.toInt := h2
    exact ⟨zbt (by omega), rfl⟩
def q_isHold : zQ := zpu (fun k : Int32 => [.int k]) (fun _ _ => True) (fun k _ => .int (zb (decide (0 ≤ k.toInt ∧ k.toInt < 6))))
set_option maxRecDepth 20000 in
theorem za_X11_isHold : zdo r_X11_isHold q_isHold := by
  refine zdo_pu [] (fun _ _ => []) 40 fo_X11 rfl zs_nil k_X11_isHold (fun _ _ _ => no_zh) (fun k A _ => ?_)
  have e : (Int32.ofInt 6).toInt = 6 := by decide
  refine ⟨fun h => ?_, fun h => ⟨fun h2 => ?_, fun h2 => ?_⟩⟩
  · have h : k.toInt < 0 := h
    exact ⟨zbf (by omega), rfl⟩
  · have h2 : (Int32.ofInt 6).toInt ≤ k.toInt := h2
    exact ⟨zbf (by omega), rfl⟩
  · have h : ¬ k.toInt < 0 := h
    have h2 : ¬ (Int32.ofInt 6).toInt ≤ k.toInt := h2
    exact ⟨zbt (by omega), rfl⟩
def q_isTime : zQ := zpu (fun k : Int32 => [.int k]) (fun _ _ => True) (fun k _ => .int (zb (decide (0 ≤ k.toInt ∧ k.toInt < 100))))
set_option maxRecDepth 20000 in
theorem za_X11_isTime : zdo r_X11_isTime q_isTime := by
  refine zdo_pu [] (fun _ _ => []) 40 fo_X11 rfl zs_nil k_X11_isTime (fun _ _ _ => no_zh) (fun k A _ => ?_)
  have e : (Int32.ofInt 99).toInt = 99 := by decide
  refine ⟨fun h => ?_, fun h => ⟨fun h2 => ?_, fun h2 => ?_⟩⟩
  · have h : k.toInt < 0 := h
    exact ⟨zbf (by omega), rfl⟩
  · have h2 : (Int32.ofInt 99).toInt < k.toInt := h2
    exact ⟨zbf (by omega), rfl⟩
  · have h : ¬ k.toInt < 0 := h
    have h2 : ¬ (Int32.ofInt 99).toInt < k.toInt := h2
    exact ⟨zbt (by omega), rfl⟩
def q_isWorld : zQ := zpu (fun k : Int32 => [.int k]) (fun _ _ => True) (fun k _ => .int (zb (decide (0 ≤ k.toInt ∧ k.toInt < 256))))
set_option maxRecDepth 20000 in
theorem za_X11_isWorld : zdo r_X11_isWorld q_isWorld := by
  refine zdo_pu [] (fun _ _ => []) 40 fo_X11 rfl zs_nil k_X11_isWorld (fun _ _ _ => no_zh) (fun k A _ => ?_)
  have e : (Int32.ofInt 256).toInt = 256 := by decide
  refine ⟨fun h => ?_, fun h => ⟨fun h2 => ?_, fun h2 => ?_⟩⟩
  · have h : k.toInt < 0 := h
    exact ⟨zbf (by omega), rfl⟩
  · have h2 : (Int32.ofInt 256).toInt ≤ k.toInt := h2
    exact ⟨zbf (by omega), rfl⟩
  · have h : ¬ k.toInt < 0 := h
    have h2 : ¬ (Int32.ofInt 256).toInt ≤ k.toInt := h2
    exact ⟨zbt (by omega), rfl⟩
def q_isLaw : zQ := zpu (fun k : Int32 => [.int k]) (fun _ _ => True) (fun k _ => .int (zb (decide (0 ≤ k.toInt ∧ k.toInt < 3))))
set_option maxRecDepth 20000 in
theorem za_X11_isLaw : zdo r_X11_isLaw q_isLaw := by
  refine zdo_pu [] (fun _ _ => []) 40 fo_X11 rfl zs_nil k_X11_isLaw (fun _ _ _ => no_zh) (fun k A _ => ?_)
  have e : (Int32.ofInt 2).toInt = 2 := by decide
  refine ⟨fun h => ?_, fun h => ⟨fun h2 => ?_, fun h2 => ?_⟩⟩
  · have h : k.toInt < 0 := h
    exact ⟨zbf (by omega), rfl⟩
  · have h2 : (Int32.ofInt 2).toInt < k.toInt := h2
    exact ⟨zbf (by omega), rfl⟩
  · have h : ¬ k.toInt < 0 := h
    have h2 : ¬ (Int32.ofInt 2).toInt < k.toInt := h2
    exact ⟨zbt (by omega), rfl⟩
def zq_in : zQ := zpu (fun a : Int64 × Int64 × Int64 => [.long a.1, .long a.2.1, .long a.2.2]) (fun _ _ => True) (fun a _ => .int (zb (decide (a.2.1.toInt ≤ a.1.toInt ∧ a.1.toInt ≤ a.2.2.toInt))))
set_option maxRecDepth 20000 in
theorem za_X12_in : zdo r_X12_in zq_in := by
  refine zdo_pu [] (fun _ _ => []) 40 fo_X12 rfl zs_nil k_X12_in (fun _ _ _ => no_zh) (fun a A _ => ?_)
  obtain ⟨x, lo, hi⟩ := a
  refine ⟨fun h => ?_, fun h => ⟨fun h2 => ?_, fun h2 => ?_⟩⟩
  · have h : ck_cm .lt (lg_cmp x lo).toInt 0 := h
    have h : x.toInt < lo.toInt := ck_cm_lg.mp h
    exact ⟨zbf (p := lo.toInt ≤ x.toInt ∧ x.toInt ≤ hi.toInt) (by omega), rfl⟩
  · have h2 : ck_cm .gt (lg_cmp x hi).toInt 0 := h2
    have h2 : hi.toInt < x.toInt := ck_cm_lg.mp h2
    exact ⟨zbf (p := lo.toInt ≤ x.toInt ∧ x.toInt ≤ hi.toInt) (by omega), rfl⟩
  · have h : ¬ ck_cm .lt (lg_cmp x lo).toInt 0 := h
    have h : ¬ x.toInt < lo.toInt := fun z => h (ck_cm_lg.mpr z)
    have h2 : ¬ ck_cm .gt (lg_cmp x hi).toInt 0 := h2
    have h2 : ¬ hi.toInt < x.toInt := fun z => h2 (ck_cm_lg.mpr z)
    exact ⟨zbt (p := lo.toInt ≤ x.toInt ∧ x.toInt ≤ hi.toInt) (by omega), rfl⟩
theorem Sp_in_ok {T : fT} (hT : T.2.2.2.2.2.1 457 = (3, r_X12_in)) : zsp T [(457, 3, zq_in)] := zs_cons hT za_X12_in zs_nil
def q_noSource : zQ := zpu (fun k : Int32 => [.int k]) (fun _ _ => True) (fun k _ => .int (zb (decide ¬ (0 ≤ k.toInt ∧ k.toInt < 6))))
set_option maxRecDepth 20000 in
theorem za_X12_noSource : zdo r_X12_noSource q_noSource := by
  refine zdo_pu [(457, 3, zq_in)] (fun _ _ => []) 40 fo_X12 rfl (Sp_in_ok rfl) k_X12_noSource (fun _ _ _ => no_zh) (fun k A _ => ?_)
  have e : (Int64.ofInt 5).toInt = 5 := by decide
  have e2 := Int32.toInt_toInt64 k
  have e0 := ze0
  refine ⟨(k.toInt64, Int64.ofNat 0, Int64.ofInt 5), rfl, trivial, fun h => ?_, fun h => ?_⟩
  · have h : ¬ (zb (decide ((Int64.ofNat 0).toInt ≤ k.toInt64.toInt ∧ k.toInt64.toInt ≤ (Int64.ofInt 5).toInt))).toInt = 0 := h
    have h := zb_y h
    exact ⟨zbf (by omega), rfl⟩
  · have h : ¬ ¬ (zb (decide ((Int64.ofNat 0).toInt ≤ k.toInt64.toInt ∧ k.toInt64.toInt ≤ (Int64.ofInt 5).toInt))).toInt = 0 := h
    have h := zb_n (Classical.not_not.mp h)
    exact ⟨zbt (by omega), rfl⟩
def q_noHold : zQ := zpu (fun k : Int32 => [.int k]) (fun _ _ => True) (fun k _ => .int (zb (decide ¬ (0 ≤ k.toInt ∧ k.toInt < 6))))
set_option maxRecDepth 20000 in
theorem za_X12_noHold : zdo r_X12_noHold q_noHold := by
  refine zdo_pu [(457, 3, zq_in)] (fun _ _ => []) 40 fo_X12 rfl (Sp_in_ok rfl) k_X12_noHold (fun _ _ _ => no_zh) (fun k A _ => ?_)
  have e : (Int64.ofInt 5).toInt = 5 := by decide
  have e2 := Int32.toInt_toInt64 k
  have e0 := ze0
  refine ⟨(k.toInt64, Int64.ofNat 0, Int64.ofInt 5), rfl, trivial, fun h => ?_, fun h => ?_⟩
  · have h : ¬ (zb (decide ((Int64.ofNat 0).toInt ≤ k.toInt64.toInt ∧ k.toInt64.toInt ≤ (Int64.ofInt 5).toInt))).toInt = 0 := h
    have h := zb_y h
    exact ⟨zbf (by omega), rfl⟩
  · have h : ¬ ¬ (zb (decide ((Int64.ofNat 0).toInt ≤ k.toInt64.toInt ∧ k.toInt64.toInt ≤ (Int64.ofInt 5).toInt))).toInt = 0 := h
    have h := zb_n (Classical.not_not.mp h)
    exact ⟨zbt (by omega), rfl⟩
/-- noSentence: of a count -/
def q_noSentence : zQ := zpu (fun a : Int32 × Int32 => [.ref 343, .int a.1]) (fun a A => zF A 343 1 = .int a.2) (fun a _ => .int (zb (decide ¬ (0 ≤ a.1.toInt ∧ a.1.toInt < a.2.toInt))))
set_option maxRecDepth 20000 in
theorem za_X12_noSentence : zdo r_X12_noSentence q_noSentence := by
  refine zdo_pu [(457, 3, zq_in)] (fun _ _ => []) 40 fo_X12 rfl (Sp_in_ok rfl) k_X12_noSentence (fun _ _ _ => no_zh) (fun a A hp => ?_)
  obtain ⟨k, c⟩ := a
  have hp : zF A 343 1 = .int c := hp
  have e2 := Int32.toInt_toInt64 k
  have e0 := ze0
  have e1 : ((iv (zF A 343 1)).toInt64 - Int64.ofNat 1).toInt = c.toInt - 1 := by
    rw [hp]
    exact ze_dec c
  refine ⟨(k.toInt64, Int64.ofNat 0, (iv (zF A 343 1)).toInt64 - Int64.ofNat 1), rfl, trivial, fun h => ?_, fun h => ?_⟩
  · have h : ¬ (zb (decide ((Int64.ofNat 0).toInt ≤ k.toInt64.toInt ∧ k.toInt64.toInt ≤ ((iv (zF A 343 1)).toInt64 - Int64.ofNat 1).toInt))).toInt = 0 := h
    have h := zb_y h
    exact ⟨zbf (p := ¬ (0 ≤ k.toInt ∧ k.toInt < c.toInt)) (by omega), rfl⟩
  · have h : ¬ ¬ (zb (decide ((Int64.ofNat 0).toInt ≤ k.toInt64.toInt ∧ k.toInt64.toInt ≤ ((iv (zF A 343 1)).toInt64 - Int64.ofNat 1).toInt))).toInt = 0 := h
    have h := zb_n (Classical.not_not.mp h)
    exact ⟨zbt (p := ¬ (0 ≤ k.toInt ∧ k.toInt < c.toInt)) (by omega), rfl⟩
/-- noEntry: of a count -/
def q_noEntry : zQ := zpu (fun a : Int32 × Int32 => [.ref 343, .int a.1]) (fun a A => zF A 343 8 = .int a.2) (fun a _ => .int (zb (decide ¬ (0 ≤ a.1.toInt ∧ a.1.toInt < a.2.toInt))))
set_option maxRecDepth 20000 in
theorem za_X12_noEntry : zdo r_X12_noEntry q_noEntry := by
  refine zdo_pu [(457, 3, zq_in)] (fun _ _ => []) 40 fo_X12 rfl (Sp_in_ok rfl) k_X12_noEntry (fun _ _ _ => no_zh) (fun a A hp => ?_)
  obtain ⟨k, c⟩ := a
  have hp : zF A 343 8 = .int c := hp
  have e2 := Int32.toInt_toInt64 k
  have e0 := ze0
  have e1 : ((iv (zF A 343 8)).toInt64 - Int64.ofNat 1).toInt = c.toInt - 1 := by
    rw [hp]
    exact ze_dec c
  refine ⟨(k.toInt64, Int64.ofNat 0, (iv (zF A 343 8)).toInt64 - Int64.ofNat 1), rfl, trivial, fun h => ?_, fun h => ?_⟩
  · have h : ¬ (zb (decide ((Int64.ofNat 0).toInt ≤ k.toInt64.toInt ∧ k.toInt64.toInt ≤ ((iv (zF A 343 8)).toInt64 - Int64.ofNat 1).toInt))).toInt = 0 := h
    have h := zb_y h
    exact ⟨zbf (p := ¬ (0 ≤ k.toInt ∧ k.toInt < c.toInt)) (by omega), rfl⟩
  · have h : ¬ ¬ (zb (decide ((Int64.ofNat 0).toInt ≤ k.toInt64.toInt ∧ k.toInt64.toInt ≤ ((iv (zF A 343 8)).toInt64 - Int64.ofNat 1).toInt))).toInt = 0 := h
    have h := zb_n (Classical.not_not.mp h)
    exact ⟨zbt (p := ¬ (0 ≤ k.toInt ∧ k.toInt < c.toInt)) (by omega), rfl⟩
/-- noRule: of a count -/
def q_noRule : zQ := zpu (fun a : Int32 × Int32 => [.ref 343, .int a.1]) (fun a A => zF A 343 27 = .int a.2) (fun a _ => .int (zb (decide ¬ (0 ≤ a.1.toInt ∧ a.1.toInt < a.2.toInt))))
set_option maxRecDepth 20000 in
theorem za_X12_noRule : zdo r_X12_noRule q_noRule := by
  refine zdo_pu [(457, 3, zq_in)] (fun _ _ => []) 40 fo_X12 rfl (Sp_in_ok rfl) k_X12_noRule (fun _ _ _ => no_zh) (fun a A hp => ?_)
  obtain ⟨k, c⟩ := a
  have hp : zF A 343 27 = .int c := hp
  have e2 := Int32.toInt_toInt64 k
  have e0 := ze0
  have e1 : ((iv (zF A 343 27)).toInt64 - Int64.ofNat 1).toInt = c.toInt - 1 := by
    rw [hp]
    exact ze_dec c
  refine ⟨(k.toInt64, Int64.ofNat 0, (iv (zF A 343 27)).toInt64 - Int64.ofNat 1), rfl, trivial, fun h => ?_, fun h => ?_⟩
  · have h : ¬ (zb (decide ((Int64.ofNat 0).toInt ≤ k.toInt64.toInt ∧ k.toInt64.toInt ≤ ((iv (zF A 343 27)).toInt64 - Int64.ofNat 1).toInt))).toInt = 0 := h
    have h := zb_y h
    exact ⟨zbf (p := ¬ (0 ≤ k.toInt ∧ k.toInt < c.toInt)) (by omega), rfl⟩
  · have h : ¬ ¬ (zb (decide ((Int64.ofNat 0).toInt ≤ k.toInt64.toInt ∧ k.toInt64.toInt ≤ ((iv (zF A 343 27)).toInt64 - Int64.ofNat 1).toInt))).toInt = 0 := h
    have h := zb_n (Classical.not_not.mp h)
    exact ⟨zbt (p := ¬ (0 ≤ k.toInt ∧ k.toInt < c.toInt)) (by omega), rfl⟩
/-- noClaim: of a count -/
def q_noClaim : zQ := zpu (fun a : Int32 × Int32 => [.ref 343, .int a.1]) (fun a A => zF A 343 40 = .int a.2) (fun a _ => .int (zb (decide ¬ (0 ≤ a.1.toInt ∧ a.1.toInt < a.2.toInt))))
set_option maxRecDepth 20000 in
theorem za_X12_noClaim : zdo r_X12_noClaim q_noClaim := by
  refine zdo_pu [(457, 3, zq_in)] (fun _ _ => []) 40 fo_X12 rfl (Sp_in_ok rfl) k_X12_noClaim (fun _ _ _ => no_zh) (fun a A hp => ?_)
  obtain ⟨k, c⟩ := a
  have hp : zF A 343 40 = .int c := hp
  have e2 := Int32.toInt_toInt64 k
  have e0 := ze0
  have e1 : ((iv (zF A 343 40)).toInt64 - Int64.ofNat 1).toInt = c.toInt - 1 := by
    rw [hp]
    exact ze_dec c
  refine ⟨(k.toInt64, Int64.ofNat 0, (iv (zF A 343 40)).toInt64 - Int64.ofNat 1), rfl, trivial, fun h => ?_, fun h => ?_⟩
  · have h : ¬ (zb (decide ((Int64.ofNat 0).toInt ≤ k.toInt64.toInt ∧ k.toInt64.toInt ≤ ((iv (zF A 343 40)).toInt64 - Int64.ofNat 1).toInt))).toInt = 0 := h
    have h := zb_y h
    exact ⟨zbf (p := ¬ (0 ≤ k.toInt ∧ k.toInt < c.toInt)) (by omega), rfl⟩
  · have h : ¬ ¬ (zb (decide ((Int64.ofNat 0).toInt ≤ k.toInt64.toInt ∧ k.toInt64.toInt ≤ ((iv (zF A 343 40)).toInt64 - Int64.ofNat 1).toInt))).toInt = 0 := h
    have h := zb_n (Classical.not_not.mp h)
    exact ⟨zbt (p := ¬ (0 ≤ k.toInt ∧ k.toInt < c.toInt)) (by omega), rfl⟩
/-- the sentence at a number -/
def zat (c s : Int32) (v : Value) : Value := if 0 ≤ s.toInt ∧ s.toInt < c.toInt then v else .null
set_option maxRecDepth 20000 in
theorem zat_y {c s : Int32} {v : Value} (h : ¬ zat c s v = .null) : 0 ≤ s.toInt ∧ s.toInt < c.toInt := by
  by_cases z : 0 ≤ s.toInt ∧ s.toInt < c.toInt
  · exact z
  · exact absurd (if_neg z) h
set_option maxRecDepth 20000 in
theorem zat_n {c s : Int32} {v : Value} (hv : v ≠ .null) (h : zat c s v = .null) : ¬ (0 ≤ s.toInt ∧ s.toInt < c.toInt) := fun z => by
  unfold zat at h
  rw [if_pos z] at h
  exact hv h
set_option maxRecDepth 20000 in
theorem zc_1 {i : Nat} (h : i < 60) : zc 1 i = 2 + 2 * i := by
  show (bif true && Nat.blt i 70 then (bif Nat.blt i 60 then 2 + 2 * i else 0) else 0) = _
  rw [nltT h, nltT (show i < 70 by omega)]
  rfl
theorem zrl_1 {A : zW} {i : Nat} (h : i < 60) : zrl A 1 i = .ref (2 + 2 * i) := by
  unfold zrl
  rw [zc_1 h]
  exact zcr_s (by omega)
def zq_sentenceAt : zQ := zpu (fun a : Int32 × Int32 => [.ref 0, .int a.1]) (fun a A => zF A 0 1 = .int a.2 ∧ a.2.toInt ≤ 60) (fun a _ => zat a.2 a.1 (.ref (2 + 2 * a.1.toInt.toNat)))
set_option maxRecDepth 20000 in
theorem za_X11_sentenceAt : zdo r_X11_sentenceAt zq_sentenceAt := by
  refine zdo_pu [] (fun _ _ => []) 40 fo_X11 rfl zs_nil k_X11_sentenceAt (fun _ _ _ => no_zh) (fun a A hp => ?_)
  obtain ⟨s, c⟩ := a
  obtain ⟨hp, hc⟩ := hp
  have hp : zF A 0 1 = .int c := hp
  have hc : c.toInt ≤ 60 := hc
  have e : (Int32.ofNat 60).toInt = 60 := by decide
  have no : ¬ (0 ≤ s.toInt ∧ s.toInt < c.toInt) → some Value.null = some (zat c s (.ref (2 + 2 * s.toInt.toNat))) ∧ A = A := fun h => by
    unfold zat
    rw [if_neg h]
    exact ⟨rfl, rfl⟩
  refine ⟨fun h => ?_, fun h => ⟨fun h2 => ?_, fun h2 => ⟨fun h3 => ?_, fun h3 => ?_⟩⟩⟩
  · have h : s.toInt < 0 := h
    exact no (by omega)
  · have h2 : (iv (zF A 0 1)).toInt ≤ s.toInt := h2
    rw [hp] at h2
    have h2 : c.toInt ≤ s.toInt := h2
    exact no (by omega)
  · have h2 : ¬ (iv (zF A 0 1)).toInt ≤ s.toInt := h2
    rw [hp] at h2
    have h2 : ¬ c.toInt ≤ s.toInt := h2
    have h3 : (Int32.ofNat 60).toInt ≤ s.toInt := h3
    omega
  · have h : ¬ s.toInt < 0 := h
    have h2 : ¬ (iv (zF A 0 1)).toInt ≤ s.toInt := h2
    rw [hp] at h2
    have h2 : ¬ c.toInt ≤ s.toInt := h2
    refine ⟨?_, rfl⟩
    show some (zrl A 1 s.toInt.toNat) = some (zat c s (.ref (2 + 2 * s.toInt.toNat)))
    rw [zrl_1 (by omega)]
    unfold zat
    rw [if_pos ⟨by omega, by omega⟩]
end
section
/-! entries, over places: the class's -/
theorem fo_X2 : f_ok5 fl_X2 pl_X2 nw_X2 kl_X2 il_X2 = true := by decide +kernel
theorem fo_X4 : f_ok5 fl_X4 pI_X4 nw_X4 kl_X4 il_X4 = true := by decide +kernel
set_option maxRecDepth 20000 in
theorem zc_d {q k : Nat} (h : 385 ≤ q) : zc q k = 0 := by
  by_cases hz : zc q k = 0
  · exact hz
  · have := (zc_lt hz).1
    omega
theorem zkd_d {A : zW} {q : Nat} (h : 385 ≤ q) : zkd A q = (zK A q).1 := by
  unfold zkd
  rw [nltF h]
  rfl
theorem zfl_d {A : zW} {q k : Nat} (h : 385 ≤ q) : zfl A q k = zF A q k := zcr_z (zc_d h)
/-- a whole row written -/
def zsI (A : zW) (q : Nat) (f : Nat → Int32) : zW := (fun j x => bif Nat.beq j q then f x else zI A j x, A.2)
def zsJ (A : zW) (q : Nat) (f : Nat → Int64) : zW := (A.1, fun j x => bif Nat.beq j q then f x else zJ A j x, A.2.2)
theorem zsI_at {A : zW} {q x : Nat} {f : Nat → Int32} : zI (zsI A q f) q x = f x := by
  show (bif Nat.beq q q then f x else zI A q x) = f x
  rw [nbT]
  rfl
theorem zsJ_at {A : zW} {q x : Nat} {f : Nat → Int64} : zJ (zsJ A q f) q x = f x := by
  show (bif Nat.beq q q then f x else zJ A q x) = f x
  rw [nbT]
  rfl
theorem zsI_ne {A : zW} {q j x : Nat} {f : Nat → Int32} (h : j ≠ q) : zI (zsI A q f) j x = zI A j x := by
  show (bif Nat.beq j q then f x else zI A j x) = _
  rw [nbF h]
  rfl
theorem zsJ_ne {A : zW} {q j x : Nat} {f : Nat → Int64} (h : j ≠ q) : zJ (zsJ A q f) j x = zJ A j x := by
  show (bif Nat.beq j q then f x else zJ A j x) = _
  rw [nbF h]
  rfl
theorem zsI_self {A : zW} {q : Nat} {f : Nat → Int32} (h : ∀ x, f x = zI A q x) : zsI A q f = A := by
  refine Prod.ext (funext fun j => funext fun x => ?_) rfl
  show (bif Nat.beq j q then f x else zI A j x) = zI A j x
  by_cases e : j = q
  · rw [e, nbT]
    exact h x
  · rw [nbF e]
    rfl
theorem zsJ_self {A : zW} {q : Nat} {f : Nat → Int64} (h : ∀ x, f x = zJ A q x) : zsJ A q f = A := by
  refine Prod.ext rfl (Prod.ext (funext fun j => funext fun x => ?_) rfl)
  show (bif Nat.beq j q then f x else zJ A j x) = zJ A j x
  by_cases e : j = q
  · rw [e, nbT]
    exact h x
  · rw [nbF e]
    rfl
theorem zuI_zsI {A : zW} {q i : Nat} {f g : Nat → Int32} {v : Int32} (h : ∀ x, g x = if x = i then v else f x) : zuI (zsI A q f) q i v = zsI A q g := by
  refine Prod.ext (funext fun j => funext fun x => ?_) rfl
  show (bif Nat.beq j q && Nat.beq x i then v else (bif Nat.beq j q then f x else zI A j x)) = (bif Nat.beq j q then g x else zI A j x)
  cases hb : Nat.beq j q with
  | false => rfl
  | true =>
    show (bif Nat.beq x i then v else f x) = g x
    rw [h]
    by_cases e : x = i
    · rw [e, nbT, if_pos rfl]
      rfl
    · rw [nbF e, if_neg e]
      rfl
theorem zuJ_zsJ {A : zW} {q i : Nat} {f g : Nat → Int64} {v : Int64} (h : ∀ x, g x = if x = i then v else f x) : zuJ (zsJ A q f) q i v = zsJ A q g := by
  refine Prod.ext rfl (Prod.ext (funext fun j => funext fun x => ?_) rfl)
  show (bif Nat.beq j q && Nat.beq x i then v else (bif Nat.beq j q then f x else zJ A j x)) = (bif Nat.beq j q then g x else zJ A j x)
  cases hb : Nat.beq j q with
  | false => rfl
  | true =>
    show (bif Nat.beq x i then v else f x) = g x
    rw [h]
    by_cases e : x = i
    · rw [e, nbT, if_pos rfl]
      rfl
    · rw [nbF e, if_neg e]
      rfl
theorem zsI_ext {A : zW} {q : Nat} {f g : Nat → Int32} (h : ∀ x, f x = g x) : zsI A q f = zsI A q g := by
  rw [show f = g from funext h]
theorem zsJ_ext {A : zW} {q : Nat} {f g : Nat → Int64} (h : ∀ x, f x = g x) : zsJ A q f = zsJ A q g := by
  rw [show f = g from funext h]
/-- sets of bits: their place, their rows' -/
def zkT (q : Nat) : Nat := zn zt_k (zn lp_sh q)
theorem zkd_b {A : zW} {q : Nat} (h : q < 385) : zkd A q = zkT q := by
  unfold zkd
  rw [nltT h]
  rfl
def zB (q n : Nat) : Bool := decide (q + 1 < 385) && (decide (zc q 0 = q + 1) && (decide (zkT q = 1) && decide (zkT (q + 1) = n)))
theorem zB_at {q n : Nat} (h : zB q n = true) (A : zW) : zfl A q 0 = .ref (q + 1) ∧ zkd A q = 1 ∧ zkd A (q + 1) = n := by
  unfold zB at h
  rw [Bool.and_eq_true, Bool.and_eq_true, Bool.and_eq_true] at h
  obtain ⟨h1, h2, h3, h4⟩ := h
  have h1 := of_decide_eq_true h1
  refine ⟨?_, by rw [zkd_b (by omega)]; exact of_decide_eq_true h3, by rw [zkd_b h1]; exact of_decide_eq_true h4⟩
  unfold zfl
  rw [of_decide_eq_true h2]
  exact zcr_s (by omega)
theorem zB_sn : (List.range 60).all (fun i => zB (2 + 2 * i) 4) = true := by decide +kernel
theorem zB_s {i : Nat} (h : i < 60) : zB (2 + 2 * i) 4 = true := List.all_eq_true.mp zB_sn i (List.mem_range.mpr h)
theorem e32_4 : (Int32.ofNat 4).toInt = 4 := by decide
/-- whether a world is in a set -/
def zhW (f : Nat → Int64) (k : Nat) : Bool := hbB (f (k / 64)) (Int32.ofNat (k % 64))
def zq_has : zQ := zpu (fun a : Nat × Int32 => [.ref a.1, .int a.2]) (fun a _ => zB a.1 4 = true ∧ 0 ≤ a.2.toInt ∧ a.2.toInt < 256) (fun a A => .int (zb (zhW (zJ A (a.1 + 1)) a.2.toInt.toNat)))
set_option maxRecDepth 20000 in
set_option maxHeartbeats 4000000 in
theorem za_X1_has : zdo r_X1_has zq_has := by
  refine zdo_pu [] (fun _ _ => []) 60 fo_X1 rfl zs_nil k_X1_has (fun _ _ _ => no_zh) (fun a A hp => ?_)
  obtain ⟨q, k⟩ := a
  obtain ⟨hB, k0, k1⟩ := hp
  have k0 : 0 ≤ k.toInt := k0
  have k1 : k.toInt < 256 := k1
  obtain ⟨b1, b2, b3⟩ := zB_at hB A
  have ek : k = Int32.ofNat k.toInt.toNat := n32_of (by omega)
  obtain ⟨q1, -, q3, -⟩ := wd_n k.toInt.toNat (by omega)
  rw [← ek] at q1 q3
  have g : zfl A q (kfd fl_X1 13 (zkd A q)) = .ref (q + 1) := by
    rw [b2]
    exact b1
  have el : (Int32.ofNat (zkd A (rv_ (zfl A q (kfd fl_X1 13 (zkd A q)))))).toInt = 4 := by
    rw [g]
    show (Int32.ofNat (zkd A (q + 1))).toInt = 4
    rw [b3]
    exact e32_4
  have eu : zJ A (rv_ (zfl A q (kfd fl_X1 13 (zkd A q)))) (k >>> (Int32.ofInt 6 &&& 31)).toNatClampNeg = zJ A (q + 1) (k.toInt.toNat / 64) := by
    rw [g]
    show zJ A (q + 1) (k >>> (Int32.ofInt 6 &&& 31)).toInt.toNat = _
    rw [q1]
    rfl
  refine ⟨fun h1 => ?_, fun h1 => ⟨fun h2 => ?_, fun h2 => ⟨fun h3 => ?_, fun h3 => ?_⟩⟩⟩
  · have h1 : (k >>> (Int32.ofInt 6 &&& 31)).toInt < 0 := h1
    rw [q1] at h1
    omega
  · have h2 : (Int32.ofNat (zkd A (rv_ (zfl A q (kfd fl_X1 13 (zkd A q)))))).toInt ≤ (k >>> (Int32.ofInt 6 &&& 31)).toInt := h2
    rw [el, q1] at h2
    omega
  · have h3 : ck_cm .ne (lg_cmp (us_ (zJ A (rv_ (zfl A q (kfd fl_X1 13 (zkd A q)))) (k >>> (Int32.ofInt 6 &&& 31)).toNatClampNeg) (k &&& Int32.ofInt 63) &&& Int64.ofNat 1) (Int64.ofNat 1)).toInt 0 := h3
    rw [eu, q3] at h3
    have h3 : ¬ hb (zJ A (q + 1) (k.toInt.toNat / 64)) (Int32.ofNat (k.toInt.toNat % 64)) := ck_cm_lg.mp h3
    refine ⟨?_, rfl⟩
    show some (Value.int 0) = some (.int (zb (hbB (zJ A (q + 1) (k.toInt.toNat / 64)) (Int32.ofNat (k.toInt.toNat % 64)))))
    rw [show hbB (zJ A (q + 1) (k.toInt.toNat / 64)) (Int32.ofNat (k.toInt.toNat % 64)) = false from Bool.eq_false_iff.mpr (fun z => h3 (hbB_t.mp z))]
    rfl
  · have h3 : ¬ ck_cm .ne (lg_cmp (us_ (zJ A (rv_ (zfl A q (kfd fl_X1 13 (zkd A q)))) (k >>> (Int32.ofInt 6 &&& 31)).toNatClampNeg) (k &&& Int32.ofInt 63) &&& Int64.ofNat 1) (Int64.ofNat 1)).toInt 0 := h3
    rw [eu, q3] at h3
    have h3 : ¬ ¬ hb (zJ A (q + 1) (k.toInt.toNat / 64)) (Int32.ofNat (k.toInt.toNat % 64)) := fun z => h3 (ck_cm_lg.mpr z)
    refine ⟨?_, rfl⟩
    show some (Value.int 1) = some (.int (zb (hbB (zJ A (q + 1) (k.toInt.toNat / 64)) (Int32.ofNat (k.toInt.toNat % 64)))))
    rw [hbB_t.mpr (Classical.not_not.mp h3)]
    rfl
/-- the maker of a thing -/
def zq_Thing : zQ := zfu (fun a : Nat × Int32 × Nat × Nat => [.ref a.1, .int a.2.1]) (fun a A => 385 ≤ a.1 ∧ (zK A a.1).1 = a.2.2.1 ∧ kpd pI_X10 7 a.2.2.1 = a.2.2.2) (fun _ _ => none) (fun a A => zuF A a.1 a.2.2.2 (.int a.2.1))
set_option maxRecDepth 20000 in
theorem za_X10_init : zdo r_X10_init zq_Thing := by
  refine zdo_fu [(5, 1, fun _ A K => K none A)] (fun _ _ => []) 40 fo_X10 rfl (zs_cons rfl z_nop zs_nil) k_X10_init (fun _ _ _ => no_zh) (fun a A hp => ?_)
  obtain ⟨p, n, ci, k⟩ := a
  obtain ⟨hp, hc, hk⟩ := hp
  have hp : 385 ≤ p := hp
  refine ⟨zc_d hp, rfl, ?_⟩
  show zuF A p (kpd pI_X10 7 (zkd A p)) (.int n) = zuF A p k (.int n)
  rw [zkd_d hp, hc, hk]
def zent (A : zW) (p : Nat) (n s u f t k : Int32) : zW := zuF (zuF (zuF (zuF (zuF (zuF (zuF A p 0 (.int n)) p 1 (.int s)) p 2 (.int u)) p 3 (.int f)) p 4 (.int t)) p 5 (.int k)) p 6 (.int (Int32.ofInt (-9)))
def zq_Entry : zQ := zfu (fun a : Nat × Int32 × Int32 × Int32 × Int32 × Int32 × Int32 => [.ref a.1, .int a.2.1, .int a.2.2.1, .int a.2.2.2.1, .int a.2.2.2.2.1, .int a.2.2.2.2.2.1, .int a.2.2.2.2.2.2]) (fun a A => 385 ≤ a.1 ∧ (zK A a.1).1 = 4) (fun _ _ => none) (fun a A => zent A a.1 a.2.1 a.2.2.1 a.2.2.2.1 a.2.2.2.2.1 a.2.2.2.2.2.1 a.2.2.2.2.2.2)
set_option maxRecDepth 20000 in
set_option maxHeartbeats 4000000 in
theorem za_X4_init : zdo r_X4_init zq_Entry := by
  refine zdo_fu [(11, 2, zq_Thing)] (fun _ _ => []) 40 fo_X4 rfl (zs_cons rfl za_X10_init zs_nil) k_X4_init (fun _ _ _ => no_zh) (fun a A hp => ?_)
  obtain ⟨p, n, s, u, f, t, k⟩ := a
  obtain ⟨hp, hc⟩ := hp
  have hp : 385 ≤ p := hp
  have hz : zkd A p = 4 := by
    rw [zkd_d hp]
    exact hc
  refine ⟨(p, n, 4, 0), rfl, ⟨hp, hc, rfl⟩, zc_d hp, zc_d hp, zc_d hp, zc_d hp, zc_d hp, zc_d hp, rfl, ?_⟩
  show zuF (zuF (zuF (zuF (zuF (zuF (zuF A p 0 (.int n)) p (kpd pI_X4 9 (zkd A p)) (.int s)) p (kpd pI_X4 15 (zkd A p)) (.int u)) p (kpd pI_X4 18 (zkd A p)) (.int f)) p (kpd pI_X4 21 (zkd A p)) (.int t)) p (kpd pI_X4 24 (zkd A p)) (.int k)) p (kpd pI_X4 27 (zkd A p)) (.int (Int32.ofInt (-9))) = zent A p n s u f t k
  rw [hz]
  rfl
/-- the book: full, and an entry kept -/
def zcE (A : zW) (n : Int32) : Prop := zF A 193 1 = .int n ∧ 0 ≤ n.toInt ∧ n.toInt ≤ 12
theorem e32_12 : (Int32.ofNat 12).toInt = 12 := by decide
theorem zc195 {e : Nat} : zc 195 e = 0 := by
  by_cases hz : zc 195 e = 0
  · exact hz
  · have h := (zc_lt hz).2
    have h2 : zc 195 e = (bif true && Nat.blt e 70 then 0 else 0) := rfl
    rw [h2]
    cases Nat.blt e 70 <;> rfl
def zq_isFullE : zQ := zpu (fun _ : Int32 => [.ref 193]) (fun n A => zcE A n) (fun n _ => .int (zb (decide ¬ n.toInt < 12)))
set_option maxRecDepth 20000 in
theorem za_X2_isFull : zdo r_X2_isFull zq_isFullE := by
  refine zdo_pu [] (fun _ _ => []) 40 fo_X2 rfl zs_nil k_X2_isFull (fun _ _ _ => no_zh) (fun n A hp => ?_)
  obtain ⟨hn, n0, n1⟩ := hp
  have e := e32_12
  refine ⟨fun h => ?_, fun h => ?_⟩
  · have h : (iv (zF A 193 1)).toInt < (Int32.ofNat 12).toInt := h
    rw [hn] at h
    have h : n.toInt < (Int32.ofNat 12).toInt := h
    exact ⟨zbf (by omega), rfl⟩
  · have h : ¬ (iv (zF A 193 1)).toInt < (Int32.ofNat 12).toInt := h
    rw [hn] at h
    have h : ¬ n.toInt < (Int32.ofNat 12).toInt := h
    exact ⟨zbt (by omega), rfl⟩
/-- what is true in a world, with one entry more -/
def ztr (A : zW) (b : Nat) (m : Nat) (w : Nat) : Int32 := if w < m ∧ zhW (zJ A (b + 1)) w = true then zI A 196 w ||| (Int32.ofInt 1 <<< (iv (zF A 193 1) &&& 31)) else zI A 196 w
def zkp (A : zW) (p b : Nat) : zW := zuF (zuR (zsI A 196 (ztr A b 256)) 195 (iv (zF A 193 1)).toNatClampNeg (.ref p)) 193 1 (.int (iv (zF A 193 1) + Int32.ofInt 1))
def zq_keepE : zQ := zfu (fun a : Nat × Nat × Int32 × Int32 => [.ref 193, .ref a.1, .ref a.2.1]) (fun a A => zcE A a.2.2.1 ∧ a.2.2.1.toInt < 12 ∧ 385 ≤ a.1 ∧ (zK A a.1).1 = 4 ∧ zF A a.1 0 = .int a.2.2.2 ∧ zB a.2.1 4 = true) (fun a _ => some (.int a.2.2.2)) (fun a A => zkp A a.1 a.2.1)
def in_z17 (A : zW) (p b : Nat) : fL_ → List Value → zW → Prop := fun lg vs A' => ∃ i : Int32, f_sub [(3, false, .int i), (0, false, .ref 193), (1, false, .ref p), (2, false, .ref b)] lg ∧ vs = [] ∧ A' = zsI A 196 (ztr A b i.toInt.toNat) ∧ 0 ≤ i.toInt ∧ i.toInt ≤ 256
set_option maxRecDepth 20000 in
set_option maxHeartbeats 4000000 in
theorem za_X2_keep : zdo r_X2_keep zq_keepE := by
  refine zdo_fu [(183, 2, zq_has)] (fun a A => [(17, in_z17 A a.1 a.2.1)]) 60 fo_X2 rfl (zs_cons rfl za_X1_has zs_nil) k_X2_keep (fun a A hp => ?_) (fun a A hp => ?_)
  · obtain ⟨p, b, n, m⟩ := a
    obtain ⟨⟨hn, n0, n1⟩, n2, hp, hc, hm, hB⟩ := hp
    have hp : 385 ≤ p := hp
    have hn : zF A 193 1 = .int n := hn
    have hm : zF A p 0 = .int m := hm
    have hB : zB b 4 = true := hB
    have hp1 : b + 1 < 385 := by
      unfold zB at hB
      rw [Bool.and_eq_true] at hB
      exact of_decide_eq_true hB.1
    have hb196 : b + 1 ≠ 196 := fun z => by
      have h3 : b = 195 := by omega
      rw [h3] at hB
      exact absurd hB (by decide)
    refine List.forall_mem_cons.mpr ⟨?_, fun _ h => absurd h List.not_mem_nil⟩
    rintro lg vs A' ⟨i, hs, rfl, rfl, i0, i1⟩
    have e256 : (Int32.ofInt 256).toInt = 256 := by decide
    refine ⟨_, 60, hs, fun h => ?_, fun h => ?_⟩
    · have h : (Int32.ofInt 256).toInt ≤ i.toInt := h
      have ei : i.toInt.toNat = 256 := by omega
      rw [ei]
      refine ⟨zc195, rfl, ?_, ?_⟩
      · have hc : (zK A p).1 = 4 := hc
        have h1 : zF (zkp A p b) p 0 = zF A p 0 := zuF_ne (by omega)
        show some (zfl (zkp A p b) p (kfd fl_X2 65 (zkd A p))) = some (.int m)
        rw [zkd_d hp, hc, zfl_d hp]
        show some (zF (zkp A p b) p 0) = _
        rw [h1, hm]
      · rfl
    · have h : ¬ (Int32.ofInt 256).toInt ≤ i.toInt := h
      refine ⟨(b, i), rfl, ⟨hB, i0, by show i.toInt < 256; omega⟩, ?_⟩
      have hi1 := i_inc i0 (by omega)
      have hJ : zJ (zsI A 196 (ztr A b i.toInt.toNat)) (b + 1) = zJ A (b + 1) := rfl
      refine ⟨fun h2 => ?_, fun h2 => ?_⟩
      · have h2 : (zb (zhW (zJ A (b + 1)) i.toInt.toNat)).toInt = 0 := h2
        have h2 : zhW (zJ A (b + 1)) i.toInt.toNat = false := by
          cases hh : zhW (zJ A (b + 1)) i.toInt.toNat with
          | false => rfl
          | true =>
            rw [hh] at h2
            exact absurd h2 (by decide)
        refine ⟨i + 1, ⟨rfl, rfl, rfl, rfl, trivial⟩, rfl, zsI_ext (fun w => ?_), by omega, by omega⟩
        unfold ztr
        by_cases hw : w < i.toInt.toNat
        · by_cases hx : zhW (zJ A (b + 1)) w = true
          · rw [if_pos ⟨hw, hx⟩, if_pos ⟨by omega, hx⟩]
          · rw [if_neg (fun z => hx z.2), if_neg (fun z => hx z.2)]
        · rw [if_neg (fun z => hw z.1)]
          by_cases ew : w = i.toInt.toNat
          · rw [ew, h2, if_neg (fun z => by cases z.2)]
          · rw [if_neg (fun z => by omega)]
      · have h2 : ¬ (zb (zhW (zJ A (b + 1)) i.toInt.toNat)).toInt = 0 := h2
        have h2 : zhW (zJ A (b + 1)) i.toInt.toNat = true := by
          cases hh : zhW (zJ A (b + 1)) i.toInt.toNat with
          | true => rfl
          | false =>
            rw [hh] at h2
            exact absurd (by decide) h2
        refine ⟨i + 1, ⟨rfl, rfl, rfl, rfl, trivial⟩, rfl, zuI_zsI (fun w => ?_), by omega, by omega⟩
        show ztr A b (i + 1).toInt.toNat w = if w = i.toInt.toNat then zI (zsI A 196 (ztr A b i.toInt.toNat)) 196 i.toInt.toNat ||| (Int32.ofInt 1 <<< (iv (zF A 193 1) &&& 31)) else ztr A b i.toInt.toNat w
        rw [zsI_at]
        unfold ztr
        by_cases ew : w = i.toInt.toNat
        · rw [if_pos ew, ew, if_pos ⟨by omega, h2⟩, if_neg (fun z => by omega)]
        · rw [if_neg ew]
          by_cases hw : w < i.toInt.toNat
          · by_cases hx : zhW (zJ A (b + 1)) w = true
            · rw [if_pos ⟨by omega, hx⟩, if_pos ⟨hw, hx⟩]
            · rw [if_neg (fun z => hx z.2), if_neg (fun z => hx z.2)]
          · rw [if_neg (fun z => by omega), if_neg (fun z => hw z.1)]
  · obtain ⟨p, b, n, m⟩ := a
    obtain ⟨⟨hn, n0, n1⟩, n2, hp, hc, hm, hB⟩ := hp
    have e := e32_12
    have n2 : n.toInt < 12 := n2
    have hn : zF A 193 1 = .int n := hn
    refine ⟨fun h => ?_, fun h => ?_⟩
    · refine ⟨0, ⟨rfl, rfl, rfl, rfl, trivial⟩, rfl, (zsI_self (fun w => ?_)).symm, by decide, by decide⟩
      unfold ztr
      rw [if_neg (fun z => absurd z.1 (Nat.not_lt_zero w))]
    · have h : ¬ (iv (zF A 193 1)).toInt < (Int32.ofNat 12).toInt := h
      rw [hn] at h
      have h : ¬ n.toInt < (Int32.ofNat 12).toInt := h
      omega
end
section
/-! sets of bits, over places: become, turn, none there -/
theorem zA.setJ {A : zW} {ws : va_W} {sh : List Nat} {q p n : Nat} {cA : ClassId} {f g : Nat → Int64} (h : zA A ws sh) (hq : ws[q]? = some (p, .inl (cA, n, .inr (.inl f)))) : zA (zsJ A q g) (ws.set q (p, .inl (cA, n, .inr (.inl g)))) sh := by
  refine h.put hq rfl (fun _ => rfl) (fun _ _ _ => rfl) (fun j i hj => zsJ_ne hj) (fun _ _ _ => rfl) (fun _ _ _ => rfl) ?_
  obtain ⟨-, h1, h2⟩ := h.2.2 q p _ hq
  exact ⟨h1, fun i => zsJ_at⟩
def zq_cpl : zQ := fun Us A K => ∃ (a0 a1 : Nat) (sp dp n : Int32), Us = [.ref a0, .int sp, .ref a1, .int dp, .int n] ∧ K none (zsJ A a1 (va_cpy (zJ A a0) (zJ A a1) sp.toNatClampNeg dp.toNatClampNeg n.toNatClampNeg))
theorem z_cpl : zdo f_cpl zq_cpl := by
  intro As ws sh rv ws' sh' hx
  obtain ⟨a0, a1, sp, dp, n, q0, q1, n0, n1, c0, c1, f, g, rfl, h0, h1, rfl, rfl, rfl⟩ := hx
  refine ⟨zx_set h1, fun A Us K hA hv hK => ?_⟩
  obtain ⟨b0, b1, sp', dp', n', rfl, hK⟩ := hK
  obtain ⟨v1, v2, v3, v4, v5, -⟩ := hv
  have e2 : sp' = sp := by
    have h := v2.int
    injection h
  have e4 : dp' = dp := by
    have h := v4.int
    injection h
  have e5 : n' = n := by
    have h := v5.int
    injection h
  subst e2
  subst e4
  subst e5
  obtain ⟨p0, e0, z0, y0⟩ := v1
  injection z0 with z0
  subst z0
  obtain ⟨p1, e1, z1, y1⟩ := v3
  injection z1 with z1
  subst z1
  have i0 := hA.at_ h0 y0
  subst i0
  have i1 := hA.at_ h1 y1
  subst i1
  have g0 : zJ A b0 = f := funext fun i => (hA.2.2 b0 _ _ h0).2.2 i
  have g1 : zJ A b1 = g := funext fun i => (hA.2.2 b1 _ _ h1).2.2 i
  rw [g0, g1] at hK
  exact ⟨_, none, hA.setJ h1, trivial, hK⟩
def zq_min : zQ := zpu (fun a : Int32 × Int32 => [.int a.1, .int a.2]) (fun _ _ => True) (fun a _ => .int (if a.1.toInt ≤ a.2.toInt then a.1 else a.2))
set_option maxRecDepth 20000 in
theorem za_J9_min : zdo r_J9_min_7cf53 zq_min := by
  refine zdo_pu [] (fun _ _ => []) 40 fo_J9 rfl zs_nil k_J9_min_7cf53 (fun _ _ _ => no_zh) (fun a A _ => ?_)
  obtain ⟨x, y⟩ := a
  refine ⟨fun h => ?_, fun h => ?_⟩
  · have h : y.toInt < x.toInt := h
    refine ⟨?_, rfl⟩
    show some (Value.int y) = some (.int (if x.toInt ≤ y.toInt then x else y))
    rw [if_neg (by omega)]
  · have h : ¬ y.toInt < x.toInt := h
    refine ⟨?_, rfl⟩
    show some (Value.int x) = some (.int (if x.toInt ≤ y.toInt then x else y))
    rw [if_pos (by omega)]
theorem zB_lt {q n : Nat} (h : zB q n = true) : q + 1 < 385 := by
  unfold zB at h
  rw [Bool.and_eq_true] at h
  exact of_decide_eq_true h.1
theorem zB_f {q n : Nat} (h : zB q n = true) (A : zW) : zfl A q (kfd fl_X1 13 (zkd A q)) = .ref (q + 1) := by
  obtain ⟨b1, b2, -⟩ := zB_at h A
  rw [b2]
  exact b1
theorem zB_l {q n : Nat} (h : zB q n = true) (A : zW) : zkd A (rv_ (zfl A q (kfd fl_X1 13 (zkd A q)))) = n := by
  rw [zB_f h]
  exact (zB_at h A).2.2
theorem e32N {n : Nat} (h : n ≤ 64) : (Int32.ofNat n).toInt = n := Int32.toInt_ofNat_of_lt (by omega)
/-- the words of another set come -/
def zbe (A : zW) (q p n : Nat) : zW := zsJ A (q + 1) (fun x => if x < n then zJ A (p + 1) x else zJ A (q + 1) x)
def zq_become : zQ := zfu (fun a : Nat × Nat × Nat => [.ref a.1, .ref a.2.1]) (fun a _ => zB a.1 a.2.2 = true ∧ zB a.2.1 a.2.2 = true ∧ a.2.2 ≤ 64) (fun _ _ => none) (fun a A => zbe A a.1 a.2.1 a.2.2)
set_option maxRecDepth 20000 in
set_option maxHeartbeats 4000000 in
theorem za_X1_become : zdo r_X1_become zq_become := by
  refine zdo_fu [(91, 2, zq_min), (100, 5, zq_cpl)] (fun _ _ => []) 60 fo_X1 rfl (zs_cons rfl za_J9_min (zs_cons rfl z_cpl zs_nil)) k_X1_become (fun _ _ _ => no_zh) (fun a A hp => ?_)
  obtain ⟨q, p, n⟩ := a
  obtain ⟨h1, h2, hn⟩ := hp
  have h1 : zB q n = true := h1
  have h2 : zB p n = true := h2
  have hn : n ≤ 64 := hn
  refine ⟨(Int32.ofNat (zkd A (rv_ (zfl A q (kfd fl_X1 13 (zkd A q))))), Int32.ofNat (zkd A (rv_ (zfl A p (kfd fl_X1 13 (zkd A p)))))), rfl, trivial, ?_⟩
  refine ⟨p + 1, q + 1, 0, 0, Int32.ofNat n, ?_, rfl, ?_⟩
  · show [zfl A p (kfd fl_X1 13 (zkd A p)), Value.int 0, zfl A q (kfd fl_X1 13 (zkd A q)), Value.int 0, .int (if (Int32.ofNat (zkd A (rv_ (zfl A q (kfd fl_X1 13 (zkd A q)))))).toInt ≤ (Int32.ofNat (zkd A (rv_ (zfl A p (kfd fl_X1 13 (zkd A p)))))).toInt then Int32.ofNat (zkd A (rv_ (zfl A q (kfd fl_X1 13 (zkd A q))))) else Int32.ofNat (zkd A (rv_ (zfl A p (kfd fl_X1 13 (zkd A p))))))] = _
    rw [zB_l h1, zB_l h2, zB_f h1, zB_f h2, if_pos (Int.le_refl _)]
  · show zsJ A (q + 1) (va_cpy (zJ A (p + 1)) (zJ A (q + 1)) (0 : Int32).toNatClampNeg (0 : Int32).toNatClampNeg (Int32.ofNat n).toNatClampNeg) = zbe A q p n
    refine zsJ_ext (fun x => ?_)
    have e : (Int32.ofNat n).toNatClampNeg = n := by
      show (Int32.ofNat n).toInt.toNat = n
      rw [e32N hn]
      rfl
    rw [e]
    show va_cpy (zJ A (p + 1)) (zJ A (q + 1)) 0 0 n x = _
    unfold va_cpy
    by_cases hx : x < n
    · rw [if_pos hx, if_pos (by omega)]
      exact congrArg _ (by omega)
    · rw [if_neg hx, if_neg (by omega)]
/-- each word turned -/
def ztn (A : zW) (q n : Nat) : zW := zsJ A (q + 1) (fun x => if x < n then o_turn (zJ A (q + 1) x) else zJ A (q + 1) x)
def zq_turn : zQ := zfu (fun a : Nat × Nat => [.ref a.1]) (fun a _ => zB a.1 a.2 = true ∧ a.2 ≤ 64) (fun _ _ => none) (fun a A => ztn A a.1 a.2)
def in_ztn (A : zW) (q n : Nat) : fL_ → List Value → zW → Prop := fun lg vs A' => ∃ t : Int32, f_sub [(1, false, .int t), (0, false, .ref q)] lg ∧ vs = [] ∧ A' = zsJ A (q + 1) (fun x => if x < t.toInt.toNat then o_turn (zJ A (q + 1) x) else zJ A (q + 1) x) ∧ 0 ≤ t.toInt ∧ t.toInt ≤ n
set_option maxRecDepth 20000 in
set_option maxHeartbeats 4000000 in
theorem za_X1_turn : zdo r_X1_turn zq_turn := by
  refine zdo_fu [] (fun a A => [(2, in_ztn A a.1 a.2)]) 60 fo_X1 rfl zs_nil k_X1_turn (fun a A hp => ?_) (fun a A hp => ?_)
  · obtain ⟨q, n⟩ := a
    obtain ⟨hB, hn⟩ := hp
    have hB : zB q n = true := hB
    have hn : n ≤ 64 := hn
    refine List.forall_mem_cons.mpr ⟨?_, fun _ h => absurd h List.not_mem_nil⟩
    rintro lg vs A' ⟨t, hs, rfl, rfl, t0, t1⟩
    have t1 : t.toInt ≤ (n : Int) := t1
    have g := zB_f hB (zsJ A (q + 1) (fun x => if x < t.toInt.toNat then o_turn (zJ A (q + 1) x) else zJ A (q + 1) x))
    have l := zB_l hB (zsJ A (q + 1) (fun x => if x < t.toInt.toNat then o_turn (zJ A (q + 1) x) else zJ A (q + 1) x))
    have en := e32N hn
    refine ⟨_, 60, hs, fun h => ?_, fun h => ?_⟩
    · have h : (Int32.ofNat (zkd (zsJ A (q + 1) (fun x => if x < t.toInt.toNat then o_turn (zJ A (q + 1) x) else zJ A (q + 1) x)) (rv_ (zfl (zsJ A (q + 1) (fun x => if x < t.toInt.toNat then o_turn (zJ A (q + 1) x) else zJ A (q + 1) x)) q (kfd fl_X1 13 (zkd (zsJ A (q + 1) (fun x => if x < t.toInt.toNat then o_turn (zJ A (q + 1) x) else zJ A (q + 1) x)) q)))))).toInt ≤ t.toInt := h
      rw [l, en] at h
      refine ⟨rfl, zsJ_ext (fun x => ?_)⟩
      show (if x < t.toInt.toNat then o_turn (zJ A (q + 1) x) else zJ A (q + 1) x) = if x < n then o_turn (zJ A (q + 1) x) else zJ A (q + 1) x
      rw [show t.toInt.toNat = n by omega]
    · have h : ¬ (Int32.ofNat (zkd (zsJ A (q + 1) (fun x => if x < t.toInt.toNat then o_turn (zJ A (q + 1) x) else zJ A (q + 1) x)) (rv_ (zfl (zsJ A (q + 1) (fun x => if x < t.toInt.toNat then o_turn (zJ A (q + 1) x) else zJ A (q + 1) x)) q (kfd fl_X1 13 (zkd (zsJ A (q + 1) (fun x => if x < t.toInt.toNat then o_turn (zJ A (q + 1) x) else zJ A (q + 1) x)) q)))))).toInt ≤ t.toInt := h
      rw [l, en] at h
      have hi := i_inc t0 (by omega)
      refine ⟨t + 1, ⟨rfl, rfl, trivial⟩, rfl, ?_, by omega, by omega⟩
      show zuJ (zsJ A (q + 1) (fun x => if x < t.toInt.toNat then o_turn (zJ A (q + 1) x) else zJ A (q + 1) x)) (rv_ (zfl (zsJ A (q + 1) (fun x => if x < t.toInt.toNat then o_turn (zJ A (q + 1) x) else zJ A (q + 1) x)) q (kfd fl_X1 13 (zkd (zsJ A (q + 1) (fun x => if x < t.toInt.toNat then o_turn (zJ A (q + 1) x) else zJ A (q + 1) x)) q)))) t.toInt.toNat (o_turn (zJ (zsJ A (q + 1) (fun x => if x < t.toInt.toNat then o_turn (zJ A (q + 1) x) else zJ A (q + 1) x)) (rv_ (zfl (zsJ A (q + 1) (fun x => if x < t.toInt.toNat then o_turn (zJ A (q + 1) x) else zJ A (q + 1) x)) q (kfd fl_X1 13 (zkd (zsJ A (q + 1) (fun x => if x < t.toInt.toNat then o_turn (zJ A (q + 1) x) else zJ A (q + 1) x)) q)))) t.toInt.toNat)) = _
      rw [g]
      refine zuJ_zsJ (fun x => ?_)
      show _ = if x = t.toInt.toNat then o_turn (zJ (zsJ A (q + 1) _) (q + 1) t.toInt.toNat) else _
      rw [zsJ_at, if_neg (Nat.lt_irrefl _)]
      by_cases ex : x = t.toInt.toNat
      · rw [if_pos ex, ex, if_pos (by omega)]
      · rw [if_neg ex]
        by_cases hx : x < t.toInt.toNat
        · rw [if_pos hx, if_pos (by omega)]
        · rw [if_neg hx, if_neg (by omega)]
  · refine ⟨0, ⟨rfl, rfl, trivial⟩, rfl, (zsJ_self (fun x => ?_)).symm, by decide, ?_⟩
    · rw [if_neg (show ¬ x < (0 : Int32).toInt.toNat from fun z => absurd z (Nat.not_lt_zero x))]
    · have e0 : (0 : Int32).toInt = 0 := by decide
      rw [e0]
      omega
/-- no word has a bit -/
def zzB (f : Nat → Int64) (n : Nat) : Bool := (List.range n).all (fun x => decide ((f x).toInt = (Int64.ofNat 0).toInt))
theorem zzB_t {f : Nat → Int64} {n : Nat} : zzB f n = true ↔ ∀ x, x < n → (f x).toInt = (Int64.ofNat 0).toInt := by
  unfold zzB
  rw [List.all_eq_true]
  exact ⟨fun h x hx => of_decide_eq_true (h x (List.mem_range.mpr hx)), fun h x hx => decide_eq_true (h x (List.mem_range.mp hx))⟩
theorem zzB_f {f : Nat → Int64} {n x : Nat} (hx : x < n) (h : ¬ (f x).toInt = (Int64.ofNat 0).toInt) : zzB f n = false := by
  cases hb : zzB f n with
  | false => rfl
  | true => exact absurd (zzB_t.mp hb x hx) h
def zq_isEmpty : zQ := zpu (fun a : Nat × Nat => [.ref a.1]) (fun a _ => zB a.1 a.2 = true ∧ a.2 ≤ 64) (fun a A => .int (zb (zzB (zJ A (a.1 + 1)) a.2)))
def in_zem (A : zW) (q n : Nat) : fL_ → List Value → zW → Prop := fun lg vs A' => ∃ t : Int32, f_sub [(1, false, .int t), (0, false, .ref q)] lg ∧ vs = [] ∧ A' = A ∧ (0 ≤ t.toInt ∧ t.toInt ≤ n) ∧ ∀ x, x < t.toInt.toNat → (zJ A (q + 1) x).toInt = (Int64.ofNat 0).toInt
set_option maxRecDepth 20000 in
set_option maxHeartbeats 4000000 in
theorem za_X1_isEmpty : zdo r_X1_isEmpty zq_isEmpty := by
  refine zdo_pu [] (fun a A => [(2, in_zem A a.1 a.2)]) 60 fo_X1 rfl zs_nil k_X1_isEmpty (fun a A hp => ?_) (fun a A hp => ?_)
  · obtain ⟨q, n⟩ := a
    obtain ⟨hB, hn⟩ := hp
    have hB : zB q n = true := hB
    have hn : n ≤ 64 := hn
    refine List.forall_mem_cons.mpr ⟨?_, fun _ h => absurd h List.not_mem_nil⟩
    rintro lg vs A' ⟨t, hs, rfl, rfl, ⟨t0, t1⟩, hz⟩
    have t1 : t.toInt ≤ (n : Int) := t1
    have g := zB_f hB A'
    have l := zB_l hB A'
    have en := e32N hn
    refine ⟨_, 60, hs, fun h => ?_, fun h => ⟨fun h2 => ?_, fun h2 => ?_⟩⟩
    · have h : (Int32.ofNat (zkd A' (rv_ (zfl A' q (kfd fl_X1 13 (zkd A' q)))))).toInt ≤ t.toInt := h
      rw [l, en] at h
      refine ⟨?_, rfl⟩
      show some (Value.int 1) = some (.int (zb (zzB (zJ A' (q + 1)) n)))
      rw [zzB_t.mpr (fun x hx => hz x (by omega))]
      rfl
    · have h : ¬ (Int32.ofNat (zkd A' (rv_ (zfl A' q (kfd fl_X1 13 (zkd A' q)))))).toInt ≤ t.toInt := h
      rw [l, en] at h
      have h2 : ck_cm .eq (lg_cmp (zJ A' (rv_ (zfl A' q (kfd fl_X1 13 (zkd A' q)))) t.toInt.toNat) (Int64.ofNat 0)).toInt 0 := h2
      rw [g] at h2
      have h2 : (zJ A' (q + 1) t.toInt.toNat).toInt = (Int64.ofNat 0).toInt := ck_cm_lg.mp h2
      have hi := i_inc t0 (by omega)
      refine ⟨t + 1, ⟨rfl, rfl, trivial⟩, rfl, rfl, ⟨by omega, by show (t + 1).toInt ≤ (n : Int); omega⟩, fun x hx => ?_⟩
      by_cases ex : x = t.toInt.toNat
      · rw [ex]
        exact h2
      · exact hz x (by omega)
    · have h : ¬ (Int32.ofNat (zkd A' (rv_ (zfl A' q (kfd fl_X1 13 (zkd A' q)))))).toInt ≤ t.toInt := h
      rw [l, en] at h
      have h2 : ¬ ck_cm .eq (lg_cmp (zJ A' (rv_ (zfl A' q (kfd fl_X1 13 (zkd A' q)))) t.toInt.toNat) (Int64.ofNat 0)).toInt 0 := h2
      rw [g] at h2
      have h2 : ¬ (zJ A' (q + 1) t.toInt.toNat).toInt = (Int64.ofNat 0).toInt := fun z => h2 (ck_cm_lg.mpr z)
      refine ⟨?_, rfl⟩
      show some (Value.int 0) = some (.int (zb (zzB (zJ A' (q + 1)) n)))
      rw [zzB_f (show t.toInt.toNat < n by omega) h2]
      rfl
  · refine ⟨0, ⟨rfl, rfl, trivial⟩, rfl, rfl, ⟨by decide, ?_⟩, fun x hx => ?_⟩
    · have e0 : (0 : Int32).toInt = 0 := by decide
      rw [e0]
      omega
    · exact absurd (show x < (0 : Int32).toInt.toNat from hx) (Nat.not_lt_zero x)
/-- the reference's counts -/
def zq_countBits : zQ := zpu (fun a : Int64 => [.long a]) (fun _ _ => True) (fun a _ => .int (cbA a 64))
def in_zcb (A : zW) (a : Int64) : fL_ → List Value → zW → Prop := fun lg vs A' => ∃ t : Int32, f_sub [(3, false, .int t), (2, false, .int (cbA a t.toInt.toNat)), (0, true, .long a)] lg ∧ vs = [] ∧ A' = A ∧ 0 ≤ t.toInt ∧ t.toInt ≤ 64
set_option maxRecDepth 20000 in
set_option maxHeartbeats 4000000 in
theorem za_X12_countBits : zdo r_X12_countBits zq_countBits := by
  refine zdo_pu [] (fun a A => [(4, in_zcb A a)]) 60 fo_X12 rfl zs_nil k_X12_countBits (fun a A hp => ?_) (fun a A hp => ?_)
  · refine List.forall_mem_cons.mpr ⟨?_, fun _ h => absurd h List.not_mem_nil⟩
    rintro lg vs A' ⟨t, hs, rfl, rfl, t0, t4⟩
    have e64 : (Int32.ofInt 64).toInt = 64 := by decide
    refine ⟨_, 60, hs, fun hc => ?_, fun hc => ?_⟩
    · have hc : (Int32.ofInt 64).toInt ≤ t.toInt := hc
      rw [e64] at hc
      refine ⟨?_, rfl⟩
      show some (Value.int (cbA a t.toInt.toNat)) = some (.int (cbA a 64))
      rw [show t.toInt.toNat = 64 by omega]
    · have hc : ¬ (Int32.ofInt 64).toInt ≤ t.toInt := hc
      rw [e64] at hc
      have i0 := i_inc t0 (by omega)
      have i3 : (t + 1).toInt.toNat = t.toInt.toNat + 1 := by rw [i0]; omega
      have et : t = Int32.ofNat t.toInt.toNat := n32_of (by omega)
      refine ⟨t + 1, ⟨rfl, ?_, rfl, trivial⟩, rfl, rfl, by omega, by omega⟩
      rw [i3]
      show some (false, Value.int (cbA a t.toInt.toNat + (us_ a t &&& Int64.ofNat 1).toInt32)) = some (false, .int (cbA a t.toInt.toNat + (us_ a (Int32.ofNat t.toInt.toNat) &&& Int64.ofNat 1).toInt32))
      rw [← et]
  · exact ⟨0, ⟨rfl, rfl, rfl, trivial⟩, rfl, rfl, by decide, by decide⟩
/-- the words of the reference's sentence -/
def zsw (A : zW) (s : Nat) : Nat → Int64 := fun x => zJ A 344 (4 * s + x)
def zq_countAt : zQ := zpu (fun s : Int32 => [.ref 343, .int s]) (fun s _ => 0 ≤ s.toInt ∧ s.toInt < 60) (fun s A => .int (szA (fun v => cbA v 64) (zsw A s.toInt.toNat) 4))
def in_zca (A : zW) (s : Int32) : fL_ → List Value → zW → Prop := fun lg vs A' => ∃ t : Int32, f_sub [(3, false, .int t), (2, false, .int (szA (fun v => cbA v 64) (zsw A s.toInt.toNat) t.toInt.toNat)), (0, false, .ref 343), (1, false, .int s)] lg ∧ vs = [] ∧ A' = A ∧ 0 ≤ t.toInt ∧ t.toInt ≤ 4
set_option maxRecDepth 20000 in
set_option maxHeartbeats 4000000 in
theorem za_X12_countAt : zdo r_X12_countAt zq_countAt := by
  refine zdo_pu [(679, 1, zq_countBits)] (fun s A => [(4, in_zca A s)]) 60 fo_X12 rfl (zs_cons rfl za_X12_countBits zs_nil) k_X12_countAt (fun s A hp => ?_) (fun s A hp => ?_)
  · refine List.forall_mem_cons.mpr ⟨?_, fun _ h => absurd h List.not_mem_nil⟩
    rintro lg vs A' ⟨t, hs, rfl, rfl, t0, t4⟩
    have e4 : (Int32.ofInt 4).toInt = 4 := by decide
    refine ⟨_, 60, hs, fun hc => ?_, fun hc => ?_⟩
    · have hc : (Int32.ofInt 4).toInt ≤ t.toInt := hc
      rw [e4] at hc
      refine ⟨?_, rfl⟩
      show some (Value.int (szA (fun v => cbA v 64) (zsw A' s.toInt.toNat) t.toInt.toNat)) = some (.int (szA (fun v => cbA v 64) (zsw A' s.toInt.toNat) 4))
      rw [t_end t4 hc]
    · have hc : ¬ (Int32.ofInt 4).toInt ≤ t.toInt := hc
      rw [e4] at hc
      obtain ⟨i1, i2, i3⟩ := t_inc t0 (show t.toInt < 4 by omega)
      have eu : zJ A' 344 (Int32.ofInt 4 * s + t).toNatClampNeg = zsw A' s.toInt.toNat t.toInt.toNat := by
        show zJ A' 344 (Int32.ofInt 4 * s + t).toInt.toNat = _
        rw [four_ix hp t0 t4]
        rfl
      refine ⟨zJ A' 344 (Int32.ofInt 4 * s + t).toNatClampNeg, rfl, trivial, t + 1, ⟨rfl, ?_, rfl, rfl, trivial⟩, rfl, rfl, i1, i2⟩
      show some (false, Value.int (szA (fun v => cbA v 64) (zsw A' s.toInt.toNat) t.toInt.toNat + cbA (zJ A' 344 (Int32.ofInt 4 * s + t).toNatClampNeg) 64)) = some (false, .int (szA (fun v => cbA v 64) (zsw A' s.toInt.toNat) (t + 1).toInt.toNat))
      rw [eu, i3]
      rfl
  · exact ⟨0, ⟨rfl, rfl, rfl, rfl, trivial⟩, rfl, rfl, by decide, by decide⟩
end
section
/-! hold, on both sides -/
/-- a refusal, or none -/
def zhdV (c n s u f t k : Int32) : Option Int32 := if ¬ ((0 ≤ s.toInt ∧ s.toInt < c.toInt) ∧ (0 ≤ u.toInt ∧ u.toInt < 6)) then some (-1) else if ¬ ((0 ≤ f.toInt ∧ f.toInt < 100) ∧ (0 ≤ t.toInt ∧ t.toInt < 100) ∧ f.toInt ≤ t.toInt ∧ (0 ≤ k.toInt ∧ k.toInt < 100)) then some (-2) else if ¬ n.toInt < 12 then some (-4) else none
theorem zhd_1 {c n s u f t k : Int32} (h : ¬ ((0 ≤ s.toInt ∧ s.toInt < c.toInt) ∧ (0 ≤ u.toInt ∧ u.toInt < 6))) : zhdV c n s u f t k = some (-1) := if_pos h
theorem zhd_2 {c n s u f t k : Int32} (h : (0 ≤ s.toInt ∧ s.toInt < c.toInt) ∧ (0 ≤ u.toInt ∧ u.toInt < 6)) (h2 : ¬ ((0 ≤ f.toInt ∧ f.toInt < 100) ∧ (0 ≤ t.toInt ∧ t.toInt < 100) ∧ f.toInt ≤ t.toInt ∧ (0 ≤ k.toInt ∧ k.toInt < 100))) : zhdV c n s u f t k = some (-2) := by
  unfold zhdV
  rw [if_neg (fun z => z h), if_pos h2]
theorem zhd_4 {c n s u f t k : Int32} (h : (0 ≤ s.toInt ∧ s.toInt < c.toInt) ∧ (0 ≤ u.toInt ∧ u.toInt < 6)) (h2 : (0 ≤ f.toInt ∧ f.toInt < 100) ∧ (0 ≤ t.toInt ∧ t.toInt < 100) ∧ f.toInt ≤ t.toInt ∧ (0 ≤ k.toInt ∧ k.toInt < 100)) (h3 : ¬ n.toInt < 12) : zhdV c n s u f t k = some (-4) := by
  unfold zhdV
  rw [if_neg (fun z => z h), if_neg (fun z => z h2), if_pos h3]
theorem zhd_n {c n s u f t k : Int32} (h : (0 ≤ s.toInt ∧ s.toInt < c.toInt) ∧ (0 ≤ u.toInt ∧ u.toInt < 6)) (h2 : (0 ≤ f.toInt ∧ f.toInt < 100) ∧ (0 ≤ t.toInt ∧ t.toInt < 100) ∧ f.toInt ≤ t.toInt ∧ (0 ≤ k.toInt ∧ k.toInt < 100)) (h3 : n.toInt < 12) : zhdV c n s u f t k = none := by
  unfold zhdV
  rw [if_neg (fun z => z h), if_neg (fun z => z h2), if_neg (fun z => z h3)]
theorem zhd_g {c n s u f t k : Int32} (h : zhdV c n s u f t k = none) : ((0 ≤ s.toInt ∧ s.toInt < c.toInt) ∧ (0 ≤ u.toInt ∧ u.toInt < 6)) ∧ ((0 ≤ f.toInt ∧ f.toInt < 100) ∧ (0 ≤ t.toInt ∧ t.toInt < 100) ∧ f.toInt ≤ t.toInt ∧ (0 ≤ k.toInt ∧ k.toInt < 100)) ∧ n.toInt < 12 := by
  unfold zhdV at h
  split at h
  · cases h
  · rename_i h1
    split at h
    · cases h
    · rename_i h2
      split at h
      · cases h
      · rename_i h3
        exact ⟨Classical.not_not.mp h1, Classical.not_not.mp h2, Classical.not_not.mp h3⟩
/-- the class's book with an entry more -/
def znE (A : zW) (D : Nat → Value) (s u f t k : Int32) : zW := zkp (zent (zuN A 4 7 D) (zN A) (iv (zF A 193 1)) s u f t k) (zN A) (2 + 2 * s.toInt.toNat)
def zhdQ (R : Option Int32) (n : Int32) (G : zW → Prop) (A : zW) (rv : Option Value) (A' : zW) : Prop := match R with
  | some v => rv = some (.int v) ∧ A' = A
  | none => rv = some (.int n) ∧ G A'
theorem zhd_no {R : Option Int32} {n v : Int32} {G : zW → Prop} {A : zW} (h : R = some v) : zhdQ R n G A (some (.int v)) A := by
  subst h
  exact ⟨rfl, rfl⟩
abbrev zhdA : Type := (Int32 × Int32) × Int32 × Int32 × Int32 × Int32 × Int32
def zhd_F (q : Nat) : zhdA → List Value := fun (_, s, u, f, t, k) => [.ref q, .int s, .int u, .int f, .int t, .int k]
def zhd_P : zhdA → zW → Prop := fun ((c, n), _, _, _, _, _) A => (zF A 0 1 = .int c ∧ c.toInt ≤ 60) ∧ zcE A n ∧ 385 ≤ zN A
def zhd_Q : zhdA → zW → Option Value → zW → Prop := fun ((c, n), s, u, f, t, k) A rv A' => zhdQ (zhdV c n s u f t k) n (fun A' => ∃ D, A' = znE A D s u f t k) A rv A'
def zq_hold : zQ := zs (zhd_F 0) zhd_P zhd_Q
theorem zent_0 {A : zW} {p : Nat} {n s u f t k : Int32} : zF (zent A p n s u f t k) p 0 = .int n := by
  unfold zent
  rw [zuF_x, if_neg (fun z => by cases z.2), zuF_x, if_neg (fun z => by cases z.2), zuF_x, if_neg (fun z => by cases z.2), zuF_x, if_neg (fun z => by cases z.2), zuF_x, if_neg (fun z => by cases z.2), zuF_x, if_neg (fun z => by cases z.2), zuF_x, if_pos ⟨rfl, rfl⟩]
theorem zent_1 {A : zW} {p : Nat} {n s u f t k : Int32} : zF (zent A p n s u f t k) p 1 = .int s := by
  unfold zent
  rw [zuF_x, if_neg (fun z => by cases z.2), zuF_x, if_neg (fun z => by cases z.2), zuF_x, if_neg (fun z => by cases z.2), zuF_x, if_neg (fun z => by cases z.2), zuF_x, if_neg (fun z => by cases z.2), zuF_x, if_pos ⟨rfl, rfl⟩]
theorem zent_2 {A : zW} {p : Nat} {n s u f t k : Int32} : zF (zent A p n s u f t k) p 2 = .int u := by
  unfold zent
  rw [zuF_x, if_neg (fun z => by cases z.2), zuF_x, if_neg (fun z => by cases z.2), zuF_x, if_neg (fun z => by cases z.2), zuF_x, if_neg (fun z => by cases z.2), zuF_x, if_pos ⟨rfl, rfl⟩]
theorem zent_3 {A : zW} {p : Nat} {n s u f t k : Int32} : zF (zent A p n s u f t k) p 3 = .int f := by
  unfold zent
  rw [zuF_x, if_neg (fun z => by cases z.2), zuF_x, if_neg (fun z => by cases z.2), zuF_x, if_neg (fun z => by cases z.2), zuF_x, if_pos ⟨rfl, rfl⟩]
theorem zent_4 {A : zW} {p : Nat} {n s u f t k : Int32} : zF (zent A p n s u f t k) p 4 = .int t := by
  unfold zent
  rw [zuF_x, if_neg (fun z => by cases z.2), zuF_x, if_neg (fun z => by cases z.2), zuF_x, if_pos ⟨rfl, rfl⟩]
theorem zent_5 {A : zW} {p : Nat} {n s u f t k : Int32} : zF (zent A p n s u f t k) p 5 = .int k := by
  unfold zent
  rw [zuF_x, if_neg (fun z => by cases z.2), zuF_x, if_pos ⟨rfl, rfl⟩]
theorem zent_6 {A : zW} {p : Nat} {n s u f t k : Int32} : zF (zent A p n s u f t k) p 6 = .int (Int32.ofInt (-9)) := by
  unfold zent
  rw [zuF_x, if_pos ⟨rfl, rfl⟩]
theorem zent_ne {A : zW} {p j i : Nat} {n s u f t k : Int32} (h : j ≠ p) : zF (zent A p n s u f t k) j i = zF A j i := by
  unfold zent
  rw [zuF_ne h, zuF_ne h, zuF_ne h, zuF_ne h, zuF_ne h, zuF_ne h, zuF_ne h]
theorem zuN_k {A : zW} {ci t : Nat} {D : Nat → Value} : zK (zuN A ci t D) (zN A) = (ci, t) := by
  show (bif Nat.beq (zN A) (zN A) then (ci, t) else zK A (zN A)) = _
  rw [nbT]
  rfl
theorem zuN_f {A : zW} {ci t j k : Nat} {D : Nat → Value} (h : j ≠ zN A) : zF (zuN A ci t D) j k = zF A j k := by
  show (bif Nat.beq j (zN A) then D k else zF A j k) = _
  rw [nbF h]
  rfl
theorem zuN_K {A : zW} {ci t j : Nat} {D : Nat → Value} (h : j ≠ zN A) : zK (zuN A ci t D) j = zK A j := by
  show (bif Nat.beq j (zN A) then (ci, t) else zK A j) = _
  rw [nbF h]
  rfl
/-- what stands at a fixed place isn't the new object's -/
theorem znN {A : zW} {q : Nat} (h : 385 ≤ zN A) (hq : q < 385) : q ≠ zN A := by omega
theorem zcE.new {A : zW} {n : Int32} {D : Nat → Value} {s u f t k : Int32} (h : zcE A n) (hN : 385 ≤ zN A) : zcE (zent (zuN A 4 7 D) (zN A) (iv (zF A 193 1)) s u f t k) n := by
  obtain ⟨h1, h2⟩ := h
  refine ⟨?_, h2⟩
  rw [zent_ne (znN hN (by decide)), zuN_f (znN hN (by decide))]
  exact h1
def Sp_zhd : zP := [(381, 2, zq_sentenceAt), (487, 1, q_isSource), (505, 1, q_isTime), (513, 1, zq_isFullE), (542, 7, zq_Entry), (549, 3, zq_keepE)]
theorem Sp_zhd_ok : zsp T_X11_hold Sp_zhd := zs_cons rfl za_X11_sentenceAt (zs_cons rfl za_X11_isSource (zs_cons rfl za_X11_isTime (zs_cons rfl za_X2_isFull (zs_cons rfl za_X4_init (zs_cons rfl za_X2_keep zs_nil)))))
set_option maxRecDepth 20000 in
set_option maxHeartbeats 4000000 in
theorem za_X11_hold : zdo r_X11_hold zq_hold := by
  refine zdo_of _ _ _ Sp_zhd (fun _ _ => []) 80 fo_X11 rfl Sp_zhd_ok k_X11_hold (fun _ _ _ => no_zh) (fun a A hp => ?_)
  obtain ⟨⟨c, n⟩, s, u, f, t, k⟩ := a
  obtain ⟨⟨hc, hc60⟩, hE, hN⟩ := hp
  have hc60 : c.toInt ≤ 60 := hc60
  have no : ∀ v : Int32, zhdV c n s u f t k = some v → zhd_Q ((c, n), s, u, f, t, k) A (some (.int v)) A := fun v h => (zhd_no h : zhdQ (zhdV c n s u f t k) n (fun A' => ∃ D, A' = znE A D s u f t k) A (some (.int v)) A)
  refine ⟨(s, c), rfl, ⟨hc, hc60⟩, fun h => ?_, fun h => ?_⟩
  · exact no _ (zhd_1 (fun z => zat_n (fun z => by cases z) h z.1))
  have hs : 0 ≤ s.toInt ∧ s.toInt < c.toInt := zat_y h
  have e1 : zat c s (.ref (2 + 2 * s.toInt.toNat)) = .ref (2 + 2 * s.toInt.toNat) := if_pos hs
  refine ⟨u, rfl, trivial, fun h => ?_, fun h => ?_⟩
  rotate_left
  · exact no _ (zhd_1 (fun z => zb_n (Classical.not_not.mp h) z.2))
  have hu := zb_y h
  refine ⟨f, rfl, trivial, fun h => ?_, fun h => ?_⟩
  · exact no _ (zhd_2 ⟨hs, hu⟩ (fun z => zb_n h z.1))
  have hf := zb_y h
  refine ⟨t, rfl, trivial, fun h => ?_, fun h => ?_⟩
  · exact no _ (zhd_2 ⟨hs, hu⟩ (fun z => zb_n h z.2.1))
  have ht := zb_y h
  refine ⟨fun h => ?_, fun h => ?_⟩
  · have h : t.toInt < f.toInt := h
    exact no _ (zhd_2 ⟨hs, hu⟩ (fun z => by omega))
  have h : ¬ t.toInt < f.toInt := h
  have hft : f.toInt ≤ t.toInt := by omega
  refine ⟨k, rfl, trivial, fun h => ?_, fun h => ?_⟩
  rotate_left
  · exact no _ (zhd_2 ⟨hs, hu⟩ (fun z => zb_n (Classical.not_not.mp h) z.2.2.2))
  have hk := zb_y h
  refine ⟨n, rfl, hE, fun h => ?_, fun h => ?_⟩
  rotate_left
  · exact no _ (zhd_4 ⟨hs, hu⟩ ⟨hf, ht, hft, hk⟩ (zb_y h))
  have hn := Classical.not_not.mp (zb_n h)
  intro D
  refine ⟨(zN A, iv (zF A 193 1), s, u, f, t, k), ?_, ⟨hN, ?_⟩, ?_⟩
  · show [Value.ref (zN A), zF (zuN A 4 7 D) 193 1, .int s, .int u, .int f, .int t, .int k] = _
    rw [zuN_f (znN hN (by decide)), hE.1]
    rfl
  · show (zK (zuN A 4 7 D) (zN A)).1 = 4
    rw [zuN_k]
  refine ⟨(zN A, 2 + 2 * s.toInt.toNat, n, iv (zF A 193 1)), ?_, ⟨hE.new hN, hn, hN, ?_, zent_0, zB_s (show s.toInt.toNat < 60 by omega)⟩, ?_⟩
  · show [Value.ref 193, Value.ref (zN A), zat c s (.ref (2 + 2 * s.toInt.toNat))] = _
    rw [e1]
  · show (zK (zuN A 4 7 D) (zN A)).1 = 4
    rw [zuN_k]
  · show zhdQ (zhdV c n s u f t k) n (fun A' => ∃ D, A' = znE A D s u f t k) A (some (.int (iv (zF A 193 1)))) (zkp (zent (zuN A 4 7 D) (zN A) (iv (zF A 193 1)) s u f t k) (zN A) (2 + 2 * s.toInt.toNat))
    rw [zhd_n ⟨hs, hu⟩ ⟨hf, ht, hft, hk⟩ hn]
    refine ⟨?_, D, rfl⟩
    rw [hE.1]
    rfl
/-- the reference's -/
def zov (A : zW) : zW := zuF (zuF (zuF A 343 19 (.int (Int32.ofInt 0))) 343 33 (.int (Int32.ofInt 0))) 343 55 (.int (Int32.ofInt 0))
def zq_otherView : zQ := zfu (fun _ : Unit => [.ref 343]) (fun _ _ => True) (fun _ _ => none) (fun _ A => zov A)
set_option maxRecDepth 20000 in
theorem za_X12_otherView : zdo r_X12_otherView zq_otherView := by
  refine zdo_fu [] (fun _ _ => []) 40 fo_X12 rfl zs_nil k_X12_otherView (fun _ _ _ => no_zh) (fun _ A _ => ?_)
  exact ⟨rfl, rfl, rfl, rfl, rfl⟩
def zae (A : zW) (s u f t k : Int32) : zW := zov (zuF (zuF (zuI (zuI (zuI (zuI (zuI (zuI A 348 (iv (zF A 343 8)).toNatClampNeg s) 349 (iv (zF A 343 8)).toNatClampNeg u) 350 (iv (zF A 343 8)).toNatClampNeg f) 351 (iv (zF A 343 8)).toNatClampNeg t) 352 (iv (zF A 343 8)).toNatClampNeg k) 353 (iv (zF A 343 8)).toNatClampNeg (Int32.ofInt (-9))) 343 8 (.int (iv (zF A 343 8) + Int32.ofInt 1))) 343 17 (.int (Int32.ofInt 0)))
def zq_addEntry : zQ := zfu (fun a : Int32 × Int32 × Int32 × Int32 × Int32 => [.ref 343, .int a.1, .int a.2.1, .int a.2.2.1, .int a.2.2.2.1, .int a.2.2.2.2]) (fun _ _ => True) (fun _ A => some (.int (iv (zF A 343 8) + Int32.ofInt 1 - Int32.ofInt 1))) (fun a A => zae A a.1 a.2.1 a.2.2.1 a.2.2.2.1 a.2.2.2.2)
set_option maxRecDepth 20000 in
set_option maxHeartbeats 4000000 in
theorem za_X12_addEntry : zdo r_X12_addEntry zq_addEntry := by
  refine zdo_fu [(741, 1, zq_otherView)] (fun _ _ => []) 60 fo_X12 rfl (zs_cons rfl za_X12_otherView zs_nil) k_X12_addEntry (fun _ _ _ => no_zh) (fun a A _ => ?_)
  obtain ⟨s, u, f, t, k⟩ := a
  exact ⟨rfl, rfl, (), rfl, trivial, rfl, rfl⟩
def zhm_P : zhdA → zW → Prop := fun ((c, n), _, _, _, _, _) A => zF A 343 1 = .int c ∧ zF A 343 8 = .int n ∧ 0 ≤ n.toInt ∧ n.toInt ≤ 12
def zhm_Q : zhdA → zW → Option Value → zW → Prop := fun ((c, n), s, u, f, t, k) A rv A' => zhdQ (zhdV c n s u f t k) n (fun A' => A' = zae A s u f t k) A rv A'
def zq_holdM : zQ := zs (zhd_F 343) zhm_P zhm_Q
def Sp_zhm : zP := [(669, 2, q_noSentence), (727, 1, q_noSource), (457, 3, zq_in), (912, 6, zq_addEntry)]
theorem Sp_zhm_ok : zsp T_X12_hold Sp_zhm := zs_cons rfl za_X12_noSentence (zs_cons rfl za_X12_noSource (zs_cons rfl za_X12_in (zs_cons rfl za_X12_addEntry zs_nil)))
theorem ze99 : (Int64.ofInt 99).toInt = 99 := by decide
set_option maxRecDepth 20000 in
set_option maxHeartbeats 4000000 in
theorem za_X12_hold : zdo r_X12_hold zq_holdM := by
  refine zdo_of _ _ _ Sp_zhm (fun _ _ => []) 80 fo_X12 rfl Sp_zhm_ok k_X12_hold (fun _ _ _ => no_zh) (fun a A hp => ?_)
  obtain ⟨⟨c, n⟩, s, u, f, t, k⟩ := a
  obtain ⟨hc, hn, n0, n1⟩ := hp
  have hn : zF A 343 8 = .int n := hn
  have n1 : n.toInt ≤ 12 := n1
  have e0 := ze0
  have e99 := ze99
  have ef := Int32.toInt_toInt64 f
  have et := Int32.toInt_toInt64 t
  have ek := Int32.toInt_toInt64 k
  have e12 : (Int32.ofInt 12).toInt = 12 := by decide
  have no : ∀ v : Int32, zhdV c n s u f t k = some v → zhm_Q ((c, n), s, u, f, t, k) A (some (.int v)) A := fun v h => (zhd_no h : zhdQ (zhdV c n s u f t k) n (fun A' => A' = zae A s u f t k) A (some (.int v)) A)
  refine ⟨(s, c), rfl, hc, fun h => ?_, fun h => ?_⟩
  · exact no _ (zhd_1 (fun z => zb_y h z.1))
  have hs := Classical.not_not.mp (zb_n (Classical.not_not.mp h))
  refine ⟨u, rfl, trivial, fun h => ?_, fun h => ?_⟩
  rotate_left
  · exact no _ (zhd_1 (fun z => zb_y h z.2))
  have hu := Classical.not_not.mp (zb_n h)
  refine ⟨(f.toInt64, Int64.ofNat 0, Int64.ofInt 99), rfl, trivial, fun h => ?_, fun h => ?_⟩
  · have h := zb_n h
    exact no _ (zhd_2 ⟨hs, hu⟩ (fun z => h ⟨by show (Int64.ofNat 0).toInt ≤ f.toInt64.toInt; omega, by show f.toInt64.toInt ≤ (Int64.ofInt 99).toInt; omega⟩))
  have hf : (Int64.ofNat 0).toInt ≤ f.toInt64.toInt ∧ f.toInt64.toInt ≤ (Int64.ofInt 99).toInt := zb_y h
  refine ⟨(t.toInt64, f.toInt64, Int64.ofInt 99), rfl, trivial, fun h => ?_, fun h => ?_⟩
  · have h := zb_n h
    exact no _ (zhd_2 ⟨hs, hu⟩ (fun z => h ⟨by show f.toInt64.toInt ≤ t.toInt64.toInt; omega, by show t.toInt64.toInt ≤ (Int64.ofInt 99).toInt; omega⟩))
  have ht : f.toInt64.toInt ≤ t.toInt64.toInt ∧ t.toInt64.toInt ≤ (Int64.ofInt 99).toInt := zb_y h
  refine ⟨(k.toInt64, Int64.ofNat 0, Int64.ofInt 99), rfl, trivial, fun h => ?_, fun h => ?_⟩
  rotate_left
  · have h := zb_n (Classical.not_not.mp h)
    exact no _ (zhd_2 ⟨hs, hu⟩ (fun z => h ⟨by show (Int64.ofNat 0).toInt ≤ k.toInt64.toInt; omega, by show k.toInt64.toInt ≤ (Int64.ofInt 99).toInt; omega⟩))
  have hk : (Int64.ofNat 0).toInt ≤ k.toInt64.toInt ∧ k.toInt64.toInt ≤ (Int64.ofInt 99).toInt := zb_y h
  have good : (0 ≤ f.toInt ∧ f.toInt < 100) ∧ (0 ≤ t.toInt ∧ t.toInt < 100) ∧ f.toInt ≤ t.toInt ∧ (0 ≤ k.toInt ∧ k.toInt < 100) := ⟨⟨by omega, by omega⟩, ⟨by omega, by omega⟩, by omega, by omega, by omega⟩
  refine ⟨fun h => ?_, fun h => ?_⟩
  · have h : ¬ (iv (zF A 343 8)).toInt = (Int32.ofInt 12).toInt := h
    rw [hn] at h
    have h : ¬ n.toInt = (Int32.ofInt 12).toInt := h
    refine ⟨(s, u, f, t, k), rfl, trivial, ?_⟩
    show zhdQ (zhdV c n s u f t k) n (fun A' => A' = zae A s u f t k) A (some (.int (iv (zF A 343 8) + Int32.ofInt 1 - Int32.ofInt 1))) (zae A s u f t k)
    rw [zhd_n ⟨hs, hu⟩ good (by omega), hn]
    refine ⟨?_, rfl⟩
    show some (Value.int (n + 1 - 1)) = some (.int n)
    rw [Int32.add_sub_cancel]
  · have h : ¬ ¬ (iv (zF A 343 8)).toInt = (Int32.ofInt 12).toInt := h
    rw [hn] at h
    have h : ¬ ¬ n.toInt = (Int32.ofInt 12).toInt := h
    exact no _ (zhd_4 ⟨hs, hu⟩ good (by omega))
end
section
/-! news, on both sides: what is given up is left open here -/
def znwV (c n s u : Int32) (e : Bool) : Option Int32 := if ¬ ((0 ≤ s.toInt ∧ s.toInt < c.toInt) ∧ (0 ≤ u.toInt ∧ u.toInt < 6)) then some (-1) else if e = true then some (-3) else if ¬ n.toInt < 12 then some (-4) else none
theorem znw_1 {c n s u : Int32} {e : Bool} (h : ¬ ((0 ≤ s.toInt ∧ s.toInt < c.toInt) ∧ (0 ≤ u.toInt ∧ u.toInt < 6))) : znwV c n s u e = some (-1) := if_pos h
theorem znw_3 {c n s u : Int32} {e : Bool} (h : (0 ≤ s.toInt ∧ s.toInt < c.toInt) ∧ (0 ≤ u.toInt ∧ u.toInt < 6)) (h2 : e = true) : znwV c n s u e = some (-3) := by
  unfold znwV
  rw [if_neg (fun z => z h), if_pos h2]
theorem znw_4 {c n s u : Int32} {e : Bool} (h : (0 ≤ s.toInt ∧ s.toInt < c.toInt) ∧ (0 ≤ u.toInt ∧ u.toInt < 6)) (h2 : e = false) (h3 : ¬ n.toInt < 12) : znwV c n s u e = some (-4) := by
  unfold znwV
  rw [if_neg (fun z => z h), if_neg (by rw [h2]; exact Bool.false_ne_true), if_pos h3]
theorem znw_n {c n s u : Int32} {e : Bool} (h : (0 ≤ s.toInt ∧ s.toInt < c.toInt) ∧ (0 ≤ u.toInt ∧ u.toInt < 6)) (h2 : e = false) (h3 : n.toInt < 12) : znwV c n s u e = none := by
  unfold znwV
  rw [if_neg (fun z => z h), if_neg (by rw [h2]; exact Bool.false_ne_true), if_neg (fun z => z h3)]
theorem znw_g {c n s u : Int32} {e : Bool} (h : znwV c n s u e = none) : ((0 ≤ s.toInt ∧ s.toInt < c.toInt) ∧ (0 ≤ u.toInt ∧ u.toInt < 6)) ∧ e = false ∧ n.toInt < 12 := by
  unfold znwV at h
  split at h
  · cases h
  · rename_i h1
    split at h
    · cases h
    · rename_i h2
      split at h
      · cases h
      · rename_i h3
        exact ⟨Classical.not_not.mp h1, (by cases e with | true => exact absurd rfl h2 | false => rfl), Classical.not_not.mp h3⟩
theorem zb_f {b : Bool} (h : (zb b).toInt = 0) : b = false := by
  cases b with
  | false => rfl
  | true => exact absurd h (by decide)
theorem zb_t {b : Bool} (h : ¬ (zb b).toInt = 0) : b = true := by
  cases b with
  | false => exact absurd (by decide) h
  | true => rfl
/-- a sentence, or its contrary -/
def zE2 (A : zW) (b : Nat) : zW := ztn (zbe A 122 b 4) 122 4
def zE3 (A X X2 : zW) (b : Nat) : zW := zhv [(7, 6)] (zhv [(6, 0)] (zE2 A b) X) X2
def zq_inWay1 : zQ := zfu (fun a : Nat × Int32 => [.ref 0, .ref a.1, .int a.2]) (fun a _ => zB a.1 4 = true ∧ a.2.toInt = 1) (fun _ _ => some (.ref 122)) (fun a A => zE2 A a.1)
set_option maxRecDepth 20000 in
theorem za_X11_inWay1 : zdo r_X11_inWay zq_inWay1 := by
  refine zdo_fu [(357, 2, zq_become), (393, 1, zq_turn)] (fun _ _ => []) 40 fo_X11 rfl (zs_cons rfl za_X1_become (zs_cons rfl za_X1_turn zs_nil)) k_X11_inWay (fun _ _ _ => no_zh) (fun a A hp => ?_)
  obtain ⟨b, y⟩ := a
  obtain ⟨hB, hy⟩ := hp
  have hB : zB b 4 = true := hB
  have hy : y.toInt = 1 := hy
  have e1 : (Int32.ofInt 1).toInt = 1 := by decide
  refine ⟨fun h => ?_, fun h => ?_⟩
  · have b1 : zB 122 4 = true := by decide +kernel
    exact ⟨(122, b, 4), rfl, ⟨b1, hB, (by decide : 4 ≤ 64)⟩, (122, 4), rfl, ⟨b1, (by decide : 4 ≤ 64)⟩, rfl, rfl⟩
  · have h : ¬ y.toInt = (Int32.ofInt 1).toInt := h
    omega
def zq_inWay0 : zQ := zpu (fun a : Nat × Int32 => [.ref 0, .ref a.1, .int a.2]) (fun a _ => ¬ a.2.toInt = 1) (fun a _ => .ref a.1)
set_option maxRecDepth 20000 in
theorem za_X11_inWay0 : zdo r_X11_inWay zq_inWay0 := by
  refine zdo_pu [(357, 2, zq_become), (393, 1, zq_turn)] (fun _ _ => []) 40 fo_X11 rfl (zs_cons rfl za_X1_become (zs_cons rfl za_X1_turn zs_nil)) k_X11_inWay (fun _ _ _ => no_zh) (fun a A hp => ?_)
  obtain ⟨b, y⟩ := a
  have hy : ¬ y.toInt = 1 := hp
  have e1 : (Int32.ofInt 1).toInt = 1 := by decide
  refine ⟨fun h => ?_, fun h => ?_⟩
  · have h : y.toInt = (Int32.ofInt 1).toInt := h
    omega
  · exact ⟨rfl, rfl⟩
def zQ_lc : zQ := zhq 1 [(6, 0)]
def zQ_ab : zQ := zhq 0 [(7, 6)]
set_option maxRecDepth 20000 in
theorem za_X2_leastCut : zdo r_X2_leastCut zQ_lc := zdo_hv (by decide) (by decide)
set_option maxRecDepth 20000 in
theorem za_X2_abandon : zdo r_X2_abandon zQ_ab := zdo_hv (by decide) (by decide)
abbrev znwA : Type := (Int32 × Int32 × Int32 × Int32) × Int32 × Int32
def znw_F (q : Nat) : znwA → List Value := fun (_, s, u) => [.ref q, .int s, .int u]
def znw_P : znwA → zW → Prop := fun ((c, n, t, k), _, _) A => (zF A 0 1 = .int c ∧ c.toInt ≤ 60) ∧ zcE A n ∧ 385 ≤ zN A ∧ zF A 193 2 = .int t ∧ zF A 193 3 = .int k
def znw_e (A : zW) (s : Int32) : Bool := zzB (zJ A (2 + 2 * s.toInt.toNat + 1)) 4
def znw_Q : znwA → zW → Option Value → zW → Prop := fun ((c, n, t, k), s, u) A rv A' => zhdQ (znwV c n s u (znw_e A s)) n (fun A' => ∃ X X2 D, (zN A ≤ zN X ∧ zN X ≤ zN X2) ∧ A' = znE (zE3 A X X2 (2 + 2 * s.toInt.toNat)) D s u t (Int32.ofInt 99) k) A rv A'
def zq_news : zQ := zs (znw_F 0) znw_P znw_Q
def Sp_znw : zP := [(381, 2, zq_sentenceAt), (487, 1, q_isSource), (840, 1, zq_isEmpty), (513, 1, zq_isFullE), (729, 3, zq_inWay1), (810, 2, zQ_lc), (831, 2, zQ_ab), (542, 7, zq_Entry), (549, 3, zq_keepE)]
theorem Sp_znw_ok : zsp T_X11_news Sp_znw := zs_cons rfl za_X11_sentenceAt (zs_cons rfl za_X11_isSource (zs_cons rfl za_X1_isEmpty (zs_cons rfl za_X2_isFull (zs_cons rfl za_X11_inWay1 (zs_cons rfl za_X2_leastCut (zs_cons rfl za_X2_abandon (zs_cons rfl za_X4_init (zs_cons rfl za_X2_keep zs_nil))))))))
set_option maxRecDepth 20000 in
set_option maxHeartbeats 4000000 in
theorem za_X11_news : zdo r_X11_news zq_news := by
  refine zdo_of _ _ _ Sp_znw (fun _ _ => []) 100 fo_X11 rfl Sp_znw_ok k_X11_news (fun _ _ _ => no_zh) (fun a A hp => ?_)
  obtain ⟨⟨c, n, t, k⟩, s, u⟩ := a
  obtain ⟨⟨hc, hc60⟩, hE, hN, hvt, hvk⟩ := hp
  have hvt : zF A 193 2 = .int t := hvt
  have hvk : zF A 193 3 = .int k := hvk
  have hn : zF A 193 1 = .int n := hE.1
  have hc60 : c.toInt ≤ 60 := hc60
  have no : ∀ v : Int32, znwV c n s u (znw_e A s) = some v → znw_Q ((c, n, t, k), s, u) A (some (.int v)) A := fun v h => (zhd_no h : zhdQ (znwV c n s u (znw_e A s)) n (fun A' => ∃ X X2 D, (zN A ≤ zN X ∧ zN X ≤ zN X2) ∧ A' = znE (zE3 A X X2 (2 + 2 * s.toInt.toNat)) D s u t (Int32.ofInt 99) k) A (some (.int v)) A)
  refine ⟨(s, c), rfl, ⟨hc, hc60⟩, fun h => ?_, fun h => ?_⟩
  · exact no _ (znw_1 (fun z => zat_n (fun z => by cases z) h z.1))
  have hs : 0 ≤ s.toInt ∧ s.toInt < c.toInt := zat_y h
  have e1 : zat c s (.ref (2 + 2 * s.toInt.toNat)) = .ref (2 + 2 * s.toInt.toNat) := if_pos hs
  have hB := zB_s (show s.toInt.toNat < 60 by omega)
  refine ⟨u, rfl, trivial, fun h => ?_, fun h => ?_⟩
  rotate_left
  · exact no _ (znw_1 (fun z => zb_n (Classical.not_not.mp h) z.2))
  have hu := zb_y h
  refine ⟨(2 + 2 * s.toInt.toNat, 4), ?_, ⟨hB, (by decide : 4 ≤ 64)⟩, fun h => ?_, fun h => ?_⟩
  · show [zat c s (.ref (2 + 2 * s.toInt.toNat))] = _
    rw [e1]
  rotate_left
  · exact no _ (znw_3 ⟨hs, hu⟩ (zb_t h))
  have he : znw_e A s = false := zb_f h
  refine ⟨n, rfl, hE, fun h => ?_, fun h => ?_⟩
  rotate_left
  · exact no _ (znw_4 ⟨hs, hu⟩ he (zb_y h))
  have hn12 := Classical.not_not.mp (zb_n h)
  refine ⟨(2 + 2 * s.toInt.toNat, Int32.ofInt 1), ?_, ⟨hB, (by decide : (Int32.ofInt 1).toInt = 1)⟩, ?_⟩
  · show [Value.ref 0, zat c s (.ref (2 + 2 * s.toInt.toNat)), .int (Int32.ofInt 1)] = _
    rw [e1]
  intro X x hx hX
  obtain ⟨x, rfl⟩ := hx
  intro X2 y hy hX2
  obtain rfl : y = none := hy
  intro D
  have hX : zN A ≤ zN X := hX
  have hX2 : zN X ≤ zN X2 := hX2
  have hN3 : 385 ≤ zN (zE3 A X X2 (2 + 2 * s.toInt.toNat)) := by
    show 385 ≤ zN X2
    omega
  have hE3 : zcE (zE3 A X X2 (2 + 2 * s.toInt.toNat)) n := ⟨hE.1, hE.2⟩
  refine ⟨(zN (zE3 A X X2 (2 + 2 * s.toInt.toNat)), n, s, u, t, Int32.ofInt 99, k), ?_, ⟨hN3, ?_⟩, ?_⟩
  · show [Value.ref (zN (zE3 A X X2 (2 + 2 * s.toInt.toNat))), zF (zuN (zE3 A X X2 (2 + 2 * s.toInt.toNat)) 4 7 D) 193 1, .int s, .int u, zF (zuN (zE3 A X X2 (2 + 2 * s.toInt.toNat)) 4 7 D) 193 2, .int (Int32.ofInt 99), zF (zuN (zE3 A X X2 (2 + 2 * s.toInt.toNat)) 4 7 D) 193 3] = [.ref (zN (zE3 A X X2 (2 + 2 * s.toInt.toNat))), .int n, .int s, .int u, .int t, .int (Int32.ofInt 99), .int k]
    rw [zuN_f (znN hN3 (by decide)), zuN_f (znN hN3 (by decide)), zuN_f (znN hN3 (by decide)), show zF (zE3 A X X2 (2 + 2 * s.toInt.toNat)) 193 1 = .int n from hE.1, show zF (zE3 A X X2 (2 + 2 * s.toInt.toNat)) 193 2 = .int t from hvt, show zF (zE3 A X X2 (2 + 2 * s.toInt.toNat)) 193 3 = .int k from hvk]
  · show (zK (zuN (zE3 A X X2 (2 + 2 * s.toInt.toNat)) 4 7 D) (zN (zE3 A X X2 (2 + 2 * s.toInt.toNat)))).1 = 4
    rw [zuN_k]
  have en : iv (zF (zE3 A X X2 (2 + 2 * s.toInt.toNat)) 193 1) = n := by
    rw [show zF (zE3 A X X2 (2 + 2 * s.toInt.toNat)) 193 1 = .int n from hE.1]
    rfl
  have hE4 := hE3.new (D := D) (s := s) (u := u) (f := t) (t := Int32.ofInt 99) (k := k) hN3
  rw [en] at hE4
  refine ⟨(zN (zE3 A X X2 (2 + 2 * s.toInt.toNat)), 2 + 2 * s.toInt.toNat, n, n), ?_, ⟨hE4, hn12, hN3, ?_, zent_0, hB⟩, ?_⟩
  · show [Value.ref 193, Value.ref (zN (zE3 A X X2 (2 + 2 * s.toInt.toNat))), zat c s (.ref (2 + 2 * s.toInt.toNat))] = _
    rw [e1]
  · show (zK (zuN (zE3 A X X2 (2 + 2 * s.toInt.toNat)) 4 7 D) (zN (zE3 A X X2 (2 + 2 * s.toInt.toNat)))).1 = 4
    rw [zuN_k]
  · show zhdQ (znwV c n s u (znw_e A s)) n (fun A' => ∃ X X2 D, (zN A ≤ zN X ∧ zN X ≤ zN X2) ∧ A' = znE (zE3 A X X2 (2 + 2 * s.toInt.toNat)) D s u t (Int32.ofInt 99) k) A (some (.int n)) (zkp (zent (zuN (zE3 A X X2 (2 + 2 * s.toInt.toNat)) 4 7 D) (zN (zE3 A X X2 (2 + 2 * s.toInt.toNat))) n s u t (Int32.ofInt 99) k) (zN (zE3 A X X2 (2 + 2 * s.toInt.toNat))) (2 + 2 * s.toInt.toNat))
    rw [znw_n ⟨hs, hu⟩ he hn12]
    refine ⟨rfl, X, X2, D, ⟨hX, hX2⟩, ?_⟩
    unfold znE
    rw [en]
/-- the reference's -/
def zQ_lcM : zQ := zhq 1 [(17, 17), (17, 19), (17, 20), (17, 21), (17, 23), (17, 25), (17, 26), (55, 0), (56, 0), (57, 0)]
def zQ_gaM : zQ := zhq 0 [(17, 19), (17, 33), (17, 55), (54, 0)]
set_option maxRecDepth 20000 in
theorem za_X12_leastCut : zdo r_X12_leastCut zQ_lcM := zdo_hv (by decide) (by decide)
set_option maxRecDepth 20000 in
theorem za_X12_giveAll : zdo r_X12_giveAll zQ_gaM := zdo_hv (by decide) (by decide)
def zE3m (A X X2 : zW) : zW := zhv [(17, 19), (17, 33), (17, 55), (54, 0)] (zhv [(17, 17), (17, 19), (17, 20), (17, 21), (17, 23), (17, 25), (17, 26), (55, 0), (56, 0), (57, 0)] A X) X2
def znm_P : znwA → zW → Prop := fun ((c, n, t, k), _, _) A => (zF A 343 1 = .int c ∧ c.toInt ≤ 60) ∧ (zF A 343 8 = .int n ∧ 0 ≤ n.toInt ∧ n.toInt ≤ 12) ∧ zF A 343 15 = .int t ∧ zF A 343 16 = .int k
def znm_e (A : zW) (s : Int32) : Bool := decide ((szA (fun v => cbA v 64) (zsw A s.toInt.toNat) 4).toInt = 0)
def znm_Q : znwA → zW → Option Value → zW → Prop := fun ((c, n, t, k), s, u) A rv A' => zhdQ (znwV c n s u (znm_e A s)) n (fun A' => ∃ X X2, (zN A ≤ zN X ∧ zN X ≤ zN X2) ∧ A' = zae (zE3m A X X2) s u t (Int32.ofInt 99) k) A rv A'
def zq_newsM : zQ := zs (znw_F 343) znm_P znm_Q
def Sp_znm : zP := [(669, 2, q_noSentence), (727, 1, q_noSource), (690, 2, zq_countAt), (1032, 3, zQ_lcM), (1050, 2, zQ_gaM), (912, 6, zq_addEntry)]
theorem Sp_znm_ok : zsp T_X12_news Sp_znm := zs_cons rfl za_X12_noSentence (zs_cons rfl za_X12_noSource (zs_cons rfl za_X12_countAt (zs_cons rfl za_X12_leastCut (zs_cons rfl za_X12_giveAll (zs_cons rfl za_X12_addEntry zs_nil)))))
set_option maxRecDepth 20000 in
set_option maxHeartbeats 4000000 in
theorem za_X12_news : zdo r_X12_news zq_newsM := by
  refine zdo_of _ _ _ Sp_znm (fun _ _ => []) 100 fo_X12 rfl Sp_znm_ok k_X12_news (fun _ _ _ => no_zh) (fun a A hp => ?_)
  obtain ⟨⟨c, n, t, k⟩, s, u⟩ := a
  obtain ⟨⟨hc, hc60⟩, ⟨hn, n0, n1⟩, hvt, hvk⟩ := hp
  have hc60 : c.toInt ≤ 60 := hc60
  have hn : zF A 343 8 = .int n := hn
  have hvt : zF A 343 15 = .int t := hvt
  have hvk : zF A 343 16 = .int k := hvk
  have n1 : n.toInt ≤ 12 := n1
  have e12 : (Int32.ofInt 12).toInt = 12 := by decide
  have no : ∀ v : Int32, znwV c n s u (znm_e A s) = some v → znm_Q ((c, n, t, k), s, u) A (some (.int v)) A := fun v h => (zhd_no h : zhdQ (znwV c n s u (znm_e A s)) n (fun A' => ∃ X X2, (zN A ≤ zN X ∧ zN X ≤ zN X2) ∧ A' = zae (zE3m A X X2) s u t (Int32.ofInt 99) k) A (some (.int v)) A)
  refine ⟨(s, c), rfl, hc, fun h => ?_, fun h => ?_⟩
  · exact no _ (znw_1 (fun z => zb_y h z.1))
  have hs : 0 ≤ s.toInt ∧ s.toInt < c.toInt := Classical.not_not.mp (zb_n (Classical.not_not.mp h))
  refine ⟨u, rfl, trivial, fun h => ?_, fun h => ?_⟩
  rotate_left
  · exact no _ (znw_1 (fun z => zb_y h z.2))
  have hu := Classical.not_not.mp (zb_n h)
  refine ⟨s, rfl, ⟨hs.1, show s.toInt < 60 by omega⟩, fun h => ?_, fun h => ?_⟩
  rotate_left
  · exact no _ (znw_3 ⟨hs, hu⟩ (decide_eq_true (Classical.not_not.mp h)))
  have he : znm_e A s = false := decide_eq_false h
  refine ⟨fun h => ?_, fun h => ?_⟩
  rotate_left
  · have h : ¬ ¬ (iv (zF A 343 8)).toInt = (Int32.ofInt 12).toInt := h
    rw [hn] at h
    have h : ¬ ¬ n.toInt = (Int32.ofInt 12).toInt := h
    exact no _ (znw_4 ⟨hs, hu⟩ he (by omega))
  have h : ¬ (iv (zF A 343 8)).toInt = (Int32.ofInt 12).toInt := h
  rw [hn] at h
  have h : ¬ n.toInt = (Int32.ofInt 12).toInt := h
  intro X x hx hX
  obtain ⟨x, rfl⟩ := hx
  intro X2 y hy hX2
  obtain rfl : y = none := hy
  have hX : zN A ≤ zN X := hX
  have hX2 : zN X ≤ zN X2 := hX2
  refine ⟨(s, u, t, Int32.ofInt 99, k), ?_, trivial, ?_⟩
  · show [Value.ref 343, .int s, .int u, zF (zE3m A X X2) 343 15, .int (Int32.ofInt 99), zF (zE3m A X X2) 343 16] = _
    rw [show zF (zE3m A X X2) 343 15 = .int t from hvt, show zF (zE3m A X X2) 343 16 = .int k from hvk]
  · show zhdQ (znwV c n s u (znm_e A s)) n (fun A' => ∃ X X2, (zN A ≤ zN X ∧ zN X ≤ zN X2) ∧ A' = zae (zE3m A X X2) s u t (Int32.ofInt 99) k) A (some (.int (iv (zF (zE3m A X X2) 343 8) + Int32.ofInt 1 - Int32.ofInt 1))) (zae (zE3m A X X2) s u t (Int32.ofInt 99) k)
    rw [znw_n ⟨hs, hu⟩ he (by omega), show zF (zE3m A X X2) 343 8 = .int n from hn]
    refine ⟨?_, X, X2, ⟨hX, hX2⟩, rfl⟩
    show some (Value.int (n + 1 - 1)) = some (.int n)
    rw [Int32.add_sub_cancel]
end
section
/-! rules, over places -/
def zrul (A : zW) (p ci : Nat) (m s th un rk : Int32) : zW := zuF (zuF (zuF (zuF (zuF A p (kpd pI_X10 7 ci) (.int m)) p (kpd pI_X8 7 ci) (.int s)) p (kpd pI_X8 13 ci) (.int th)) p (kpd pI_X8 16 ci) (.int un)) p (kpd pI_X8 19 ci) (.int rk)
abbrev zrlA : Type := (Nat × Nat) × Int32 × Int32 × Int32 × Int32 × Int32
def zq_Rule : zQ := zfu (fun a : zrlA => [.ref a.1.1, .int a.2.1, .int a.2.2.1, .int a.2.2.2.1, .int a.2.2.2.2.1, .int a.2.2.2.2.2]) (fun a A => 385 ≤ a.1.1 ∧ (zK A a.1.1).1 = a.1.2) (fun _ _ => none) (fun a A => zrul A a.1.1 a.1.2 a.2.1 a.2.2.1 a.2.2.2.1 a.2.2.2.2.1 a.2.2.2.2.2)
set_option maxRecDepth 20000 in
set_option maxHeartbeats 4000000 in
theorem za_X8_init : zdo r_X8_init zq_Rule := by
  refine zdo_fu [(5, 2, zq_Thing)] (fun _ _ => []) 40 fo_X8 rfl (zs_cons rfl za_X10_init zs_nil) k_X8_init (fun _ _ _ => no_zh) (fun a A hp => ?_)
  obtain ⟨⟨p, ci⟩, m, s, th, un, rk⟩ := a
  obtain ⟨hp, hc⟩ := hp
  have hp : 385 ≤ p := hp
  have hz : zkd A p = ci := by
    rw [zkd_d hp]
    exact hc
  refine ⟨(p, m, ci, kpd pI_X10 7 ci), rfl, ⟨hp, hc, rfl⟩, zc_d hp, zc_d hp, zc_d hp, zc_d hp, rfl, ?_⟩
  show zuF (zuF (zuF (zuF (zuF A p (kpd pI_X10 7 ci) (.int m)) p (kpd pI_X8 7 (zkd A p)) (.int s)) p (kpd pI_X8 13 (zkd A p)) (.int th)) p (kpd pI_X8 16 (zkd A p)) (.int un)) p (kpd pI_X8 19 (zkd A p)) (.int rk) = zrul A p ci m s th un rk
  rw [hz]
  rfl
set_option maxRecDepth 20000 in
theorem za_X0_init : zdo r_X0_init zq_Rule := by
  refine zdo_fu [(5, 6, zq_Rule)] (fun _ _ => []) 40 fo_X0 rfl (zs_cons rfl za_X8_init zs_nil) k_X0_init (fun _ _ _ => no_zh) (fun a A hp => ?_)
  obtain ⟨⟨p, ci⟩, m, s, th, un, rk⟩ := a
  exact ⟨((p, ci), m, s, th, un, rk), rfl, hp, rfl, rfl⟩
set_option maxRecDepth 20000 in
theorem za_X5_init : zdo r_X5_init zq_Rule := by
  refine zdo_fu [(5, 6, zq_Rule)] (fun _ _ => []) 40 fo_X5 rfl (zs_cons rfl za_X0_init zs_nil) k_X5_init (fun _ _ _ => no_zh) (fun a A hp => ?_)
  obtain ⟨⟨p, ci⟩, m, s, th, un, rk⟩ := a
  exact ⟨((p, ci), m, s, th, un, rk), rfl, hp, rfl, rfl⟩
def zcR (A : zW) (m : Int32) : Prop := zF A 207 1 = .int m ∧ 0 ≤ m.toInt ∧ m.toInt ≤ 10
theorem e32_10 : (Int32.ofNat 10).toInt = 10 := by decide
def zq_isFullR : zQ := zpu (fun _ : Int32 => [.ref 207]) (fun m A => zcR A m) (fun m _ => .int (zb (decide ¬ m.toInt < 10)))
set_option maxRecDepth 20000 in
theorem za_X9_isFull : zdo r_X9_isFull zq_isFullR := by
  refine zdo_pu [] (fun _ _ => []) 40 fo_X9 rfl zs_nil k_X9_isFull (fun _ _ _ => no_zh) (fun m A hp => ?_)
  obtain ⟨hn, n0, n1⟩ := hp
  have e := e32_10
  refine ⟨fun h => ?_, fun h => ?_⟩
  · have h : (iv (zF A 207 1)).toInt < (Int32.ofNat 10).toInt := h
    rw [hn] at h
    have h : m.toInt < (Int32.ofNat 10).toInt := h
    exact ⟨zbf (by omega), rfl⟩
  · have h : ¬ (iv (zF A 207 1)).toInt < (Int32.ofNat 10).toInt := h
    rw [hn] at h
    have h : ¬ m.toInt < (Int32.ofNat 10).toInt := h
    exact ⟨zbt (by omega), rfl⟩
set_option maxRecDepth 20000 in
theorem zc_row {q b n k : Nat} (hz : (List.range 60).all (fun k => decide (k < n → zc q k = b + 2 * k)) = true) (hn : n ≤ 60) (hk : k < n) (hb : 0 < b) (A : zW) : zrl A q k = .ref (b + 2 * k) := by
  have h := of_decide_eq_true (List.all_eq_true.mp hz k (List.mem_range.mpr (by omega))) hk
  unfold zrl
  rw [h]
  exact zcr_s (by omega)
theorem zrl_211 {k : Nat} (hk : k < 10) (A : zW) : zrl A 211 k = .ref (212 + 2 * k) := zc_row (by decide +kernel) (by decide) hk (by decide) A
theorem zrl_232 {k : Nat} (hk : k < 10) (A : zW) : zrl A 232 k = .ref (233 + 2 * k) := zc_row (by decide +kernel) (by decide) hk (by decide) A
theorem zrl_253 {k : Nat} (hk : k < 10) (A : zW) : zrl A 253 k = .ref (254 + 2 * k) := zc_row (by decide +kernel) (by decide) hk (by decide) A
theorem zrl_294 {k : Nat} (hk : k < 12) (A : zW) : zrl A 294 k = .ref (295 + 2 * k) := zc_row (by decide +kernel) (by decide) hk (by decide) A
theorem zB_r {b n k : Nat} (hz : (List.range n).all (fun k => zB (b + 2 * k) 4) = true) (hk : k < n) : zB (b + 2 * k) 4 = true := List.all_eq_true.mp hz k (List.mem_range.mpr hk)
theorem zc210 {e : Nat} : zc 210 e = 0 := by
  have h2 : zc 210 e = (bif true && Nat.blt e 70 then 0 else 0) := rfl
  rw [h2]
  cases Nat.blt e 70 <;> rfl
theorem zc334 {e : Nat} : zc 334 e = 0 := by
  have h2 : zc 334 e = (bif true && Nat.blt e 70 then 0 else 0) := rfl
  rw [h2]
  cases Nat.blt e 70 <;> rfl
def zkR (A : zW) (p b1 b2 b3 : Nat) : zW := zuF (zbe (zbe (zbe (zuR A 210 (iv (zF A 207 1)).toNatClampNeg (.ref p)) (212 + 2 * (iv (zF A 207 1)).toInt.toNat) b1 4) (233 + 2 * (iv (zF A 207 1)).toInt.toNat) b2 4) (254 + 2 * (iv (zF A 207 1)).toInt.toNat) b3 4) 207 1 (.int (iv (zF A 207 1) + Int32.ofInt 1))
abbrev zkrA : Type := (Nat × Nat × Nat × Nat) × (Nat × Nat) × Int32 × Int32
def zq_keepR : zQ := zfu (fun a : zkrA => [.ref 207, .ref a.1.1, .ref a.1.2.1, .ref a.1.2.2.1, .ref a.1.2.2.2]) (fun a A => zcR A a.2.2.1 ∧ a.2.2.1.toInt < 10 ∧ (385 ≤ a.1.1 ∧ (zK A a.1.1).1 = a.2.1.1 ∧ kfd fl_X9 66 a.2.1.1 = a.2.1.2 ∧ zF A a.1.1 a.2.1.2 = .int a.2.2.2) ∧ zB a.1.2.1 4 = true ∧ zB a.1.2.2.1 4 = true ∧ zB a.1.2.2.2 4 = true) (fun a _ => some (.int a.2.2.2)) (fun a A => zkR A a.1.1 a.1.2.1 a.1.2.2.1 a.1.2.2.2)
set_option maxRecDepth 20000 in
set_option maxHeartbeats 4000000 in
theorem za_X9_keep : zdo r_X9_keep zq_keepR := by
  refine zdo_fu [(186, 2, zq_become)] (fun _ _ => []) 80 fo_X9 rfl (zs_cons rfl za_X1_become zs_nil) k_X9_keep (fun _ _ _ => no_zh) (fun a A hp => ?_)
  obtain ⟨⟨p, b1, b2, b3⟩, ⟨ci, k⟩, m, x⟩ := a
  obtain ⟨⟨hm, m0, m1⟩, m2, ⟨hp, hc, hk, hx⟩, h1, h2, h3⟩ := hp
  have e := e32_10
  have hm : zF A 207 1 = .int m := hm
  have m0 : 0 ≤ m.toInt := m0
  have m2 : m.toInt < 10 := m2
  have hp : 385 ≤ p := hp
  have hc : (zK A p).1 = ci := hc
  have hk : kfd fl_X9 66 ci = k := hk
  have hx : zF A p k = .int x := hx
  have em : (iv (zF A 207 1)).toInt.toNat = m.toInt.toNat := by
    rw [hm]
    rfl
  have hi : (iv (zF A 207 1)).toInt.toNat < 10 := by omega
  refine ⟨fun h => ?_, fun h => ?_⟩
  · refine ⟨zc210, ?_⟩
    refine ⟨(212 + 2 * (iv (zF A 207 1)).toInt.toNat, b1, 4), ?_, ⟨zB_r (by decide +kernel) hi, h1, (by decide : 4 ≤ 64)⟩, ?_⟩
    · show [zrl _ 211 (iv (zF A 207 1)).toInt.toNat, Value.ref b1] = _
      rw [zrl_211 hi]
    refine ⟨(233 + 2 * (iv (zF A 207 1)).toInt.toNat, b2, 4), ?_, ⟨zB_r (by decide +kernel) hi, h2, (by decide : 4 ≤ 64)⟩, ?_⟩
    · show [zrl _ 232 (iv (zF A 207 1)).toInt.toNat, Value.ref b2] = _
      rw [zrl_232 hi]
    refine ⟨(254 + 2 * (iv (zF A 207 1)).toInt.toNat, b3, 4), ?_, ⟨zB_r (by decide +kernel) hi, h3, (by decide : 4 ≤ 64)⟩, ?_⟩
    · show [zrl _ 253 (iv (zF A 207 1)).toInt.toNat, Value.ref b3] = _
      rw [zrl_253 hi]
    refine ⟨rfl, ?_, rfl⟩
    have h5 : zF (zkR A p b1 b2 b3) p k = zF A p k := zuF_ne (by omega)
    show some (zfl (zkR A p b1 b2 b3) p (kfd fl_X9 66 (zkd A p))) = some (.int x)
    rw [zkd_d hp, hc, hk, zfl_d hp, h5, hx]
  · have h : ¬ (iv (zF A 207 1)).toInt < (Int32.ofNat 10).toInt := h
    omega
/-- rule: a refusal, or none -/
def zruV (c m kind s th un rk : Int32) : Option Int32 := if ¬ (0 ≤ kind.toInt ∧ kind.toInt ≤ 2) then some (-2) else if ¬ ((0 ≤ s.toInt ∧ s.toInt < c.toInt) ∧ (0 ≤ th.toInt ∧ th.toInt < c.toInt) ∧ (0 ≤ un.toInt ∧ un.toInt < c.toInt)) then some (-1) else if ¬ (0 ≤ rk.toInt ∧ rk.toInt ≤ 9) then some (-2) else if ¬ m.toInt < 10 then some (-4) else none
section
variable {c m kind s th un rk : Int32}
theorem zru_1 (h : ¬ (0 ≤ kind.toInt ∧ kind.toInt ≤ 2)) : zruV c m kind s th un rk = some (-2) := if_pos h
theorem zru_2 (h : 0 ≤ kind.toInt ∧ kind.toInt ≤ 2) (h2 : ¬ ((0 ≤ s.toInt ∧ s.toInt < c.toInt) ∧ (0 ≤ th.toInt ∧ th.toInt < c.toInt) ∧ (0 ≤ un.toInt ∧ un.toInt < c.toInt))) : zruV c m kind s th un rk = some (-1) := by
  unfold zruV
  rw [if_neg (fun z => z h), if_pos h2]
theorem zru_3 (h : 0 ≤ kind.toInt ∧ kind.toInt ≤ 2) (h2 : (0 ≤ s.toInt ∧ s.toInt < c.toInt) ∧ (0 ≤ th.toInt ∧ th.toInt < c.toInt) ∧ (0 ≤ un.toInt ∧ un.toInt < c.toInt)) (h3 : ¬ (0 ≤ rk.toInt ∧ rk.toInt ≤ 9)) : zruV c m kind s th un rk = some (-2) := by
  unfold zruV
  rw [if_neg (fun z => z h), if_neg (fun z => z h2), if_pos h3]
theorem zru_4 (h : 0 ≤ kind.toInt ∧ kind.toInt ≤ 2) (h2 : (0 ≤ s.toInt ∧ s.toInt < c.toInt) ∧ (0 ≤ th.toInt ∧ th.toInt < c.toInt) ∧ (0 ≤ un.toInt ∧ un.toInt < c.toInt)) (h3 : 0 ≤ rk.toInt ∧ rk.toInt ≤ 9) (h4 : ¬ m.toInt < 10) : zruV c m kind s th un rk = some (-4) := by
  unfold zruV
  rw [if_neg (fun z => z h), if_neg (fun z => z h2), if_neg (fun z => z h3), if_pos h4]
theorem zru_n (h : 0 ≤ kind.toInt ∧ kind.toInt ≤ 2) (h2 : (0 ≤ s.toInt ∧ s.toInt < c.toInt) ∧ (0 ≤ th.toInt ∧ th.toInt < c.toInt) ∧ (0 ≤ un.toInt ∧ un.toInt < c.toInt)) (h3 : 0 ≤ rk.toInt ∧ rk.toInt ≤ 9) (h4 : m.toInt < 10) : zruV c m kind s th un rk = none := by
  unfold zruV
  rw [if_neg (fun z => z h), if_neg (fun z => z h2), if_neg (fun z => z h3), if_neg (fun z => z h4)]
theorem zru_g (h : zruV c m kind s th un rk = none) : (0 ≤ kind.toInt ∧ kind.toInt ≤ 2) ∧ ((0 ≤ s.toInt ∧ s.toInt < c.toInt) ∧ (0 ≤ th.toInt ∧ th.toInt < c.toInt) ∧ (0 ≤ un.toInt ∧ un.toInt < c.toInt)) ∧ (0 ≤ rk.toInt ∧ rk.toInt ≤ 9) ∧ m.toInt < 10 := by
  unfold zruV at h
  split at h
  · cases h
  · rename_i h1
    split at h
    · cases h
    · rename_i h2
      split at h
      · cases h
      · rename_i h3
        split at h
        · cases h
        · rename_i h4
          exact ⟨Classical.not_not.mp h1, Classical.not_not.mp h2, Classical.not_not.mp h3, Classical.not_not.mp h4⟩
end
/-- a kind's class and type -/
def zkC (kind : Int32) : Nat := if kind.toInt = 0 then 8 else if kind.toInt = 1 then 0 else 5
def zkY (kind : Int32) : Nat := if kind.toInt = 0 then 8 else if kind.toInt = 1 then 9 else 10
def znR (A : zW) (D : Nat → Value) (ci t : Nat) (m s th un rk : Int32) : zW := zkR (zrul (zuN A ci t D) (zN A) ci m s th un rk) (zN A) (2 + 2 * s.toInt.toNat) (2 + 2 * th.toInt.toNat) (2 + 2 * un.toInt.toNat)
abbrev zruA : Type := (Int32 × Int32) × Int32 × Int32 × Int32 × Int32 × Int32
def zru_F (q : Nat) : zruA → List Value := fun (_, kind, s, th, un, rk) => [.ref q, .int kind, .int s, .int th, .int un, .int rk]
def zru_P : zruA → zW → Prop := fun ((c, m), _, _, _, _, _) A => (zF A 0 1 = .int c ∧ c.toInt ≤ 60) ∧ zcR A m ∧ 385 ≤ zN A
def zru_Q : zruA → zW → Option Value → zW → Prop := fun ((c, m), kind, s, th, un, rk) A rv A' => zhdQ (zruV c m kind s th un rk) m (fun A' => ∃ D, A' = znR A D (zkC kind) (zkY kind) m s th un rk) A rv A'
def zq_rule : zQ := zs (zru_F 0) zru_P zru_Q
theorem zrul_ne {A : zW} {p ci j i : Nat} {m s th un rk : Int32} (h : j ≠ p) : zF (zrul A p ci m s th un rk) j i = zF A j i := by
  unfold zrul
  rw [zuF_ne h, zuF_ne h, zuF_ne h, zuF_ne h, zuF_ne h]
/-- the slots of a rule, by its class -/
def zkS (ci : Nat) : Prop := ci = 8 ∨ ci = 0 ∨ ci = 5
theorem zrul_at {A : zW} {p ci : Nat} {m s th un rk : Int32} (hc : zkS ci) : zF (zrul A p ci m s th un rk) p (kpd pI_X10 7 ci) = .int m ∧ zF (zrul A p ci m s th un rk) p (kpd pI_X8 7 ci) = .int s ∧ zF (zrul A p ci m s th un rk) p (kpd pI_X8 13 ci) = .int th ∧ zF (zrul A p ci m s th un rk) p (kpd pI_X8 16 ci) = .int un ∧ zF (zrul A p ci m s th un rk) p (kpd pI_X8 19 ci) = .int rk := by
  have n1 : kpd pI_X10 7 ci ≠ kpd pI_X8 7 ci ∧ kpd pI_X10 7 ci ≠ kpd pI_X8 13 ci ∧ kpd pI_X10 7 ci ≠ kpd pI_X8 16 ci ∧ kpd pI_X10 7 ci ≠ kpd pI_X8 19 ci ∧ kpd pI_X8 7 ci ≠ kpd pI_X8 13 ci ∧ kpd pI_X8 7 ci ≠ kpd pI_X8 16 ci ∧ kpd pI_X8 7 ci ≠ kpd pI_X8 19 ci ∧ kpd pI_X8 13 ci ≠ kpd pI_X8 16 ci ∧ kpd pI_X8 13 ci ≠ kpd pI_X8 19 ci ∧ kpd pI_X8 16 ci ≠ kpd pI_X8 19 ci := by
    rcases hc with rfl | rfl | rfl <;> decide
  obtain ⟨a1, a2, a3, a4, a5, a6, a7, a8, a9, a10⟩ := n1
  unfold zrul
  refine ⟨?_, ?_, ?_, ?_, ?_⟩
  · rw [zuF_x, if_neg (fun z => a4 z.2), zuF_x, if_neg (fun z => a3 z.2), zuF_x, if_neg (fun z => a2 z.2), zuF_x, if_neg (fun z => a1 z.2), zuF_x, if_pos ⟨rfl, rfl⟩]
  · rw [zuF_x, if_neg (fun z => a7 z.2), zuF_x, if_neg (fun z => a6 z.2), zuF_x, if_neg (fun z => a5 z.2), zuF_x, if_pos ⟨rfl, rfl⟩]
  · rw [zuF_x, if_neg (fun z => a9 z.2), zuF_x, if_neg (fun z => a8 z.2), zuF_x, if_pos ⟨rfl, rfl⟩]
  · rw [zuF_x, if_neg (fun z => a10 z.2), zuF_x, if_pos ⟨rfl, rfl⟩]
  · rw [zuF_x, if_pos ⟨rfl, rfl⟩]
theorem zkS_n {ci : Nat} (hc : zkS ci) : kfd fl_X9 66 ci = kpd pI_X10 7 ci := by
  rcases hc with rfl | rfl | rfl <;> decide
theorem zcR.new {A : zW} {n : Int32} {ci t : Nat} {D : Nat → Value} {m s th un rk : Int32} (h : zcR A n) (hN : 385 ≤ zN A) : zcR (zrul (zuN A ci t D) (zN A) ci m s th un rk) n := by
  obtain ⟨h1, h2⟩ := h
  refine ⟨?_, h2⟩
  rw [zrul_ne (znN hN (by decide)), zuN_f (znN hN (by decide))]
  exact h1
def Sp_zru : zP := [(381, 2, zq_sentenceAt), (858, 1, zq_isFullR), (872, 6, zq_Rule), (887, 6, zq_Rule), (896, 6, zq_Rule), (897, 5, zq_keepR)]
theorem Sp_zru_ok : zsp T_X11_rule Sp_zru := zs_cons rfl za_X11_sentenceAt (zs_cons rfl za_X9_isFull (zs_cons rfl za_X8_init (zs_cons rfl za_X0_init (zs_cons rfl za_X5_init (zs_cons rfl za_X9_keep zs_nil)))))
set_option maxRecDepth 20000 in
set_option maxHeartbeats 8000000 in
theorem za_X11_rule : zdo r_X11_rule zq_rule := by
  refine zdo_of _ _ _ Sp_zru (fun _ _ => []) 120 fo_X11 rfl Sp_zru_ok k_X11_rule (fun _ _ _ => no_zh) (fun a A hp => ?_)
  obtain ⟨⟨c, m⟩, kind, s, th, un, rk⟩ := a
  obtain ⟨⟨hc, hc60⟩, hR, hN⟩ := hp
  have hc60 : c.toInt ≤ 60 := hc60
  have hm : zF A 207 1 = .int m := hR.1
  have e2 : (Int32.ofInt 2).toInt = 2 := by decide
  have e9 : (Int32.ofInt 9).toInt = 9 := by decide
  have e1 : (Int32.ofInt 1).toInt = 1 := by decide
  have no : ∀ (v : Int32), zruV c m kind s th un rk = some v → zru_Q ((c, m), kind, s, th, un, rk) A (some (.int v)) A := fun v h => (zhd_no h : zhdQ (zruV c m kind s th un rk) m (fun A' => ∃ D, A' = znR A D (zkC kind) (zkY kind) m s th un rk) A (some (.int v)) A)
  refine ⟨fun h => ?_, fun h => ⟨fun h2 => ?_, fun h2 => ?_⟩⟩
  · have h : kind.toInt < 0 := h
    exact no _ (zru_1 (by omega))
  rotate_left
  · have h2 : ¬ kind.toInt ≤ (Int32.ofInt 2).toInt := h2
    exact no _ (zru_1 (by omega))
  have h : ¬ kind.toInt < 0 := h
  have h2 : kind.toInt ≤ (Int32.ofInt 2).toInt := h2
  have hk : 0 ≤ kind.toInt ∧ kind.toInt ≤ 2 := ⟨by omega, by omega⟩
  refine ⟨(s, c), rfl, ⟨hc, hc60⟩, (th, c), rfl, ⟨hc, hc60⟩, (un, c), rfl, ⟨hc, hc60⟩, fun h3 => ?_, fun h3 => ⟨fun h4 => ?_, fun h4 => ⟨fun h5 => ?_, fun h5 => ?_⟩⟩⟩
  · exact no _ (zru_2 hk (fun z => zat_n (fun z => by cases z) h3 z.1))
  · exact no _ (zru_2 hk (fun z => zat_n (fun z => by cases z) h4 z.2.1))
  rotate_left
  · exact no _ (zru_2 hk (fun z => zat_n (fun z => by cases z) h5 z.2.2))
  have hs : 0 ≤ s.toInt ∧ s.toInt < c.toInt := zat_y h3
  have ht : 0 ≤ th.toInt ∧ th.toInt < c.toInt := zat_y h4
  have hu : 0 ≤ un.toInt ∧ un.toInt < c.toInt := zat_y h5
  have es : zat c s (.ref (2 + 2 * s.toInt.toNat)) = .ref (2 + 2 * s.toInt.toNat) := if_pos hs
  have et : zat c th (.ref (2 + 2 * th.toInt.toNat)) = .ref (2 + 2 * th.toInt.toNat) := if_pos ht
  have eu : zat c un (.ref (2 + 2 * un.toInt.toNat)) = .ref (2 + 2 * un.toInt.toNat) := if_pos hu
  refine ⟨fun h6 => ?_, fun h6 => ⟨fun h7 => ?_, fun h7 => ?_⟩⟩
  · have h6 : rk.toInt < 0 := h6
    exact no _ (zru_3 hk ⟨hs, ht, hu⟩ (by omega))
  rotate_left
  · have h7 : ¬ rk.toInt ≤ (Int32.ofInt 9).toInt := h7
    exact no _ (zru_3 hk ⟨hs, ht, hu⟩ (by omega))
  have h6 : ¬ rk.toInt < 0 := h6
  have h7 : rk.toInt ≤ (Int32.ofInt 9).toInt := h7
  have hr : 0 ≤ rk.toInt ∧ rk.toInt ≤ 9 := ⟨by omega, by omega⟩
  refine ⟨m, rfl, hR, fun h8 => ?_, fun h8 => ?_⟩
  rotate_left
  · exact no _ (zru_4 hk ⟨hs, ht, hu⟩ hr (zb_y h8))
  have hm10 := Classical.not_not.mp (zb_n h8)
  -- what the three kinds have in common
  have fin : ∀ (ci t : Nat) (D : Nat → Value), zkS ci → zkC kind = ci → zkY kind = t → ∃ a : zrlA, [Value.ref (zN A), zF A 207 1, .int s, .int th, .int un, .int rk] = [.ref a.1.1, .int a.2.1, .int a.2.2.1, .int a.2.2.2.1, .int a.2.2.2.2.1, .int a.2.2.2.2.2] ∧ (385 ≤ a.1.1 ∧ (zK (zuN A ci t D) a.1.1).1 = a.1.2) ∧ ∃ b : zkrA, [Value.ref 207, .ref (zN A), zat c s (.ref (2 + 2 * s.toInt.toNat)), zat c th (.ref (2 + 2 * th.toInt.toNat)), zat c un (.ref (2 + 2 * un.toInt.toNat))] = [.ref 207, .ref b.1.1, .ref b.1.2.1, .ref b.1.2.2.1, .ref b.1.2.2.2] ∧ (zcR (zrul (zuN A ci t D) a.1.1 a.1.2 a.2.1 a.2.2.1 a.2.2.2.1 a.2.2.2.2.1 a.2.2.2.2.2) b.2.2.1 ∧ b.2.2.1.toInt < 10 ∧ (385 ≤ b.1.1 ∧ (zK (zrul (zuN A ci t D) a.1.1 a.1.2 a.2.1 a.2.2.1 a.2.2.2.1 a.2.2.2.2.1 a.2.2.2.2.2) b.1.1).1 = b.2.1.1 ∧ kfd fl_X9 66 b.2.1.1 = b.2.1.2 ∧ zF (zrul (zuN A ci t D) a.1.1 a.1.2 a.2.1 a.2.2.1 a.2.2.2.1 a.2.2.2.2.1 a.2.2.2.2.2) b.1.1 b.2.1.2 = .int b.2.2.2) ∧ zB b.1.2.1 4 = true ∧ zB b.1.2.2.1 4 = true ∧ zB b.1.2.2.2 4 = true) ∧ zru_Q ((c, m), kind, s, th, un, rk) A (some (.int b.2.2.2)) (zkR (zrul (zuN A ci t D) a.1.1 a.1.2 a.2.1 a.2.2.1 a.2.2.2.1 a.2.2.2.2.1 a.2.2.2.2.2) b.1.1 b.1.2.1 b.1.2.2.1 b.1.2.2.2) := by
    intro ci t D hS e1 e2
    refine ⟨((zN A, ci), m, s, th, un, rk), by rw [hm], ⟨hN, by show (zK (zuN A ci t D) (zN A)).1 = ci; rw [zuN_k]⟩, ((zN A, 2 + 2 * s.toInt.toNat, 2 + 2 * th.toInt.toNat, 2 + 2 * un.toInt.toNat), (ci, kpd pI_X10 7 ci), m, m), by rw [es, et, eu], ⟨hR.new hN, hm10, ⟨hN, by show (zK (zuN A ci t D) (zN A)).1 = ci; rw [zuN_k], zkS_n hS, (zrul_at hS).1⟩, zB_s (show s.toInt.toNat < 60 by omega), zB_s (show th.toInt.toNat < 60 by omega), zB_s (show un.toInt.toNat < 60 by omega)⟩, ?_⟩
    show zhdQ (zruV c m kind s th un rk) m (fun A' => ∃ D, A' = znR A D (zkC kind) (zkY kind) m s th un rk) A (some (.int m)) (zkR (zrul (zuN A ci t D) (zN A) ci m s th un rk) (zN A) (2 + 2 * s.toInt.toNat) (2 + 2 * th.toInt.toNat) (2 + 2 * un.toInt.toNat))
    rw [zru_n hk ⟨hs, ht, hu⟩ hr hm10]
    refine ⟨rfl, D, ?_⟩
    rw [e1, e2]
    rfl
  refine ⟨fun h9 => ⟨fun h10 => ?_, fun h10 => ?_⟩, fun h9 => ?_⟩
  · have h9 : ¬ kind.toInt = 0 := h9
    have h10 : ¬ kind.toInt = (Int32.ofInt 1).toInt := h10
    rw [e1] at h10
    intro D
    exact fin 5 10 D (Or.inr (Or.inr rfl)) (by unfold zkC; rw [if_neg h9, if_neg h10]) (by unfold zkY; rw [if_neg h9, if_neg h10])
  · have h9 : ¬ kind.toInt = 0 := h9
    have h10 : ¬ ¬ kind.toInt = (Int32.ofInt 1).toInt := h10
    rw [e1] at h10
    have h10 := Classical.not_not.mp h10
    intro D
    exact fin 0 9 D (Or.inr (Or.inl rfl)) (by unfold zkC; rw [if_neg h9, if_pos h10]) (by unfold zkY; rw [if_neg h9, if_pos h10])
  · have h9 : ¬ ¬ kind.toInt = 0 := h9
    have h9 := Classical.not_not.mp h9
    intro D
    exact fin 8 8 D (Or.inl rfl) (by unfold zkC; rw [if_pos h9]) (by unfold zkY; rw [if_pos h9])
/-- the reference's -/
def zrm (A : zW) (kind s th un rk : Int32) : zW := zuF (zuF (zuI (zuI (zuI (zuI (zuI A 357 (iv (zF A 343 27)).toNatClampNeg kind) 358 (iv (zF A 343 27)).toNatClampNeg s) 359 (iv (zF A 343 27)).toNatClampNeg th) 360 (iv (zF A 343 27)).toNatClampNeg un) 361 (iv (zF A 343 27)).toNatClampNeg rk) 343 27 (.int (iv (zF A 343 27) + Int32.ofInt 1))) 343 33 (.int (Int32.ofInt 0))
def zrm_P : zruA → zW → Prop := fun ((c, m), _, _, _, _, _) A => zF A 343 1 = .int c ∧ zF A 343 27 = .int m ∧ 0 ≤ m.toInt ∧ m.toInt ≤ 10
def zrm_Q : zruA → zW → Option Value → zW → Prop := fun ((c, m), kind, s, th, un, rk) A rv A' => zhdQ (zruV c m kind s th un rk) m (fun A' => A' = zrm A kind s th un rk) A rv A'
def zq_ruleM : zQ := zs (zru_F 343) zrm_P zrm_Q
def Sp_zrm : zP := [(457, 3, zq_in), (669, 2, q_noSentence)]
theorem Sp_zrm_ok : zsp T_X12_rule Sp_zrm := zs_cons rfl za_X12_in (zs_cons rfl za_X12_noSentence zs_nil)
set_option maxRecDepth 20000 in
set_option maxHeartbeats 8000000 in
theorem za_X12_rule : zdo r_X12_rule zq_ruleM := by
  refine zdo_of _ _ _ Sp_zrm (fun _ _ => []) 120 fo_X12 rfl Sp_zrm_ok k_X12_rule (fun _ _ _ => no_zh) (fun a A hp => ?_)
  obtain ⟨⟨c, m⟩, kind, s, th, un, rk⟩ := a
  obtain ⟨hc, hm, m0, m1⟩ := hp
  have hm : zF A 343 27 = .int m := hm
  have m1 : m.toInt ≤ 10 := m1
  have e0 := ze0
  have e2 : (Int64.ofInt 2).toInt = 2 := by decide
  have e9 : (Int64.ofInt 9).toInt = 9 := by decide
  have e10 : (Int32.ofInt 10).toInt = 10 := by decide
  have ek := Int32.toInt_toInt64 kind
  have er := Int32.toInt_toInt64 rk
  have no : ∀ (v : Int32), zruV c m kind s th un rk = some v → zrm_Q ((c, m), kind, s, th, un, rk) A (some (.int v)) A := fun v h => (zhd_no h : zhdQ (zruV c m kind s th un rk) m (fun A' => A' = zrm A kind s th un rk) A (some (.int v)) A)
  refine ⟨(kind.toInt64, Int64.ofNat 0, Int64.ofInt 2), rfl, trivial, fun h => ?_, fun h => ?_⟩
  rotate_left
  · have h := zb_n (Classical.not_not.mp h)
    exact no _ (zru_1 (fun z => h ⟨by show (Int64.ofNat 0).toInt ≤ kind.toInt64.toInt; omega, by show kind.toInt64.toInt ≤ (Int64.ofInt 2).toInt; omega⟩))
  have hk0 : (Int64.ofNat 0).toInt ≤ kind.toInt64.toInt ∧ kind.toInt64.toInt ≤ (Int64.ofInt 2).toInt := zb_y h
  have hk : 0 ≤ kind.toInt ∧ kind.toInt ≤ 2 := ⟨by omega, by omega⟩
  refine ⟨(s, c), rfl, hc, fun h => ?_, fun h => ?_⟩
  · exact no _ (zru_2 hk (fun z => zb_y h z.1))
  have hs : 0 ≤ s.toInt ∧ s.toInt < c.toInt := Classical.not_not.mp (zb_n (Classical.not_not.mp h))
  refine ⟨(th, c), rfl, hc, fun h => ?_, fun h => ?_⟩
  · exact no _ (zru_2 hk (fun z => zb_y h z.2.1))
  have ht := Classical.not_not.mp (zb_n (Classical.not_not.mp h))
  refine ⟨(un, c), rfl, hc, fun h => ?_, fun h => ?_⟩
  rotate_left
  · exact no _ (zru_2 hk (fun z => zb_y h z.2.2))
  have hu := Classical.not_not.mp (zb_n h)
  refine ⟨(rk.toInt64, Int64.ofNat 0, Int64.ofInt 9), rfl, trivial, fun h => ?_, fun h => ?_⟩
  rotate_left
  · have h := zb_n (Classical.not_not.mp h)
    exact no _ (zru_3 hk ⟨hs, ht, hu⟩ (fun z => h ⟨by show (Int64.ofNat 0).toInt ≤ rk.toInt64.toInt; omega, by show rk.toInt64.toInt ≤ (Int64.ofInt 9).toInt; omega⟩))
  have hr0 : (Int64.ofNat 0).toInt ≤ rk.toInt64.toInt ∧ rk.toInt64.toInt ≤ (Int64.ofInt 9).toInt := zb_y h
  have hr : 0 ≤ rk.toInt ∧ rk.toInt ≤ 9 := ⟨by omega, by omega⟩
  refine ⟨fun h => ?_, fun h => ?_⟩
  · have h : ¬ (iv (zF A 343 27)).toInt = (Int32.ofInt 10).toInt := h
    rw [hm] at h
    have h : ¬ m.toInt = (Int32.ofInt 10).toInt := h
    refine ⟨rfl, rfl, ?_⟩
    show zhdQ (zruV c m kind s th un rk) m (fun A' => A' = zrm A kind s th un rk) A (some (.int (iv (zF A 343 27) + Int32.ofInt 1 - Int32.ofInt 1))) (zrm A kind s th un rk)
    rw [zru_n hk ⟨hs, ht, hu⟩ hr (by omega), hm]
    refine ⟨?_, rfl⟩
    show some (Value.int (m + 1 - 1)) = some (.int m)
    rw [Int32.add_sub_cancel]
  · have h : ¬ ¬ (iv (zF A 343 27)).toInt = (Int32.ofInt 10).toInt := h
    rw [hm] at h
    have h : ¬ ¬ m.toInt = (Int32.ofInt 10).toInt := h
    exact no _ (zru_4 hk ⟨hs, ht, hu⟩ hr (by omega))
end
section
/-! claims, over places -/
def zcC (A : zW) (m : Int32) : Prop := zF A 282 0 = .int m ∧ 0 ≤ m.toInt ∧ m.toInt ≤ 12
def zq_isFullC : zQ := zpu (fun _ : Int32 => [.ref 282]) (fun m A => zcC A m) (fun m _ => .int (zb (decide ¬ m.toInt < 12)))
set_option maxRecDepth 20000 in
theorem za_X3_isFull : zdo r_X3_isFull zq_isFullC := by
  refine zdo_pu [] (fun _ _ => []) 40 fo_X3 rfl zs_nil k_X3_isFull (fun _ _ _ => no_zh) (fun m A hp => ?_)
  obtain ⟨hn, n0, n1⟩ := hp
  have e := e32_12
  refine ⟨fun h => ?_, fun h => ?_⟩
  · have h : (iv (zF A 282 0)).toInt < (Int32.ofNat 12).toInt := h
    rw [hn] at h
    have h : m.toInt < (Int32.ofNat 12).toInt := h
    exact ⟨zbf (by omega), rfl⟩
  · have h : ¬ (iv (zF A 282 0)).toInt < (Int32.ofNat 12).toInt := h
    rw [hn] at h
    have h : ¬ m.toInt < (Int32.ofNat 12).toInt := h
    exact ⟨zbt (by omega), rfl⟩
def zkCl (A : zW) (s u : Int32) (b : Nat) : zW := zuF (zbe (zuI (zuI A 283 (iv (zF A 282 0)).toNatClampNeg s) 284 (iv (zF A 282 0)).toNatClampNeg u) (295 + 2 * (iv (zF A 282 0)).toInt.toNat) b 4) 282 0 (.int (iv (zF A 282 0) + Int32.ofInt 1))
def zq_keepC : zQ := zfu (fun a : Int32 × Int32 × Nat × Int32 => [.ref 282, .int a.1, .int a.2.1, .ref a.2.2.1]) (fun a A => zcC A a.2.2.2 ∧ a.2.2.2.toInt < 12 ∧ zB a.2.2.1 4 = true) (fun a _ => some (.int a.2.2.2)) (fun a A => zkCl A a.1 a.2.1 a.2.2.1)
set_option maxRecDepth 20000 in
set_option maxHeartbeats 4000000 in
theorem za_X3_keep : zdo r_X3_keep zq_keepC := by
  refine zdo_fu [(216, 2, zq_become)] (fun _ _ => []) 80 fo_X3 rfl (zs_cons rfl za_X1_become zs_nil) k_X3_keep (fun _ _ _ => no_zh) (fun a A hp => ?_)
  obtain ⟨s, u, b, m⟩ := a
  obtain ⟨⟨hm, m0, m1⟩, m2, hB⟩ := hp
  have e := e32_12
  have hm : zF A 282 0 = .int m := hm
  have m2 : m.toInt < 12 := m2
  have m0 : 0 ≤ m.toInt := m0
  have em : (iv (zF A 282 0)).toInt.toNat = m.toInt.toNat := by
    rw [hm]
    rfl
  have hi : (iv (zF A 282 0)).toInt.toNat < 12 := by omega
  refine ⟨fun h => ?_, fun h => ?_⟩
  · refine ⟨(295 + 2 * (iv (zF A 282 0)).toInt.toNat, b, 4), ?_, ⟨zB_r (by decide +kernel) hi, hB, (by decide : 4 ≤ 64)⟩, rfl, ?_, rfl⟩
    · show [zrl _ 294 (iv (zF A 282 0)).toInt.toNat, Value.ref b] = _
      rw [zrl_294 hi]
    · show some (Value.int (iv (zF A 282 0) + Int32.ofInt 1 - Int32.ofInt 1)) = some (.int m)
      rw [hm]
      show some (Value.int (m + 1 - 1)) = some (.int m)
      rw [Int32.add_sub_cancel]
  · have h : ¬ (iv (zF A 282 0)).toInt < (Int32.ofNat 12).toInt := h
    rw [hm] at h
    have h : ¬ m.toInt < (Int32.ofNat 12).toInt := h
    omega
def zclV (c m s u : Int32) : Option Int32 := if ¬ ((0 ≤ s.toInt ∧ s.toInt < c.toInt) ∧ (0 ≤ u.toInt ∧ u.toInt < 6)) then some (-1) else if ¬ m.toInt < 12 then some (-4) else none
section
variable {c m s u : Int32}
set_option maxRecDepth 20000 in
theorem zcl_1 (h : ¬ ((0 ≤ s.toInt ∧ s.toInt < c.toInt) ∧ (0 ≤ u.toInt ∧ u.toInt < 6))) : zclV c m s u = some (-1) := if_pos h
set_option maxRecDepth 20000 in
theorem zcl_4 (h : (0 ≤ s.toInt ∧ s.toInt < c.toInt) ∧ (0 ≤ u.toInt ∧ u.toInt < 6)) (h2 : ¬ m.toInt < 12) : zclV c m s u = some (-4) := by
  unfold zclV
  rw [if_neg (fun z => z h), if_pos h2]
set_option maxRecDepth 20000 in
theorem zcl_n (h : (0 ≤ s.toInt ∧ s.toInt < c.toInt) ∧ (0 ≤ u.toInt ∧ u.toInt < 6)) (h2 : m.toInt < 12) : zclV c m s u = none := by
  unfold zclV
  rw [if_neg (fun z => z h), if_neg (fun z => z h2)]
set_option maxRecDepth 20000 in
theorem zcl_g (h : zclV c m s u = none) : ((0 ≤ s.toInt ∧ s.toInt < c.toInt) ∧ (0 ≤ u.toInt ∧ u.toInt < 6)) ∧ m.toInt < 12 := by
  unfold zclV at h
  split at h
  · cases h
  · rename_i h1
    split at h
    · cases h
    · rename_i h2
      exact ⟨Classical.not_not.mp h1, Classical.not_not.mp h2⟩
end
abbrev zclA : Type := (Int32 × Int32) × Int32 × Int32
def zcl_F (q : Nat) : zclA → List Value := fun (_, s, u) => [.ref q, .int s, .int u]
def zcl_P : zclA → zW → Prop := fun ((c, m), _, _) A => (zF A 0 1 = .int c ∧ c.toInt ≤ 60) ∧ zcC A m
def zcl_Q : zclA → zW → Option Value → zW → Prop := fun ((c, m), s, u) A rv A' => zhdQ (zclV c m s u) m (fun A' => A' = zkCl A s u (2 + 2 * s.toInt.toNat)) A rv A'
def zq_claim : zQ := zs (zcl_F 0) zcl_P zcl_Q
def Sp_zcl : zP := [(381, 2, zq_sentenceAt), (487, 1, q_isSource), (1041, 1, zq_isFullC), (1044, 4, zq_keepC)]
theorem Sp_zcl_ok : zsp T_X11_claim Sp_zcl := zs_cons rfl za_X11_sentenceAt (zs_cons rfl za_X11_isSource (zs_cons rfl za_X3_isFull (zs_cons rfl za_X3_keep zs_nil)))
set_option maxRecDepth 20000 in
set_option maxHeartbeats 4000000 in
theorem za_X11_claim : zdo r_X11_claim zq_claim := by
  refine zdo_of _ _ _ Sp_zcl (fun _ _ => []) 80 fo_X11 rfl Sp_zcl_ok k_X11_claim (fun _ _ _ => no_zh) (fun a A hp => ?_)
  obtain ⟨⟨c, m⟩, s, u⟩ := a
  obtain ⟨⟨hc, hc60⟩, hC⟩ := hp
  have hc60 : c.toInt ≤ 60 := hc60
  have no : ∀ v : Int32, zclV c m s u = some v → zcl_Q ((c, m), s, u) A (some (.int v)) A := fun v h => (zhd_no h : zhdQ (zclV c m s u) m (fun A' => A' = zkCl A s u (2 + 2 * s.toInt.toNat)) A (some (.int v)) A)
  refine ⟨(s, c), rfl, ⟨hc, hc60⟩, fun h => ?_, fun h => ?_⟩
  · exact no _ (zcl_1 (fun z => zat_n (fun z => by cases z) h z.1))
  have hs : 0 ≤ s.toInt ∧ s.toInt < c.toInt := zat_y h
  have e1 : zat c s (.ref (2 + 2 * s.toInt.toNat)) = .ref (2 + 2 * s.toInt.toNat) := if_pos hs
  refine ⟨u, rfl, trivial, fun h => ?_, fun h => ?_⟩
  rotate_left
  · exact no _ (zcl_1 (fun z => zb_n (Classical.not_not.mp h) z.2))
  have hu := zb_y h
  refine ⟨m, rfl, hC, fun h => ?_, fun h => ?_⟩
  rotate_left
  · exact no _ (zcl_4 ⟨hs, hu⟩ (zb_y h))
  have hm := Classical.not_not.mp (zb_n h)
  refine ⟨(s, u, 2 + 2 * s.toInt.toNat, m), ?_, ⟨hC, hm, zB_s (show s.toInt.toNat < 60 by omega)⟩, ?_⟩
  · show [Value.ref 282, .int s, .int u, zat c s (.ref (2 + 2 * s.toInt.toNat))] = _
    rw [e1]
  · show zhdQ (zclV c m s u) m (fun A' => A' = zkCl A s u (2 + 2 * s.toInt.toNat)) A (some (.int m)) (zkCl A s u (2 + 2 * s.toInt.toNat))
    rw [zcl_n ⟨hs, hu⟩ hm]
    exact ⟨rfl, rfl⟩
/-- the reference's -/
def zcm (A : zW) (s u : Int32) : zW := zuF (zuF (zuI (zuI A 366 (iv (zF A 343 40)).toNatClampNeg s) 367 (iv (zF A 343 40)).toNatClampNeg u) 343 40 (.int (iv (zF A 343 40) + Int32.ofInt 1))) 343 43 (.int (Int32.ofInt 0))
def zcm_P : zclA → zW → Prop := fun ((c, m), _, _) A => zF A 343 1 = .int c ∧ zF A 343 40 = .int m ∧ 0 ≤ m.toInt ∧ m.toInt ≤ 12
def zcm_Q : zclA → zW → Option Value → zW → Prop := fun ((c, m), s, u) A rv A' => zhdQ (zclV c m s u) m (fun A' => A' = zcm A s u) A rv A'
def zq_claimM : zQ := zs (zcl_F 343) zcm_P zcm_Q
set_option maxRecDepth 20000 in
set_option maxHeartbeats 4000000 in
theorem za_X12_claim : zdo r_X12_claim zq_claimM := by
  refine zdo_of _ _ _ [(669, 2, q_noSentence), (727, 1, q_noSource)] (fun _ _ => []) 80 fo_X12 rfl (zs_cons rfl za_X12_noSentence (zs_cons rfl za_X12_noSource zs_nil)) k_X12_claim (fun _ _ _ => no_zh) (fun a A hp => ?_)
  obtain ⟨⟨c, m⟩, s, u⟩ := a
  obtain ⟨hc, hm, m0, m1⟩ := hp
  have hm : zF A 343 40 = .int m := hm
  have m1 : m.toInt ≤ 12 := m1
  have e12 : (Int32.ofInt 12).toInt = 12 := by decide
  have no : ∀ v : Int32, zclV c m s u = some v → zcm_Q ((c, m), s, u) A (some (.int v)) A := fun v h => (zhd_no h : zhdQ (zclV c m s u) m (fun A' => A' = zcm A s u) A (some (.int v)) A)
  refine ⟨(s, c), rfl, hc, fun h => ?_, fun h => ?_⟩
  · exact no _ (zcl_1 (fun z => zb_y h z.1))
  have hs : 0 ≤ s.toInt ∧ s.toInt < c.toInt := Classical.not_not.mp (zb_n (Classical.not_not.mp h))
  refine ⟨u, rfl, trivial, fun h => ?_, fun h => ?_⟩
  rotate_left
  · exact no _ (zcl_1 (fun z => zb_y h z.2))
  have hu := Classical.not_not.mp (zb_n h)
  refine ⟨fun h => ?_, fun h => ?_⟩
  · have h : ¬ (iv (zF A 343 40)).toInt = (Int32.ofInt 12).toInt := h
    rw [hm] at h
    have h : ¬ m.toInt = (Int32.ofInt 12).toInt := h
    refine ⟨rfl, rfl, ?_⟩
    show zhdQ (zclV c m s u) m (fun A' => A' = zcm A s u) A (some (.int (iv (zF A 343 40) + Int32.ofInt 1 - Int32.ofInt 1))) (zcm A s u)
    rw [zcl_n ⟨hs, hu⟩ (by omega), hm]
    refine ⟨?_, rfl⟩
    show some (Value.int (m + 1 - 1)) = some (.int m)
    rw [Int32.add_sub_cancel]
  · have h : ¬ ¬ (iv (zF A 343 40)).toInt = (Int32.ofInt 12).toInt := h
    rw [hm] at h
    have h : ¬ ¬ m.toInt = (Int32.ofInt 12).toInt := h
    exact no _ (zcl_4 ⟨hs, hu⟩ (by omega))
end
section
/-! holds, over places: take, loose -/
theorem zrl_n {A : zW} {q e : Nat} (h : zc q e = 0) : zrl A q e = zR A q e := zcr_z h
def zq_entryAt : zQ := zpu (fun a : Int32 × Int32 => [.ref 193, .int a.1]) (fun a A => zcE A a.2) (fun a A => zat a.2 a.1 (zR A 195 a.1.toInt.toNat))
set_option maxRecDepth 20000 in
theorem za_X2_entryAt : zdo r_X2_entryAt zq_entryAt := by
  refine zdo_pu [] (fun _ _ => []) 40 fo_X2 rfl zs_nil k_X2_entryAt (fun _ _ _ => no_zh) (fun a A hp => ?_)
  obtain ⟨s, n⟩ := a
  obtain ⟨hn, n0, n1⟩ := hp
  have hn : zF A 193 1 = .int n := hn
  have n1 : n.toInt ≤ 12 := n1
  have e := e32_12
  have no : ¬ (0 ≤ s.toInt ∧ s.toInt < n.toInt) → some Value.null = some (zat n s (zR A 195 s.toInt.toNat)) ∧ A = A := fun h => by
    unfold zat
    rw [if_neg h]
    exact ⟨rfl, rfl⟩
  refine ⟨fun h => ?_, fun h => ⟨fun h2 => ?_, fun h2 => ⟨fun h3 => ?_, fun h3 => ?_⟩⟩⟩
  · have h : s.toInt < 0 := h
    exact no (by omega)
  · have h2 : (iv (zF A 193 1)).toInt ≤ s.toInt := h2
    rw [hn] at h2
    have h2 : n.toInt ≤ s.toInt := h2
    exact no (by omega)
  · have h2 : ¬ (iv (zF A 193 1)).toInt ≤ s.toInt := h2
    rw [hn] at h2
    have h2 : ¬ n.toInt ≤ s.toInt := h2
    have h3 : (Int32.ofNat 12).toInt ≤ s.toInt := h3
    omega
  · have h : ¬ s.toInt < 0 := h
    have h2 : ¬ (iv (zF A 193 1)).toInt ≤ s.toInt := h2
    rw [hn] at h2
    have h2 : ¬ n.toInt ≤ s.toInt := h2
    refine ⟨?_, rfl⟩
    show some (zrl A 195 s.toInt.toNat) = some (zat n s (zR A 195 s.toInt.toNat))
    rw [zrl_n zc195]
    unfold zat
    rw [if_pos ⟨by omega, by omega⟩]
def zq_ruleAt : zQ := zpu (fun a : Int32 × Int32 => [.ref 207, .int a.1]) (fun a A => zcR A a.2) (fun a A => zat a.2 a.1 (zR A 210 a.1.toInt.toNat))
set_option maxRecDepth 20000 in
theorem za_X9_ruleAt : zdo r_X9_ruleAt zq_ruleAt := by
  refine zdo_pu [] (fun _ _ => []) 40 fo_X9 rfl zs_nil k_X9_ruleAt (fun _ _ _ => no_zh) (fun a A hp => ?_)
  obtain ⟨s, n⟩ := a
  obtain ⟨hn, n0, n1⟩ := hp
  have hn : zF A 207 1 = .int n := hn
  have n1 : n.toInt ≤ 10 := n1
  have e := e32_10
  have no : ¬ (0 ≤ s.toInt ∧ s.toInt < n.toInt) → some Value.null = some (zat n s (zR A 210 s.toInt.toNat)) ∧ A = A := fun h => by
    unfold zat
    rw [if_neg h]
    exact ⟨rfl, rfl⟩
  refine ⟨fun h => ?_, fun h => ⟨fun h2 => ?_, fun h2 => ⟨fun h3 => ?_, fun h3 => ?_⟩⟩⟩
  · have h : s.toInt < 0 := h
    exact no (by omega)
  · have h2 : (iv (zF A 207 1)).toInt ≤ s.toInt := h2
    rw [hn] at h2
    have h2 : n.toInt ≤ s.toInt := h2
    exact no (by omega)
  · have h2 : ¬ (iv (zF A 207 1)).toInt ≤ s.toInt := h2
    rw [hn] at h2
    have h2 : ¬ n.toInt ≤ s.toInt := h2
    have h3 : (Int32.ofNat 10).toInt ≤ s.toInt := h3
    omega
  · have h : ¬ s.toInt < 0 := h
    have h2 : ¬ (iv (zF A 207 1)).toInt ≤ s.toInt := h2
    rw [hn] at h2
    have h2 : ¬ n.toInt ≤ s.toInt := h2
    refine ⟨?_, rfl⟩
    show some (zrl A 210 s.toInt.toNat) = some (zat n s (zR A 210 s.toInt.toNat))
    rw [zrl_n zc210]
    unfold zat
    rw [if_pos ⟨by omega, by omega⟩]
/-- take: a refusal, or none -/
def ztkV (n m k y x : Int32) : Option Int32 := if ¬ (0 ≤ k.toInt ∧ k.toInt < 6) then some (-1) else if ¬ (0 ≤ y.toInt ∧ y.toInt ≤ 1) then some (-2) else if ¬ (0 ≤ x.toInt ∧ x.toInt < (if y.toInt = 0 then n else m).toInt) then some (-1) else none
section
variable {n m k y x : Int32}
theorem ztk_1 (h : ¬ (0 ≤ k.toInt ∧ k.toInt < 6)) : ztkV n m k y x = some (-1) := if_pos h
theorem ztk_2 (h : 0 ≤ k.toInt ∧ k.toInt < 6) (h2 : ¬ (0 ≤ y.toInt ∧ y.toInt ≤ 1)) : ztkV n m k y x = some (-2) := by
  unfold ztkV
  rw [if_neg (fun z => z h), if_pos h2]
theorem ztk_3 (h : 0 ≤ k.toInt ∧ k.toInt < 6) (h2 : 0 ≤ y.toInt ∧ y.toInt ≤ 1) (h3 : ¬ (0 ≤ x.toInt ∧ x.toInt < (if y.toInt = 0 then n else m).toInt)) : ztkV n m k y x = some (-1) := by
  unfold ztkV
  rw [if_neg (fun z => z h), if_neg (fun z => z h2), if_pos h3]
theorem ztk_n (h : 0 ≤ k.toInt ∧ k.toInt < 6) (h2 : 0 ≤ y.toInt ∧ y.toInt ≤ 1) (h3 : 0 ≤ x.toInt ∧ x.toInt < (if y.toInt = 0 then n else m).toInt) : ztkV n m k y x = none := by
  unfold ztkV
  rw [if_neg (fun z => z h), if_neg (fun z => z h2), if_neg (fun z => z h3)]
theorem ztk_g (h : ztkV n m k y x = none) : (0 ≤ k.toInt ∧ k.toInt < 6) ∧ (0 ≤ y.toInt ∧ y.toInt ≤ 1) ∧ (0 ≤ x.toInt ∧ x.toInt < (if y.toInt = 0 then n else m).toInt) := by
  by_cases h1 : 0 ≤ k.toInt ∧ k.toInt < 6
  · by_cases h2 : 0 ≤ y.toInt ∧ y.toInt ≤ 1
    · by_cases h3 : 0 ≤ x.toInt ∧ x.toInt < (if y.toInt = 0 then n else m).toInt
      · exact ⟨h1, h2, h3⟩
      · rw [ztk_3 h1 h2 h3] at h
        cases h
    · rw [ztk_2 h1 h2] at h
      cases h
  · rw [ztk_1 h1] at h
    cases h
end
/-- entries and rules are there, as many as are counted -/
def zref (A : zW) (q : Nat) (n : Int32) : Prop := ∀ e : Nat, (e : Int) < n.toInt → ∃ j, zR A q e = .ref j
abbrev ztkA : Type := (Int32 × Int32) × Int32 × Int32 × Int32
def ztk_F (q : Nat) : ztkA → List Value := fun (_, k, y, x) => [.ref q, .int k, .int y, .int x]
def ztk_P : ztkA → zW → Prop := fun ((n, m), _, _, _) A => zcE A n ∧ zcR A m ∧ zref A 195 n ∧ zref A 210 m
def ztk_Q : ztkA → zW → Option Value → zW → Prop := fun ((n, m), k, y, x) A rv A' => zhdQ (ztkV n m k y x) 1 (fun A' => A' = zuR A 334 k.toInt.toNat (zR A (if y.toInt = 0 then 195 else 210) x.toInt.toNat)) A rv A'
def zq_take : zQ := zs (ztk_F 0) ztk_P ztk_Q
theorem zref_n {A : zW} {q : Nat} {n s : Int32} (h : zref A q n) : zat n s (zR A q s.toInt.toNat) = .null ↔ ¬ (0 ≤ s.toInt ∧ s.toInt < n.toInt) := by
  constructor
  · intro h1 z
    unfold zat at h1
    rw [if_pos z] at h1
    obtain ⟨j, hj⟩ := h s.toInt.toNat (by omega)
    rw [hj] at h1
    cases h1
  · intro z
    exact if_neg z
set_option maxRecDepth 20000 in
set_option maxHeartbeats 4000000 in
theorem za_X11_take : zdo r_X11_take zq_take := by
  refine zdo_of _ _ _ [(1204, 1, q_isHold), (603, 2, zq_entryAt), (906, 2, zq_ruleAt)] (fun _ _ => []) 80 fo_X11 rfl (zs_cons rfl za_X11_isHold (zs_cons rfl za_X2_entryAt (zs_cons rfl za_X9_ruleAt zs_nil))) k_X11_take (fun _ _ _ => no_zh) (fun a A hp => ?_)
  obtain ⟨⟨n, m⟩, k, y, x⟩ := a
  obtain ⟨hE, hR, h1, h2⟩ := hp
  have e1 : (Int32.ofInt 1).toInt = 1 := by decide
  have no : ∀ v : Int32, ztkV n m k y x = some v → ztk_Q ((n, m), k, y, x) A (some (.int v)) A := fun v h => (zhd_no h : zhdQ (ztkV n m k y x) 1 (fun A' => A' = zuR A 334 k.toInt.toNat (zR A (if y.toInt = 0 then 195 else 210) x.toInt.toNat)) A (some (.int v)) A)
  have ye : ∀ v : Value, ztkV n m k y x = none → v = zR A (if y.toInt = 0 then 195 else 210) x.toInt.toNat → ztk_Q ((n, m), k, y, x) A (some (.int 1)) (zuR A 334 k.toInt.toNat v) := fun v h hv => by
    show zhdQ (ztkV n m k y x) 1 (fun A' => A' = zuR A 334 k.toInt.toNat (zR A (if y.toInt = 0 then 195 else 210) x.toInt.toNat)) A (some (.int 1)) (zuR A 334 k.toInt.toNat v)
    rw [h, hv]
    exact ⟨rfl, rfl⟩
  refine ⟨k, rfl, trivial, fun h => ?_, fun h => ?_⟩
  rotate_left
  · exact no _ (ztk_1 (zb_n (Classical.not_not.mp h)))
  have hk := zb_y h
  refine ⟨fun h => ?_, fun h => ⟨fun h3 => ?_, fun h3 => ?_⟩⟩
  · have h : y.toInt < 0 := h
    exact no _ (ztk_2 hk (by omega))
  rotate_left
  · have h3 : ¬ y.toInt ≤ (Int32.ofInt 1).toInt := h3
    exact no _ (ztk_2 hk (by omega))
  have h : ¬ y.toInt < 0 := h
  have h3 : y.toInt ≤ (Int32.ofInt 1).toInt := h3
  have hy : 0 ≤ y.toInt ∧ y.toInt ≤ 1 := ⟨by omega, by omega⟩
  refine ⟨(x, n), rfl, hE, fun h4 => ⟨fun h5 => ?_, fun h5 => ?_⟩, fun h4 => ⟨(x, m), rfl, hR, fun h5 => ?_, fun h5 => ?_⟩⟩
  · have h4 : ¬ y.toInt = (Int32.ofInt 1).toInt := h4
    have hy0 : y.toInt = 0 := by omega
    have h5 : ¬ zat n x (zR A 195 x.toInt.toNat) = .null := h5
    have hx := zat_y h5
    refine ⟨zc334, ye _ (ztk_n hk hy (by rw [if_pos hy0]; exact hx)) ?_⟩
    show zat n x (zR A 195 x.toInt.toNat) = _
    rw [if_pos hy0]
    exact if_pos hx
  · have h4 : ¬ y.toInt = (Int32.ofInt 1).toInt := h4
    have hy0 : y.toInt = 0 := by omega
    exact no _ (ztk_3 hk hy (by rw [if_pos hy0]; exact (zref_n h1).mp h5))
  · have h4 : ¬ ¬ y.toInt = (Int32.ofInt 1).toInt := h4
    have hy0 : ¬ y.toInt = 0 := by omega
    have h5 : ¬ zat m x (zR A 210 x.toInt.toNat) = .null := h5
    have hx := zat_y h5
    refine ⟨zc334, ye _ (ztk_n hk hy (by rw [if_neg hy0]; exact hx)) ?_⟩
    show zat m x (zR A 210 x.toInt.toNat) = _
    rw [if_neg hy0]
    exact if_pos hx
  · have h4 : ¬ ¬ y.toInt = (Int32.ofInt 1).toInt := h4
    have hy0 : ¬ y.toInt = 0 := by omega
    exact no _ (ztk_3 hk hy (by rw [if_neg hy0]; exact (zref_n h2).mp h5))
/-- loose -/
def zlsV (k : Int32) : Option Int32 := if ¬ (0 ≤ k.toInt ∧ k.toInt < 6) then some (-1) else none
def zlsQ (k : Int32) (b : Bool) (G : zW → Prop) (A : zW) (rv : Option Value) (A' : zW) : Prop := (¬ (0 ≤ k.toInt ∧ k.toInt < 6) ∧ rv = some (.int (-1)) ∧ A' = A) ∨ ((0 ≤ k.toInt ∧ k.toInt < 6) ∧ rv = some (.int (zb b)) ∧ G A')
def zq_loose : zQ := zs (fun k : Int32 => [.ref 0, .int k]) (fun _ _ => True) (fun k A rv A' => zlsQ k (decide ¬ zR A 334 k.toInt.toNat = .null) (fun A' => A' = zuR A 334 k.toInt.toNat .null) A rv A')
set_option maxRecDepth 20000 in
set_option maxHeartbeats 4000000 in
theorem za_X11_loose : zdo r_X11_loose zq_loose := by
  refine zdo_of _ _ _ [(1204, 1, q_isHold)] (fun _ _ => []) 80 fo_X11 rfl (zs_cons rfl za_X11_isHold zs_nil) k_X11_loose (fun _ _ _ => no_zh) (fun k A hp => ?_)
  refine ⟨k, rfl, trivial, fun h => ?_, fun h => ?_⟩
  rotate_left
  · exact Or.inl ⟨zb_n (Classical.not_not.mp h), rfl, rfl⟩
  have hk := zb_y h
  have e : zrl A 334 k.toInt.toNat = zR A 334 k.toInt.toNat := zrl_n zc334
  refine ⟨fun h2 => ⟨zc334, fun h3 => ?_, fun h3 => ?_⟩, fun h2 => ⟨zc334, fun h3 => ?_, fun h3 => ?_⟩⟩
  · have h2 : zrl A 334 k.toInt.toNat = .null := h2
    rw [e] at h2
    exact Or.inr ⟨hk, zbf (fun z => z h2), rfl⟩
  · exact absurd (show (0 : Int32).toInt = 0 from by decide) h3
  · exact absurd (show (1 : Int32).toInt = 0 from h3) (by decide)
  · have h2 : ¬ zrl A 334 k.toInt.toNat = .null := h2
    rw [e] at h2
    exact Or.inr ⟨hk, zbt h2, rfl⟩
/-- the reference's -/
def ztm_P : ztkA → zW → Prop := fun ((n, m), _, _, _) A => zF A 343 8 = .int n ∧ zF A 343 27 = .int m
def ztm_Q : ztkA → zW → Option Value → zW → Prop := fun ((n, m), k, y, x) A rv A' => zhdQ (ztkV n m k y x) 1 (fun A' => A' = zuI (zuI A 379 k.toInt.toNat y) 380 k.toInt.toNat x) A rv A'
def zq_takeM : zQ := zs (ztk_F 343) ztm_P ztm_Q
set_option maxRecDepth 20000 in
set_option maxHeartbeats 4000000 in
theorem za_X12_take : zdo r_X12_take zq_takeM := by
  refine zdo_of _ _ _ [(1423, 1, q_noHold), (457, 3, zq_in), (933, 2, q_noEntry), (1155, 2, q_noRule)] (fun _ _ => []) 80 fo_X12 rfl (zs_cons rfl za_X12_noHold (zs_cons rfl za_X12_in (zs_cons rfl za_X12_noEntry (zs_cons rfl za_X12_noRule zs_nil)))) k_X12_take (fun _ _ _ => no_zh) (fun a A hp => ?_)
  obtain ⟨⟨n, m⟩, k, y, x⟩ := a
  obtain ⟨hn, hm⟩ := hp
  have e0 := ze0
  have e1 := ze1
  have ey := Int32.toInt_toInt64 y
  have no : ∀ v : Int32, ztkV n m k y x = some v → ztm_Q ((n, m), k, y, x) A (some (.int v)) A := fun v h => (zhd_no h : zhdQ (ztkV n m k y x) 1 (fun A' => A' = zuI (zuI A 379 k.toInt.toNat y) 380 k.toInt.toNat x) A (some (.int v)) A)
  have ye : ztkV n m k y x = none → ztm_Q ((n, m), k, y, x) A (some (.int 1)) (zuI (zuI A 379 k.toInt.toNat y) 380 k.toInt.toNat x) := fun h => by
    show zhdQ (ztkV n m k y x) 1 (fun A' => A' = zuI (zuI A 379 k.toInt.toNat y) 380 k.toInt.toNat x) A (some (.int 1)) (zuI (zuI A 379 k.toInt.toNat y) 380 k.toInt.toNat x)
    rw [h]
    exact ⟨rfl, rfl⟩
  refine ⟨k, rfl, trivial, fun h => ?_, fun h => ?_⟩
  rotate_left
  · exact no _ (ztk_1 (zb_y h))
  have hk := Classical.not_not.mp (zb_n h)
  refine ⟨(y.toInt64, Int64.ofNat 0, Int64.ofNat 1), rfl, trivial, fun h => ?_, fun h => ?_⟩
  rotate_left
  · have h := zb_n (Classical.not_not.mp h)
    exact no _ (ztk_2 hk (fun z => h ⟨by show (Int64.ofNat 0).toInt ≤ y.toInt64.toInt; omega, by show y.toInt64.toInt ≤ (Int64.ofNat 1).toInt; omega⟩))
  have hy0 : (Int64.ofNat 0).toInt ≤ y.toInt64.toInt ∧ y.toInt64.toInt ≤ (Int64.ofNat 1).toInt := zb_y h
  have hy : 0 ≤ y.toInt ∧ y.toInt ≤ 1 := ⟨by omega, by omega⟩
  refine ⟨fun h => ⟨(x, m), rfl, hm, fun h2 => ?_, fun h2 => ?_⟩, fun h => ⟨(x, n), rfl, hn, fun h2 => ?_, fun h2 => ?_⟩⟩
  · have h : ¬ y.toInt = 0 := h
    exact ye (ztk_n hk hy (by rw [if_neg h]; exact Classical.not_not.mp (zb_n h2)))
  · have h : ¬ y.toInt = 0 := h
    exact no _ (ztk_3 hk hy (by rw [if_neg h]; exact zb_y h2))
  · have h : ¬ ¬ y.toInt = 0 := h
    have h := Classical.not_not.mp h
    exact ye (ztk_n hk hy (by rw [if_pos h]; exact Classical.not_not.mp (zb_n h2)))
  · have h : ¬ ¬ y.toInt = 0 := h
    have h := Classical.not_not.mp h
    exact no _ (ztk_3 hk hy (by rw [if_pos h]; exact zb_y h2))
def zq_looseM : zQ := zs (fun k : Int32 => [.ref 343, .int k]) (fun _ _ => True) (fun k A rv A' => zlsQ k (decide (0 ≤ (zI A 379 k.toInt.toNat).toInt)) (fun A' => A' = zuI A 379 k.toInt.toNat (Int32.ofInt (-9))) A rv A')
set_option maxRecDepth 20000 in
set_option maxHeartbeats 4000000 in
theorem za_X12_loose : zdo r_X12_loose zq_looseM := by
  refine zdo_of _ _ _ [(1423, 1, q_noHold)] (fun _ _ => []) 80 fo_X12 rfl (zs_cons rfl za_X12_noHold zs_nil) k_X12_loose (fun _ _ _ => no_zh) (fun k A hp => ?_)
  refine ⟨k, rfl, trivial, fun h => ?_, fun h => ?_⟩
  rotate_left
  · exact Or.inl ⟨zb_y h, rfl, rfl⟩
  have hk := Classical.not_not.mp (zb_n h)
  refine ⟨fun h2 => ?_, fun h2 => ?_⟩
  · have h2 : 0 ≤ (zI A 379 k.toInt.toNat).toInt := h2
    exact Or.inr ⟨hk, zbt h2, rfl⟩
  · have h2 : ¬ 0 ≤ (zI A 379 k.toInt.toNat).toInt := h2
    exact Or.inr ⟨hk, zbf h2, rfl⟩
end
section
/-! what a hold has: as, tell, show, over places -/
theorem fo_X4n : f_ok5 fl_X4 pl_X4 nw_X4 kl_X4 il_X4 = true := by decide +kernel
theorem fo_X8n : f_ok5 fl_X8 pl_X8 nw_X8 kl_X8 il_X8 = true := by decide +kernel
theorem fo_X0n : f_ok5 fl_X0 pl_X0 nw_X0 kl_X0 il_X0 = true := by decide +kernel
theorem fo_X5n : f_ok5 fl_X5 pl_X5 nw_X5 kl_X5 il_X5 = true := by decide +kernel
theorem fo_X10n : f_ok5 fl_X10 pl_X10 nw_X10 kl_X10 il_X10 = true := by decide +kernel
/-- a body leaves its number -/
def zmk (A : zW) (x : Int32) : zW := zuI A 342 0 (Int32.ofInt 31 * zI A 342 0 + x)
def zq_mark : zQ := zfu (fun x : Int32 => [.ref 342, .int x]) (fun _ _ => True) (fun _ _ => none) (fun x A => zmk A x)
set_option maxRecDepth 20000 in
theorem za_X10_mark : zdo r_X10_mark zq_mark := by
  refine zdo_fu [] (fun _ _ => []) 40 fo_X10n rfl zs_nil k_X10_mark (fun _ _ _ => no_zh) (fun x A hp => ?_)
  refine ⟨fun h => ?_, fun h => ⟨rfl, rfl⟩⟩
  have h : (Int32.ofNat 1).toInt ≤ 0 := h
  exact absurd h (by decide)
/-- told: the number that comes, the bodies that leave theirs -/
abbrev zteA : Type := Nat × Int32
def zq_toldE : zQ := zfu (fun a : zteA => [.ref a.1, .ref 342]) (fun a A => 385 ≤ a.1 ∧ (zK A a.1).1 = 4 ∧ zF A a.1 1 = .int a.2) (fun a _ => some (.int a.2)) (fun _ A => zmk A (Int32.ofInt 1))
set_option maxRecDepth 20000 in
theorem za_X4_told : zdo r_X4_told zq_toldE := by
  refine zdo_fu [(91, 2, zq_mark)] (fun _ _ => []) 40 fo_X4n rfl (zs_cons rfl za_X10_mark zs_nil) k_X4_told (fun _ _ _ => no_zh) (fun a A hp => ?_)
  obtain ⟨j, s⟩ := a
  obtain ⟨hj, hc, hs⟩ := hp
  have hj : 385 ≤ j := hj
  have hc : (zK A j).1 = 4 := hc
  have hs : zF A j 1 = .int s := hs
  refine ⟨Int32.ofInt 1, rfl, trivial, ?_, rfl⟩
  show some (zfl A j (kfd fl_X4 9 (zkd A j))) = some (.int s)
  rw [zkd_d hj, hc, zfl_d hj]
  exact congrArg some hs
/-- a rule's plain body -/
def zq_plainly : zQ := zfu (fun a : Nat × Nat × Int32 => [.ref a.1, .ref 342]) (fun a A => 385 ≤ a.1 ∧ (zK A a.1).1 = a.2.1 ∧ zF A a.1 (kfd fl_X8 13 a.2.1) = .int a.2.2) (fun a _ => some (.int a.2.2)) (fun _ A => zmk A (Int32.ofInt 2))
set_option maxRecDepth 20000 in
theorem za_X8_plainly : zdo r_X8_plainly zq_plainly := by
  refine zdo_fu [(79, 2, zq_mark)] (fun _ _ => []) 40 fo_X8n rfl (zs_cons rfl za_X10_mark zs_nil) k_X8_plainly (fun _ _ _ => no_zh) (fun a A hp => ?_)
  obtain ⟨j, ci, s⟩ := a
  obtain ⟨hj, hc, hs⟩ := hp
  have hj : 385 ≤ j := hj
  have hc : (zK A j).1 = ci := hc
  refine ⟨Int32.ofInt 2, rfl, trivial, ?_, rfl⟩
  show some (zfl A j (kfd fl_X8 13 (zkd A j))) = some (.int s)
  rw [zkd_d hj, hc, zfl_d hj]
  exact congrArg some hs
set_option maxRecDepth 20000 in
theorem za_X8_told : zdo r_X8_told zq_plainly := by
  refine zdo_fu [(66, 2, zq_plainly)] (fun _ _ => []) 40 fo_X8n rfl (zs_cons rfl za_X8_plainly zs_nil) k_X8_told (fun _ _ _ => no_zh) (fun a A hp => ?_)
  exact ⟨a, rfl, hp, rfl, rfl⟩
def zq_toldB : zQ := zfu (fun a : Nat × Int32 × Int32 => [.ref a.1, .ref 342]) (fun a A => 385 ≤ a.1 ∧ (zK A a.1).1 = 0 ∧ zF A a.1 1 = .int a.2.1 ∧ zF A a.1 2 = .int a.2.2) (fun a _ => some (.int (a.2.1 + a.2.2))) (fun _ A => zmk (zmk A (Int32.ofInt 3)) (Int32.ofInt 2))
set_option maxRecDepth 20000 in
theorem za_X0_told : zdo r_X0_told zq_toldB := by
  refine zdo_fu [(22, 2, zq_mark), (39, 2, zq_plainly)] (fun _ _ => []) 40 fo_X0n rfl (zs_cons rfl za_X10_mark (zs_cons rfl za_X8_plainly zs_nil)) k_X0_told (fun _ _ _ => no_zh) (fun a A hp => ?_)
  obtain ⟨j, s, u⟩ := a
  obtain ⟨hj, hc, hs, hu⟩ := hp
  have hj : 385 ≤ j := hj
  have hc : (zK A j).1 = 0 := hc
  have hu : zF A j 2 = .int u := hu
  refine ⟨Int32.ofInt 3, rfl, trivial, (j, 0, s), rfl, ⟨hj, hc, hs⟩, ?_, rfl⟩
  show some (Value.int (s + iv (zfl A j (kfd fl_X0 17 (zkd A j))))) = some (.int (s + u))
  rw [zkd_d hj, hc, zfl_d hj, show zF A j (kfd fl_X0 17 0) = .int u from hu]
  rfl
def zq_toldL : zQ := zfu (fun a : Nat × Int32 => [.ref a.1, .ref 342]) (fun a A => 385 ≤ a.1 ∧ (zK A a.1).1 = 5 ∧ zF A a.1 1 = .int a.2) (fun a _ => some (.int (-a.2 - Int32.ofInt 1))) (fun _ A => zmk (zmk A (Int32.ofInt 4)) (Int32.ofInt 2))
set_option maxRecDepth 20000 in
theorem za_X5_told : zdo r_X5_told zq_toldL := by
  refine zdo_fu [(22, 2, zq_mark), (39, 2, zq_plainly)] (fun _ _ => []) 40 fo_X5n rfl (zs_cons rfl za_X10_mark (zs_cons rfl za_X8_plainly zs_nil)) k_X5_told (fun _ _ _ => no_zh) (fun a A hp => ?_)
  obtain ⟨j, s⟩ := a
  obtain ⟨hj, hc, hs⟩ := hp
  exact ⟨Int32.ofInt 4, rfl, trivial, (j, 5, s), rfl, ⟨hj, hc, hs⟩, rfl, rfl⟩
/-- shown -/
def zq_shownR : zQ := zfu (fun a : Nat × Nat × Int32 => [.ref a.1, .ref 342]) (fun a A => 385 ≤ a.1 ∧ (zK A a.1).1 = a.2.1 ∧ zF A a.1 (kfd fl_X8 30 a.2.1) = .int a.2.2) (fun a _ => some (.int a.2.2)) (fun _ A => zmk A (Int32.ofInt 5))
set_option maxRecDepth 20000 in
theorem za_X8_shown : zdo r_X8_shown zq_shownR := by
  refine zdo_fu [(79, 2, zq_mark)] (fun _ _ => []) 40 fo_X8n rfl (zs_cons rfl za_X10_mark zs_nil) k_X8_shown (fun _ _ _ => no_zh) (fun a A hp => ?_)
  obtain ⟨j, ci, s⟩ := a
  obtain ⟨hj, hc, hs⟩ := hp
  have hj : 385 ≤ j := hj
  have hc : (zK A j).1 = ci := hc
  refine ⟨Int32.ofInt 5, rfl, trivial, ?_, rfl⟩
  show some (zfl A j (kfd fl_X8 30 (zkd A j))) = some (.int s)
  rw [zkd_d hj, hc, zfl_d hj]
  exact congrArg some hs
def zq_shownB : zQ := zfu (fun a : Nat × Nat × Int32 => [.ref a.1, .ref 342]) (fun a A => 385 ≤ a.1 ∧ (zK A a.1).1 = a.2.1 ∧ zF A a.1 (kfd fl_X8 30 a.2.1) = .int a.2.2) (fun a _ => some (.int (Int32.ofInt 100 + a.2.2))) (fun _ A => zmk (zmk A (Int32.ofInt 6)) (Int32.ofInt 5))
set_option maxRecDepth 20000 in
theorem za_X0_shown : zdo r_X0_shown zq_shownB := by
  refine zdo_fu [(22, 2, zq_mark), (65, 2, zq_shownR)] (fun _ _ => []) 40 fo_X0n rfl (zs_cons rfl za_X10_mark (zs_cons rfl za_X8_shown zs_nil)) k_X0_shown (fun _ _ _ => no_zh) (fun a A hp => ?_)
  exact ⟨Int32.ofInt 6, rfl, trivial, a, rfl, hp, rfl, rfl⟩
def zq_shownL : zQ := zfu (fun a : Nat × Nat × Int32 => [.ref a.1, .ref 342]) (fun a A => 385 ≤ a.1 ∧ (zK A a.1).1 = a.2.1 ∧ zF A a.1 (kfd fl_X8 30 a.2.1) = .int a.2.2) (fun a _ => some (.int (Int32.ofInt 1000 + (Int32.ofInt 100 + a.2.2)))) (fun _ A => zmk (zmk (zmk A (Int32.ofInt 7)) (Int32.ofInt 6)) (Int32.ofInt 5))
set_option maxRecDepth 20000 in
theorem za_X5_shown : zdo r_X5_shown zq_shownL := by
  refine zdo_fu [(22, 2, zq_mark), (53, 2, zq_shownB)] (fun _ _ => []) 40 fo_X5n rfl (zs_cons rfl za_X10_mark (zs_cons rfl za_X0_shown zs_nil)) k_X5_shown (fun _ _ _ => no_zh) (fun a A hp => ?_)
  exact ⟨Int32.ofInt 7, rfl, trivial, a, rfl, hp, rfl, rfl⟩
/-- a call that the receiver's type decides -/
theorem zdo_dsp {L : List (Nat × fR)} {P : zQ} (hx : ∀ x ∈ L, ∀ As ws sh rv ws' sh', x.2 As ws sh rv ws' sh' → zx ws ws') (h : ∀ x ∈ L, ∀ (As : List Value) (ws : va_W) (sh : List Nat) (rv : Option Value) (ws' : va_W) (sh' : List Nat), x.2 As ws sh rv ws' sh' → (∃ v, As[0]? = some v ∧ ck_rf ws sh [x.1] v) → ∀ (A : zW) (Us : List Value) (K : Option Value → zW → Prop), zA A ws sh → zvs ws As Us → P Us A K → ∃ (A' : zW) (u : Option Value), zA A' ws' sh' ∧ zvs ws' rv.toList u.toList ∧ K u A') : zdo (fdsp L) P := by
  intro As ws sh rv ws' sh' hr
  obtain ⟨x, hm, hv, hd⟩ := hr
  exact ⟨hx x hm As ws sh rv ws' sh' hd, h x hm As ws sh rv ws' sh' hd hv⟩
/-- the type of the receiver, over places -/
theorem zdsp_t {A : zW} {ws : va_W} {sh : List Nat} {As Us : List Value} {t j : Nat} {l : List Value} (hA : zA A ws sh) (hv : zvs ws As Us) (hU : Us = .ref j :: l) (h : ∃ v, As[0]? = some v ∧ ck_rf ws sh [t] v) : zty A j = t := by
  subst hU
  obtain ⟨v, h0, q, a, e, t', rfl, hq, hs, ht⟩ := h
  cases As with
  | nil => cases h0
  | cons w r =>
    have h0 : w = .ref a := Option.some.inj h0
    subst h0
    obtain ⟨p, e', hp, hj⟩ := hv.1
    injection hp with hp
    subst hp
    have ej := hA.at_ hq hj
    subst ej
    have g1 := (hA.2.2 j _ _ hq).1
    rw [hs] at g1
    rw [← Option.some.inj g1]
    exact List.mem_singleton.mp ht
theorem zty_d {A : zW} {q : Nat} (h : 385 ≤ q) : zty A q = (zK A q).2 := by
  unfold zty
  rw [nltF h]
  rfl
/-- what a hold has: an entry, or a rule of a kind -/
def zgE (A : zW) (j : Nat) (e s : Int32) : Prop := 385 ≤ j ∧ zK A j = (4, 7) ∧ zF A j 0 = .int e ∧ zF A j 1 = .int s
def zgR (A : zW) (j : Nat) (kd r th un : Int32) : Prop := 385 ≤ j ∧ zK A j = (zkC kd, zkY kd) ∧ zF A j (kpd pI_X10 7 (zkC kd)) = .int r ∧ zF A j (kpd pI_X8 13 (zkC kd)) = .int th ∧ zF A j (kpd pI_X8 16 (zkC kd)) = .int un
def ztdV (kd th un : Int32) : Int32 := if kd.toInt = 0 then th else if kd.toInt = 1 then th + un else -th - Int32.ofInt 1
def ztdU (A : zW) (kd : Int32) : zW := if kd.toInt = 0 then zmk A (Int32.ofInt 2) else if kd.toInt = 1 then zmk (zmk A (Int32.ofInt 3)) (Int32.ofInt 2) else zmk (zmk A (Int32.ofInt 4)) (Int32.ofInt 2)
def zshV (kd r : Int32) : Int32 := if kd.toInt = 0 then r else if kd.toInt = 1 then Int32.ofInt 100 + r else Int32.ofInt 1000 + (Int32.ofInt 100 + r)
def zshU (A : zW) (kd : Int32) : zW := if kd.toInt = 0 then zmk A (Int32.ofInt 5) else if kd.toInt = 1 then zmk (zmk A (Int32.ofInt 6)) (Int32.ofInt 5) else zmk (zmk (zmk A (Int32.ofInt 7)) (Int32.ofInt 6)) (Int32.ofInt 5)
/-- told: of an entry (none), of a rule (its kind and so on) -/
abbrev ztdA : Type := Nat × Int32 × Int32 × Option (Int32 × Int32 × Int32 × Int32)
def zq_told : zQ := fun Us A K => ∃ j : Nat, Us = [.ref j, .ref 342] ∧ ((∃ e s : Int32, zgE A j e s ∧ K (some (.int s)) (zmk A (Int32.ofInt 1))) ∨ ∃ kd r th un : Int32, zgR A j kd r th un ∧ K (some (.int (ztdV kd th un))) (ztdU A kd))
def zq_shown : zQ := fun Us A K => ∃ j : Nat, Us = [.ref j, .ref 342] ∧ ∃ kd r th un : Int32, zgR A j kd r th un ∧ K (some (.int (zshV kd r))) (zshU A kd)
theorem zkY_8 {kd : Int32} (h : zkY kd = 8) : kd.toInt = 0 := by
  unfold zkY at h
  split at h
  · assumption
  · split at h <;> cases h
theorem zkY_9 {kd : Int32} (h : zkY kd = 9) : ¬ kd.toInt = 0 ∧ kd.toInt = 1 := by
  unfold zkY at h
  split at h
  · cases h
  · rename_i h0
    split at h
    · exact ⟨h0, by assumption⟩
    · cases h
theorem zkY_10 {kd : Int32} (h : zkY kd = 10) : ¬ kd.toInt = 0 ∧ ¬ kd.toInt = 1 := by
  unfold zkY at h
  split at h
  · cases h
  · rename_i h0
    split at h
    · cases h
    · exact ⟨h0, by assumption⟩
theorem zkC_0 {kd : Int32} (h : kd.toInt = 0) : zkC kd = 8 := if_pos h
theorem zkC_1 {kd : Int32} (h : ¬ kd.toInt = 0) (h1 : kd.toInt = 1) : zkC kd = 0 := by
  unfold zkC
  rw [if_neg h, if_pos h1]
theorem zkC_2 {kd : Int32} (h : ¬ kd.toInt = 0) (h1 : ¬ kd.toInt = 1) : zkC kd = 5 := by
  unfold zkC
  rw [if_neg h, if_neg h1]
set_option maxRecDepth 20000 in
theorem za_told : zdo (fdsp [(7, r_X4_told), (8, r_X8_told), (9, r_X0_told), (10, r_X5_told)]) zq_told := by
  refine zdo_dsp ?_ ?_
  · refine List.forall_mem_cons.mpr ⟨fun _ _ _ _ _ _ h => (za_X4_told _ _ _ _ _ _ h).1, List.forall_mem_cons.mpr ⟨fun _ _ _ _ _ _ h => (za_X8_told _ _ _ _ _ _ h).1, List.forall_mem_cons.mpr ⟨fun _ _ _ _ _ _ h => (za_X0_told _ _ _ _ _ _ h).1, List.forall_mem_cons.mpr ⟨fun _ _ _ _ _ _ h => (za_X5_told _ _ _ _ _ _ h).1, fun _ h => absurd h List.not_mem_nil⟩⟩⟩⟩
  · refine List.forall_mem_cons.mpr ⟨?_, List.forall_mem_cons.mpr ⟨?_, List.forall_mem_cons.mpr ⟨?_, List.forall_mem_cons.mpr ⟨?_, fun _ h => absurd h List.not_mem_nil⟩⟩⟩⟩
    · intro As ws sh rv ws' sh' hx ht A Us K hA hv hP
      obtain ⟨j, hU, hP⟩ := hP
      have hty := zdsp_t hA hv hU ht
      refine (za_X4_told _ _ _ _ _ _ hx).2 A Us K hA hv ?_
      rcases hP with ⟨e, s, ⟨g1, g2, g3, g4⟩, hK⟩ | ⟨kd, r, th, un, ⟨g1, g2, g3⟩, hK⟩
      · exact ⟨(j, s), hU, ⟨g1, by show (zK A j).1 = 4; rw [g2], g4⟩, hK⟩
      · rw [zty_d g1, g2] at hty
        have hty : zkY kd = 7 := hty
        unfold zkY at hty
        split at hty
        · cases hty
        · split at hty <;> cases hty
    · intro As ws sh rv ws' sh' hx ht A Us K hA hv hP
      obtain ⟨j, hU, hP⟩ := hP
      have hty := zdsp_t hA hv hU ht
      refine (za_X8_told _ _ _ _ _ _ hx).2 A Us K hA hv ?_
      rcases hP with ⟨e, s, ⟨g1, g2, g3, g4⟩, hK⟩ | ⟨kd, r, th, un, ⟨g1, g2, g3, g4, g5⟩, hK⟩
      · rw [zty_d g1, g2] at hty
        cases hty
      · rw [zty_d g1, g2] at hty
        have h0 := zkY_8 hty
        rw [zkC_0 h0] at g2 g3 g4 g5
        refine ⟨(j, 8, th), hU, ⟨g1, by show (zK A j).1 = 8; rw [g2], g4⟩, ?_⟩
        have e1 : ztdV kd th un = th := if_pos h0
        have e2 : ztdU A kd = zmk A (Int32.ofInt 2) := if_pos h0
        rw [e1, e2] at hK
        exact hK
    · intro As ws sh rv ws' sh' hx ht A Us K hA hv hP
      obtain ⟨j, hU, hP⟩ := hP
      have hty := zdsp_t hA hv hU ht
      refine (za_X0_told _ _ _ _ _ _ hx).2 A Us K hA hv ?_
      rcases hP with ⟨e, s, ⟨g1, g2, g3, g4⟩, hK⟩ | ⟨kd, r, th, un, ⟨g1, g2, g3, g4, g5⟩, hK⟩
      · rw [zty_d g1, g2] at hty
        cases hty
      · rw [zty_d g1, g2] at hty
        obtain ⟨h0, h1⟩ := zkY_9 hty
        rw [zkC_1 h0 h1] at g2 g3 g4 g5
        refine ⟨(j, th, un), hU, ⟨g1, by show (zK A j).1 = 0; rw [g2], g4, g5⟩, ?_⟩
        have e1 : ztdV kd th un = th + un := by
          unfold ztdV
          rw [if_neg h0, if_pos h1]
        have e2 : ztdU A kd = zmk (zmk A (Int32.ofInt 3)) (Int32.ofInt 2) := by
          unfold ztdU
          rw [if_neg h0, if_pos h1]
        rw [e1, e2] at hK
        exact hK
    · intro As ws sh rv ws' sh' hx ht A Us K hA hv hP
      obtain ⟨j, hU, hP⟩ := hP
      have hty := zdsp_t hA hv hU ht
      refine (za_X5_told _ _ _ _ _ _ hx).2 A Us K hA hv ?_
      rcases hP with ⟨e, s, ⟨g1, g2, g3, g4⟩, hK⟩ | ⟨kd, r, th, un, ⟨g1, g2, g3, g4, g5⟩, hK⟩
      · rw [zty_d g1, g2] at hty
        cases hty
      · rw [zty_d g1, g2] at hty
        obtain ⟨h0, h1⟩ := zkY_10 hty
        rw [zkC_2 h0 h1] at g2 g3 g4 g5
        refine ⟨(j, th), hU, ⟨g1, by show (zK A j).1 = 5; rw [g2], g4⟩, ?_⟩
        have e1 : ztdV kd th un = -th - Int32.ofInt 1 := by
          unfold ztdV
          rw [if_neg h0, if_neg h1]
        have e2 : ztdU A kd = zmk (zmk A (Int32.ofInt 4)) (Int32.ofInt 2) := by
          unfold ztdU
          rw [if_neg h0, if_neg h1]
        rw [e1, e2] at hK
        exact hK
set_option maxRecDepth 20000 in
theorem za_shown : zdo (fdsp [(8, r_X8_shown), (9, r_X0_shown), (10, r_X5_shown)]) zq_shown := by
  have k30 : ∀ {ci : Nat}, zkS ci → kfd fl_X8 30 ci = kpd pI_X10 7 ci := fun hc => by
    rcases hc with rfl | rfl | rfl <;> decide
  refine zdo_dsp ?_ ?_
  · refine List.forall_mem_cons.mpr ⟨fun _ _ _ _ _ _ h => (za_X8_shown _ _ _ _ _ _ h).1, List.forall_mem_cons.mpr ⟨fun _ _ _ _ _ _ h => (za_X0_shown _ _ _ _ _ _ h).1, List.forall_mem_cons.mpr ⟨fun _ _ _ _ _ _ h => (za_X5_shown _ _ _ _ _ _ h).1, fun _ h => absurd h List.not_mem_nil⟩⟩⟩
  · refine List.forall_mem_cons.mpr ⟨?_, List.forall_mem_cons.mpr ⟨?_, List.forall_mem_cons.mpr ⟨?_, fun _ h => absurd h List.not_mem_nil⟩⟩⟩
    · intro As ws sh rv ws' sh' hx ht A Us K hA hv hP
      obtain ⟨j, hU, kd, r, th, un, ⟨g1, g2, g3, -⟩, hK⟩ := hP
      have hty := zdsp_t hA hv hU ht
      refine (za_X8_shown _ _ _ _ _ _ hx).2 A Us K hA hv ?_
      rw [zty_d g1, g2] at hty
      have h0 := zkY_8 hty
      rw [zkC_0 h0] at g2 g3
      refine ⟨(j, 8, r), hU, ⟨g1, by show (zK A j).1 = 8; rw [g2], by show zF A j (kfd fl_X8 30 8) = _; rw [k30 (Or.inl rfl)]; exact g3⟩, ?_⟩
      have e1 : zshV kd r = r := if_pos h0
      have e2 : zshU A kd = zmk A (Int32.ofInt 5) := if_pos h0
      rw [e1, e2] at hK
      exact hK
    · intro As ws sh rv ws' sh' hx ht A Us K hA hv hP
      obtain ⟨j, hU, kd, r, th, un, ⟨g1, g2, g3, -⟩, hK⟩ := hP
      have hty := zdsp_t hA hv hU ht
      refine (za_X0_shown _ _ _ _ _ _ hx).2 A Us K hA hv ?_
      rw [zty_d g1, g2] at hty
      obtain ⟨h0, h1⟩ := zkY_9 hty
      rw [zkC_1 h0 h1] at g2 g3
      refine ⟨(j, 0, r), hU, ⟨g1, by show (zK A j).1 = 0; rw [g2], by show zF A j (kfd fl_X8 30 0) = _; rw [k30 (Or.inr (Or.inl rfl))]; exact g3⟩, ?_⟩
      have e1 : zshV kd r = Int32.ofInt 100 + r := by
        unfold zshV
        rw [if_neg h0, if_pos h1]
      have e2 : zshU A kd = zmk (zmk A (Int32.ofInt 6)) (Int32.ofInt 5) := by
        unfold zshU
        rw [if_neg h0, if_pos h1]
      rw [e1, e2] at hK
      exact hK
    · intro As ws sh rv ws' sh' hx ht A Us K hA hv hP
      obtain ⟨j, hU, kd, r, th, un, ⟨g1, g2, g3, -⟩, hK⟩ := hP
      have hty := zdsp_t hA hv hU ht
      refine (za_X5_shown _ _ _ _ _ _ hx).2 A Us K hA hv ?_
      rw [zty_d g1, g2] at hty
      obtain ⟨h0, h1⟩ := zkY_10 hty
      rw [zkC_2 h0 h1] at g2 g3
      refine ⟨(j, 5, r), hU, ⟨g1, by show (zK A j).1 = 5; rw [g2], by show zF A j (kfd fl_X8 30 5) = _; rw [k30 (Or.inr (Or.inr rfl))]; exact g3⟩, ?_⟩
      have e1 : zshV kd r = Int32.ofInt 1000 + (Int32.ofInt 100 + r) := by
        unfold zshV
        rw [if_neg h0, if_neg h1]
      have e2 : zshU A kd = zmk (zmk (zmk A (Int32.ofInt 7)) (Int32.ofInt 6)) (Int32.ofInt 5) := by
        unfold zshU
        rw [if_neg h0, if_neg h1]
      rw [e1, e2] at hK
      exact hK
end
section
/-! as, tell, show, on both sides -/
theorem zuF_zuF {A : zW} {q k : Nat} {u v : Value} : zuF (zuF A q k u) q k v = zuF A q k v := by
  refine Prod.ext rfl (Prod.ext rfl (Prod.ext (funext fun j => funext fun x => ?_) rfl))
  show (bif Nat.beq j q && Nat.beq x k then v else (bif Nat.beq j q && Nat.beq x k then u else zF A j x)) = (bif Nat.beq j q && Nat.beq x k then v else zF A j x)
  cases (Nat.beq j q && Nat.beq x k) <;> rfl
/-- what a hold has -/
def zhl (A : zW) (k : Nat) (y x s kd th un : Int32) : Prop := (y.toInt < 0 ∧ zR A 334 k = .null) ∨ (y.toInt = 0 ∧ ∃ j, zR A 334 k = .ref j ∧ zgE A j x s) ∨ (y.toInt = 1 ∧ (0 ≤ kd.toInt ∧ kd.toInt ≤ 2) ∧ ∃ j, zR A 334 k = .ref j ∧ zgR A j kd x th un)
abbrev zhlA : Type := Int32 × Int32 × Int32 × Int32 × Int32 × Int32
/-- an answer and a fault -/
def zasV (k kind y x kd : Int32) : Int32 × Int32 := if ¬ (0 ≤ k.toInt ∧ k.toInt < 6) then (-1, 0) else if ¬ (0 ≤ kind.toInt ∧ kind.toInt ≤ 3) then (-2, 0) else if y.toInt < 0 then (-11, 1) else if kind.toInt = 0 then (if y.toInt = 0 then (x, 0) else (-12, 2)) else if y.toInt = 1 ∧ kind.toInt - 1 ≤ kd.toInt then (x, 0) else (-12, 2)
def ztlV (k y s kd th un : Int32) : Int32 × Int32 := if ¬ (0 ≤ k.toInt ∧ k.toInt < 6) then (-1, 0) else if y.toInt < 0 then (-11, 1) else if y.toInt = 0 then (s, 0) else (ztdV kd th un, 0)
def zswV (k y x kd : Int32) : Int32 × Int32 := if ¬ (0 ≤ k.toInt ∧ k.toInt < 6) then (-1, 0) else if y.toInt < 0 then (-11, 1) else if y.toInt = 0 then (-12, 2) else (zshV kd x, 0)
def zfQ (q k : Nat) (R : Int32 × Int32) (X : zW) (rv : Option Value) (A' : zW) : Prop := rv = some (.int R.1) ∧ A' = zuF X q k (.int R.2)
theorem zq_flt_e {R : Int32 × Int32} {q k : Nat} {X : zW} {v f : Int32} (h : R = (v, f)) : zfQ q k R X (some (.int v)) (zuF X q k (.int f)) := by
  rw [h]
  exact ⟨rfl, rfl⟩
theorem zq_flt_2 {R : Int32 × Int32} {q k : Nat} {X : zW} {v f : Int32} {u : Value} (h : R = (v, f)) : zfQ q k R X (some (.int v)) (zuF (zuF X q k u) q k (.int f)) := by
  rw [h, zuF_zuF]
  exact ⟨rfl, rfl⟩
/-- a fault told -/
def zq_faulted : zQ := zfu (fun x : Int32 => [.ref 0, .int x]) (fun _ _ => True) (fun x _ => some (.int (Int32.ofInt (-10) - x))) (fun x A => zuF A 0 14 (.int x))
set_option maxRecDepth 20000 in
theorem za_X11_faulted : zdo r_X11_faulted zq_faulted := by
  refine zdo_fu [] (fun _ _ => []) 40 fo_X11 rfl zs_nil k_X11_faulted (fun _ _ _ => no_zh) (fun x A _ => ?_)
  exact ⟨rfl, rfl, rfl⟩
def zq_isOfKind : zQ := zpu (fun a : Nat × Int32 => [.ref a.1, .int a.2]) (fun a _ => 385 ≤ a.1 ∧ 0 ≤ a.2.toInt ∧ a.2.toInt ≤ 3) (fun a A => .int (Int32.ofNat (kci il_X11 (if a.2.toInt = 0 then 175 else if a.2.toInt = 1 then 288 else if a.2.toInt = 2 then 293 else 296) (zK A a.1).1)))
set_option maxRecDepth 20000 in
set_option maxHeartbeats 4000000 in
theorem za_X11_isOfKind : zdo r_X11_isOfKind zq_isOfKind := by
  refine zdo_pu [] (fun _ _ => []) 40 fo_X11 rfl zs_nil k_X11_isOfKind (fun _ _ _ => no_zh) (fun a A hp => ?_)
  obtain ⟨j, kind⟩ := a
  obtain ⟨hj, h0, h3⟩ := hp
  have hj : 385 ≤ j := hj
  have h0 : 0 ≤ kind.toInt := h0
  have h3 : kind.toInt ≤ 3 := h3
  have e : ∀ (x : Nat), (if kind.toInt = 0 then 175 else if kind.toInt = 1 then 288 else if kind.toInt = 2 then 293 else 296) = x → some (Value.int (Int32.ofNat (kci il_X11 x (zkd A j)))) = some (.int (Int32.ofNat (kci il_X11 (if kind.toInt = 0 then 175 else if kind.toInt = 1 then 288 else if kind.toInt = 2 then 293 else 296) (zK A j).1))) := fun x h => by
    rw [h, zkd_d hj]
  refine ⟨fun h => ⟨?_, rfl⟩, fun h1 h2 => ⟨fun h => ⟨?_, rfl⟩, fun h => ⟨?_, rfl⟩, fun h => ⟨?_, rfl⟩, trivial⟩⟩
  · have h : kind.toInt < 0 ∨ 2 < kind.toInt := h
    exact e _ (by rw [if_neg (by omega), if_neg (by omega), if_neg (by omega)])
  · have h : kind.toInt = 0 := h
    exact e _ (by rw [if_pos h])
  · have h : kind.toInt = 0 + 1 := h
    exact e _ (by rw [if_neg (by omega), if_pos (by omega)])
  · have h : kind.toInt = 0 + 1 + 1 := h
    exact e _ (by rw [if_neg (by omega), if_neg (by omega), if_pos (by omega)])
abbrev zasA : Type := (Int32 × Int32) × zhlA
def zas_F (q : Nat) : zasA → List Value := fun ((k, kind), _) => [.ref q, .int k, .int kind]
def zas_P : zasA → zW → Prop := fun ((k, _), y, x, s, kd, th, un) A => (0 ≤ k.toInt ∧ k.toInt < 6) → zhl A k.toInt.toNat y x s kd th un
def zq_as : zQ := zs (zas_F 0) zas_P (fun ((k, kind), y, x, _, kd, _, _) A rv A' => zfQ 0 14 (zasV k kind y x kd) A rv A')
theorem z11 : Int32.ofInt (-10) - Int32.ofInt 1 = -11 := by decide
theorem z12 : Int32.ofInt (-10) - Int32.ofInt 2 = -12 := by decide
theorem zrl_334 {A : zW} {k : Nat} : zrl A 334 k = zR A 334 k := zrl_n zc334
/-- whether it is of a kind -/
theorem zki_E {x : Nat} (h : x = 175 ∨ x = 288 ∨ x = 293 ∨ x = 296) : kci il_X11 x 4 = if x = 175 then 1 else 0 := by
  rcases h with rfl | rfl | rfl | rfl <;> decide
theorem zki_R : kci il_X11 175 8 = 0 ∧ kci il_X11 288 8 = 1 ∧ kci il_X11 293 8 = 0 ∧ kci il_X11 296 8 = 0 ∧ kci il_X11 175 0 = 0 ∧ kci il_X11 288 0 = 1 ∧ kci il_X11 293 0 = 1 ∧ kci il_X11 296 0 = 0 ∧ kci il_X11 175 5 = 0 ∧ kci il_X11 288 5 = 1 ∧ kci il_X11 293 5 = 1 ∧ kci il_X11 296 5 = 1 := by decide
theorem zki_at {kd kind : Int32} (hk : 0 ≤ kd.toInt ∧ kd.toInt ≤ 2) (h : 0 ≤ kind.toInt ∧ kind.toInt ≤ 3) : kci il_X11 (if kind.toInt = 0 then 175 else if kind.toInt = 1 then 288 else if kind.toInt = 2 then 293 else 296) (zkC kd) = if ¬ kind.toInt = 0 ∧ kind.toInt - 1 ≤ kd.toInt then 1 else 0 := by
  obtain ⟨a1, a2, a3, a4, b1, b2, b3, b4, c1, c2, c3, c4⟩ := zki_R
  rcases (show kd.toInt = 0 ∨ kd.toInt = 1 ∨ kd.toInt = 2 by omega) with hd | hd | hd
  · rw [zkC_0 hd]
    rcases (show kind.toInt = 0 ∨ kind.toInt = 1 ∨ kind.toInt = 2 ∨ kind.toInt = 3 by omega) with hi | hi | hi | hi
    · rw [if_pos hi, a1, if_neg (fun z => z.1 hi)]
    · rw [if_neg (by omega), if_pos hi, a2, if_pos ⟨by omega, by omega⟩]
    · rw [if_neg (by omega), if_neg (by omega), if_pos hi, a3, if_neg (fun z => by have := z.2; omega)]
    · rw [if_neg (by omega), if_neg (by omega), if_neg (by omega), a4, if_neg (fun z => by have := z.2; omega)]
  · rw [zkC_1 (by omega) hd]
    rcases (show kind.toInt = 0 ∨ kind.toInt = 1 ∨ kind.toInt = 2 ∨ kind.toInt = 3 by omega) with hi | hi | hi | hi
    · rw [if_pos hi, b1, if_neg (fun z => z.1 hi)]
    · rw [if_neg (by omega), if_pos hi, b2, if_pos ⟨by omega, by omega⟩]
    · rw [if_neg (by omega), if_neg (by omega), if_pos hi, b3, if_pos ⟨by omega, by omega⟩]
    · rw [if_neg (by omega), if_neg (by omega), if_neg (by omega), b4, if_neg (fun z => by have := z.2; omega)]
  · rw [zkC_2 (by omega) (by omega)]
    rcases (show kind.toInt = 0 ∨ kind.toInt = 1 ∨ kind.toInt = 2 ∨ kind.toInt = 3 by omega) with hi | hi | hi | hi
    · rw [if_pos hi, c1, if_neg (fun z => z.1 hi)]
    · rw [if_neg (by omega), if_pos hi, c2, if_pos ⟨by omega, by omega⟩]
    · rw [if_neg (by omega), if_neg (by omega), if_pos hi, c3, if_pos ⟨by omega, by omega⟩]
    · rw [if_neg (by omega), if_neg (by omega), if_neg (by omega), c4, if_pos ⟨by omega, by omega⟩]
set_option maxRecDepth 20000 in
theorem zas_1 {k kind y x kd : Int32} (h : ¬ (0 ≤ k.toInt ∧ k.toInt < 6)) : zasV k kind y x kd = (-1, 0) := if_pos h
set_option maxRecDepth 20000 in
theorem zas_2 {k kind y x kd : Int32} (h : 0 ≤ k.toInt ∧ k.toInt < 6) (h2 : ¬ (0 ≤ kind.toInt ∧ kind.toInt ≤ 3)) : zasV k kind y x kd = (-2, 0) := by
  unfold zasV
  rw [if_neg (fun z => z h), if_pos h2]
set_option maxRecDepth 20000 in
theorem zas_3 {k kind y x kd : Int32} (h : 0 ≤ k.toInt ∧ k.toInt < 6) (h2 : 0 ≤ kind.toInt ∧ kind.toInt ≤ 3) (h3 : y.toInt < 0) : zasV k kind y x kd = (-11, 1) := by
  unfold zasV
  rw [if_neg (fun z => z h), if_neg (fun z => z h2), if_pos h3]
set_option maxRecDepth 20000 in
theorem zas_4 {k kind y x kd : Int32} (h : 0 ≤ k.toInt ∧ k.toInt < 6) (h2 : 0 ≤ kind.toInt ∧ kind.toInt ≤ 3) (h3 : ¬ y.toInt < 0) (h4 : (kind.toInt = 0 ∧ y.toInt = 0) ∨ (¬ kind.toInt = 0 ∧ y.toInt = 1 ∧ kind.toInt - 1 ≤ kd.toInt)) : zasV k kind y x kd = (x, 0) := by
  unfold zasV
  rw [if_neg (fun z => z h), if_neg (fun z => z h2), if_neg h3]
  rcases h4 with ⟨a, b⟩ | ⟨a, b⟩
  · rw [if_pos a, if_pos b]
  · rw [if_neg a, if_pos b]
set_option maxRecDepth 20000 in
theorem zas_5 {k kind y x kd : Int32} (h : 0 ≤ k.toInt ∧ k.toInt < 6) (h2 : 0 ≤ kind.toInt ∧ kind.toInt ≤ 3) (h3 : ¬ y.toInt < 0) (h4 : ¬ ((kind.toInt = 0 ∧ y.toInt = 0) ∨ (¬ kind.toInt = 0 ∧ y.toInt = 1 ∧ kind.toInt - 1 ≤ kd.toInt))) : zasV k kind y x kd = (-12, 2) := by
  unfold zasV
  rw [if_neg (fun z => z h), if_neg (fun z => z h2), if_neg h3]
  by_cases a : kind.toInt = 0
  · rw [if_pos a, if_neg (fun b => h4 (Or.inl ⟨a, b⟩))]
  · rw [if_neg a, if_neg (fun b => h4 (Or.inr ⟨a, b⟩))]
set_option maxRecDepth 20000 in
set_option maxHeartbeats 8000000 in
theorem za_X11_as : zdo r_X11_as zq_as := by
  refine zdo_of _ _ _ [(1204, 1, q_isHold), (312, 2, zq_faulted), (1213, 2, zq_isOfKind)] (fun _ _ => []) 80 fo_X11 rfl (zs_cons rfl za_X11_isHold (zs_cons rfl za_X11_faulted (zs_cons rfl za_X11_isOfKind zs_nil))) k_X11_as (fun _ _ _ => no_zh) (fun a A hp => ?_)
  obtain ⟨⟨k, kind⟩, y, x, s, kd, th, un⟩ := a
  have hp : (0 ≤ k.toInt ∧ k.toInt < 6) → zhl A k.toInt.toNat y x s kd th un := hp
  have e3 : (Int32.ofInt 3).toInt = 3 := by decide
  refine ⟨rfl, k, rfl, trivial, fun h => ?_, fun h => ?_⟩
  rotate_left
  · exact zq_flt_e (zas_1 (zb_n (Classical.not_not.mp h)))
  have hk := zb_y h
  refine ⟨fun h => ?_, fun h => ⟨fun h3 => ?_, fun h3 => ?_⟩⟩
  · have h : kind.toInt < 0 := h
    exact zq_flt_e (zas_2 hk (by omega))
  rotate_left
  · have h3 : ¬ kind.toInt ≤ (Int32.ofInt 3).toInt := h3
    exact zq_flt_e (zas_2 hk (by omega))
  have h : ¬ kind.toInt < 0 := h
  have h3 : kind.toInt ≤ (Int32.ofInt 3).toInt := h3
  have hi : 0 ≤ kind.toInt ∧ kind.toInt ≤ 3 := ⟨by omega, by omega⟩
  have e : zrl (zuF A 0 14 (.int (Int32.ofInt 0))) 334 k.toInt.toNat = zR A 334 k.toInt.toNat := zrl_334
  refine ⟨fun h4 => ?_, fun h4 => ?_⟩
  · have h4 : ¬ zrl (zuF A 0 14 (.int (Int32.ofInt 0))) 334 k.toInt.toNat = .null := h4
    rw [e] at h4
    rcases hp hk with ⟨-, g⟩ | ⟨hy, j, g, g1, g2, g3, g4⟩ | ⟨hy, hd, j, g, g1, g2, g3, g4⟩
    · exact absurd g h4
    · refine ⟨(j, kind), ?_, ⟨g1, hi⟩, fun h5 => ?_, fun h5 => ?_⟩
      · show [zrl (zuF A 0 14 (.int (Int32.ofInt 0))) 334 k.toInt.toNat, .int kind] = _
        rw [e, g]
      · have h5 : (Int32.ofNat (kci il_X11 (if kind.toInt = 0 then 175 else if kind.toInt = 1 then 288 else if kind.toInt = 2 then 293 else 296) (zK A j).1)).toInt = 0 := h5
        rw [g2] at h5
        have hne : ¬ kind.toInt = 0 := fun z => by
          rw [if_pos z] at h5
          exact absurd h5 (by decide)
        refine ⟨Int32.ofInt 2, rfl, trivial, ?_⟩
        show zfQ 0 14 (zasV k kind y x kd) A (some (.int (Int32.ofInt (-10) - Int32.ofInt 2))) (zuF (zuF A 0 14 (.int (Int32.ofInt 0))) 0 14 (.int (Int32.ofInt 2)))
        rw [z12]
        exact zq_flt_2 (zas_5 hk hi (by omega) (fun z => by
          rcases z with ⟨a, -⟩ | ⟨-, b, -⟩
          · exact hne a
          · omega))
      · have h5 : ¬ (Int32.ofNat (kci il_X11 (if kind.toInt = 0 then 175 else if kind.toInt = 1 then 288 else if kind.toInt = 2 then 293 else 296) (zK A j).1)).toInt = 0 := h5
        rw [g2] at h5
        have hz : kind.toInt = 0 := by
          by_cases z : kind.toInt = 0
          · exact z
          · exfalso
            apply h5
            rw [if_neg z]
            have hx : (if kind.toInt = 1 then 288 else if kind.toInt = 2 then 293 else 296) = 288 ∨ (if kind.toInt = 1 then 288 else if kind.toInt = 2 then 293 else 296) = 293 ∨ (if kind.toInt = 1 then 288 else if kind.toInt = 2 then 293 else 296) = 296 := by
              by_cases z1 : kind.toInt = 1
              · rw [if_pos z1]
                exact Or.inl rfl
              · rw [if_neg z1]
                by_cases z2 : kind.toInt = 2
                · rw [if_pos z2]
                  exact Or.inr (Or.inl rfl)
                · rw [if_neg z2]
                  exact Or.inr (Or.inr rfl)
            rcases hx with hx | hx | hx <;> rw [hx] <;> decide
        show zfQ 0 14 (zasV k kind y x kd) A (some (zfl (zuF A 0 14 (.int (Int32.ofInt 0))) (rv_ (zrl (zuF A 0 14 (.int (Int32.ofInt 0))) 334 k.toInt.toNat)) (kfd fl_X11 408 (zkd A (rv_ (zrl (zuF A 0 14 (.int (Int32.ofInt 0))) 334 k.toInt.toNat)))))) (zuF A 0 14 (.int (Int32.ofInt 0)))
        rw [e, g]
        show zfQ 0 14 (zasV k kind y x kd) A (some (zfl (zuF A 0 14 (.int (Int32.ofInt 0))) j (kfd fl_X11 408 (zkd A j)))) (zuF A 0 14 (.int (Int32.ofInt 0)))
        rw [zkd_d g1, g2, zfl_d g1, show zF (zuF A 0 14 (.int (Int32.ofInt 0))) j (kfd fl_X11 408 (4, 7).1) = .int x from (zuF_ne (by omega)).trans g3]
        exact zq_flt_e (zas_4 hk hi (by omega) (Or.inl ⟨hz, hy⟩))
    · refine ⟨(j, kind), ?_, ⟨g1, hi⟩, fun h5 => ?_, fun h5 => ?_⟩
      · show [zrl (zuF A 0 14 (.int (Int32.ofInt 0))) 334 k.toInt.toNat, .int kind] = _
        rw [e, g]
      · have h5 : (Int32.ofNat (kci il_X11 (if kind.toInt = 0 then 175 else if kind.toInt = 1 then 288 else if kind.toInt = 2 then 293 else 296) (zK A j).1)).toInt = 0 := h5
        rw [g2] at h5
        have h5 : (Int32.ofNat (kci il_X11 (if kind.toInt = 0 then 175 else if kind.toInt = 1 then 288 else if kind.toInt = 2 then 293 else 296) (zkC kd))).toInt = 0 := h5
        rw [zki_at hd hi] at h5
        have hne : ¬ (¬ kind.toInt = 0 ∧ kind.toInt - 1 ≤ kd.toInt) := fun z => by
          rw [if_pos z] at h5
          exact absurd h5 (by decide)
        refine ⟨Int32.ofInt 2, rfl, trivial, ?_⟩
        show zfQ 0 14 (zasV k kind y x kd) A (some (.int (Int32.ofInt (-10) - Int32.ofInt 2))) (zuF (zuF A 0 14 (.int (Int32.ofInt 0))) 0 14 (.int (Int32.ofInt 2)))
        rw [z12]
        exact zq_flt_2 (zas_5 hk hi (by omega) (fun z => by
          rcases z with ⟨-, b⟩ | ⟨a, -, b⟩
          · omega
          · exact hne ⟨a, b⟩))
      · have h5 : ¬ (Int32.ofNat (kci il_X11 (if kind.toInt = 0 then 175 else if kind.toInt = 1 then 288 else if kind.toInt = 2 then 293 else 296) (zK A j).1)).toInt = 0 := h5
        rw [g2] at h5
        have h5 : ¬ (Int32.ofNat (kci il_X11 (if kind.toInt = 0 then 175 else if kind.toInt = 1 then 288 else if kind.toInt = 2 then 293 else 296) (zkC kd))).toInt = 0 := h5
        rw [zki_at hd hi] at h5
        have hz : ¬ kind.toInt = 0 ∧ kind.toInt - 1 ≤ kd.toInt := by
          by_cases z : ¬ kind.toInt = 0 ∧ kind.toInt - 1 ≤ kd.toInt
          · exact z
          · rw [if_neg z] at h5
            exact absurd (by decide) h5
        have ks : zkS (zkC kd) := by
          rcases (show kd.toInt = 0 ∨ kd.toInt = 1 ∨ kd.toInt = 2 by omega) with hd | hd | hd
          · exact Or.inl (zkC_0 hd)
          · exact Or.inr (Or.inl (zkC_1 (by omega) hd))
          · exact Or.inr (Or.inr (zkC_2 (by omega) (by omega)))
        have k408 : kfd fl_X11 408 (zkC kd) = kpd pI_X10 7 (zkC kd) := by
          rcases ks with z | z | z <;> rw [z] <;> decide
        show zfQ 0 14 (zasV k kind y x kd) A (some (zfl (zuF A 0 14 (.int (Int32.ofInt 0))) (rv_ (zrl (zuF A 0 14 (.int (Int32.ofInt 0))) 334 k.toInt.toNat)) (kfd fl_X11 408 (zkd A (rv_ (zrl (zuF A 0 14 (.int (Int32.ofInt 0))) 334 k.toInt.toNat)))))) (zuF A 0 14 (.int (Int32.ofInt 0)))
        rw [e, g]
        show zfQ 0 14 (zasV k kind y x kd) A (some (zfl (zuF A 0 14 (.int (Int32.ofInt 0))) j (kfd fl_X11 408 (zkd A j)))) (zuF A 0 14 (.int (Int32.ofInt 0)))
        rw [zkd_d g1, g2, zfl_d g1, k408, zuF_ne (by omega), g3]
        exact zq_flt_e (zas_4 hk hi (by omega) (Or.inr ⟨hz.1, hy, hz.2⟩))
  · have h4 : ¬ ¬ zrl (zuF A 0 14 (.int (Int32.ofInt 0))) 334 k.toInt.toNat = .null := fun z => z h4
    rw [e] at h4
    have h4 := Classical.not_not.mp h4
    have hy : y.toInt < 0 := by
      rcases hp hk with ⟨hy, -⟩ | ⟨-, j, g, -⟩ | ⟨-, -, j, g, -⟩
      · exact hy
      · rw [h4] at g
        cases g
      · rw [h4] at g
        cases g
    refine ⟨Int32.ofInt 1, rfl, trivial, ?_⟩
    show zfQ 0 14 (zasV k kind y x kd) A (some (.int (Int32.ofInt (-10) - Int32.ofInt 1))) (zuF (zuF A 0 14 (.int (Int32.ofInt 0))) 0 14 (.int (Int32.ofInt 1)))
    rw [z11]
    exact zq_flt_2 (zas_3 hk hi hy)
end
section
/-! tell, show: the class's; as, tell, show: the reference's -/
theorem ztl_1 {k y s kd th un : Int32} (h : ¬ (0 ≤ k.toInt ∧ k.toInt < 6)) : ztlV k y s kd th un = (-1, 0) := if_pos h
theorem ztl_3 {k y s kd th un : Int32} (h : 0 ≤ k.toInt ∧ k.toInt < 6) (h3 : y.toInt < 0) : ztlV k y s kd th un = (-11, 1) := by
  unfold ztlV
  rw [if_neg (fun z => z h), if_pos h3]
theorem ztl_4 {k y s kd th un : Int32} (h : 0 ≤ k.toInt ∧ k.toInt < 6) (h3 : y.toInt = 0) : ztlV k y s kd th un = (s, 0) := by
  unfold ztlV
  rw [if_neg (fun z => z h), if_neg (by omega), if_pos h3]
theorem ztl_5 {k y s kd th un : Int32} (h : 0 ≤ k.toInt ∧ k.toInt < 6) (h3 : ¬ y.toInt < 0) (h4 : ¬ y.toInt = 0) : ztlV k y s kd th un = (ztdV kd th un, 0) := by
  unfold ztlV
  rw [if_neg (fun z => z h), if_neg h3, if_neg h4]
theorem zsw_1 {k y x kd : Int32} (h : ¬ (0 ≤ k.toInt ∧ k.toInt < 6)) : zswV k y x kd = (-1, 0) := if_pos h
theorem zsw_3 {k y x kd : Int32} (h : 0 ≤ k.toInt ∧ k.toInt < 6) (h3 : y.toInt < 0) : zswV k y x kd = (-11, 1) := by
  unfold zswV
  rw [if_neg (fun z => z h), if_pos h3]
theorem zsw_4 {k y x kd : Int32} (h : 0 ≤ k.toInt ∧ k.toInt < 6) (h3 : y.toInt = 0) : zswV k y x kd = (-12, 2) := by
  unfold zswV
  rw [if_neg (fun z => z h), if_neg (by omega), if_pos h3]
theorem zsw_5 {k y x kd : Int32} (h : 0 ≤ k.toInt ∧ k.toInt < 6) (h3 : ¬ y.toInt < 0) (h4 : ¬ y.toInt = 0) : zswV k y x kd = (zshV kd x, 0) := by
  unfold zswV
  rw [if_neg (fun z => z h), if_neg h3, if_neg h4]
/-- the trail after a telling, a showing: what its one cell holds -/
def zt1 (t x : Int32) : Int32 := Int32.ofInt 31 * t + x
def ztdT (t kd : Int32) : Int32 := if kd.toInt = 0 then zt1 t (Int32.ofInt 2) else if kd.toInt = 1 then zt1 (zt1 t (Int32.ofInt 3)) (Int32.ofInt 2) else zt1 (zt1 t (Int32.ofInt 4)) (Int32.ofInt 2)
def zshT (t kd : Int32) : Int32 := if kd.toInt = 0 then zt1 t (Int32.ofInt 5) else if kd.toInt = 1 then zt1 (zt1 t (Int32.ofInt 6)) (Int32.ofInt 5) else zt1 (zt1 (zt1 t (Int32.ofInt 7)) (Int32.ofInt 6)) (Int32.ofInt 5)
def ztlT (t k y kd : Int32) : Int32 := if (0 ≤ k.toInt ∧ k.toInt < 6) ∧ ¬ y.toInt < 0 then (if y.toInt = 0 then zt1 t (Int32.ofInt 1) else ztdT t kd) else t
def zswT (t k y kd : Int32) : Int32 := if (0 ≤ k.toInt ∧ k.toInt < 6) ∧ ¬ y.toInt < 0 ∧ ¬ y.toInt = 0 then zshT t kd else t
theorem zuI_zuI {A : zW} {q k : Nat} {u v : Int32} : zuI (zuI A q k u) q k v = zuI A q k v := by
  refine Prod.ext (funext fun j => funext fun x => ?_) rfl
  show (bif Nat.beq j q && Nat.beq x k then v else (bif Nat.beq j q && Nat.beq x k then u else zI A j x)) = (bif Nat.beq j q && Nat.beq x k then v else zI A j x)
  cases (Nat.beq j q && Nat.beq x k) <;> rfl
theorem zuI_self {A : zW} {q k : Nat} {v : Int32} (h : v = zI A q k) : zuI A q k v = A := by
  refine Prod.ext (funext fun j => funext fun x => ?_) rfl
  show (bif Nat.beq j q && Nat.beq x k then v else zI A j x) = zI A j x
  by_cases e1 : j = q
  · by_cases e2 : x = k
    · rw [e1, e2, nbT, nbT, h]
      rfl
    · rw [nbF e2, Bool.and_false]
      rfl
  · rw [nbF e1]
    rfl
theorem zmk2 {A : zW} {x y : Int32} : zmk (zmk A x) y = zuI A 342 0 (zt1 (zt1 (zI A 342 0) x) y) := zuI_zuI
theorem ztdU_e {A : zW} {kd : Int32} : ztdU A kd = zuI A 342 0 (ztdT (zI A 342 0) kd) := by
  unfold ztdU ztdT
  by_cases h0 : kd.toInt = 0
  · rw [if_pos h0, if_pos h0]
    rfl
  · rw [if_neg h0, if_neg h0]
    by_cases h1 : kd.toInt = 1
    · rw [if_pos h1, if_pos h1]
      exact zmk2
    · rw [if_neg h1, if_neg h1]
      exact zmk2
theorem zshU_e {A : zW} {kd : Int32} : zshU A kd = zuI A 342 0 (zshT (zI A 342 0) kd) := by
  unfold zshU zshT
  by_cases h0 : kd.toInt = 0
  · rw [if_pos h0, if_pos h0]
    rfl
  · rw [if_neg h0, if_neg h0]
    by_cases h1 : kd.toInt = 1
    · rw [if_pos h1, if_pos h1]
      exact zmk2
    · rw [if_neg h1, if_neg h1, zmk2]
      exact zuI_zuI
/-- an answer, a fault, the trail -/
def ztQ (q k p i : Nat) (V : Value → Value) (R : Int32 × Int32) (t : Int32) (A : zW) (rv : Option Value) (A' : zW) : Prop := rv = some (.int R.1) ∧ A' = zuI (zuF A q k (V (.int R.2))) p i t
def ztc (R : Int32 × Int32) (t : Int32) (A : zW) (rv : Option Value) (A' : zW) : Prop := rv = some (.int R.1) ∧ A' = zuI (zuF A 0 14 (.int R.2)) 342 0 t
theorem ztc_e {R : Int32 × Int32} {t v f : Int32} {A : zW} (h : R = (v, f)) (ht : t = zI A 342 0) : ztc R t A (some (.int v)) (zuF A 0 14 (.int f)) := by
  rw [h]
  exact ⟨rfl, (zuI_self (A := zuF A 0 14 (.int f)) ht).symm⟩
theorem ztc_2 {R : Int32 × Int32} {t v f : Int32} {A : zW} {u : Value} (h : R = (v, f)) (ht : t = zI A 342 0) : ztc R t A (some (.int v)) (zuF (zuF A 0 14 u) 0 14 (.int f)) := by
  rw [h, zuF_zuF]
  exact ⟨rfl, (zuI_self (A := zuF A 0 14 (.int f)) ht).symm⟩
abbrev ztlA : Type := Int32 × zhlA
def ztl_F (q : Nat) : ztlA → List Value := fun (k, _) => [.ref q, .int k]
def ztl_P : ztlA → zW → Prop := fun (k, y, x, s, kd, th, un) A => (0 ≤ k.toInt ∧ k.toInt < 6) → zhl A k.toInt.toNat y x s kd th un
def zq_tell : zQ := zs (ztl_F 0) ztl_P (fun (k, y, _, s, kd, th, un) A rv A' => ztc (ztlV k y s kd th un) (ztlT (zI A 342 0) k y kd) A rv A')
theorem ztlT_n {t k y kd : Int32} (h : ¬ ((0 ≤ k.toInt ∧ k.toInt < 6) ∧ ¬ y.toInt < 0)) : ztlT t k y kd = t := if_neg h
theorem zswT_n {t k y kd : Int32} (h : ¬ ((0 ≤ k.toInt ∧ k.toInt < 6) ∧ ¬ y.toInt < 0 ∧ ¬ y.toInt = 0)) : zswT t k y kd = t := if_neg h
theorem zgE_set {A : zW} {j q k : Nat} {v : Value} {e s : Int32} (h : zgE A j e s) (hq : q < 385) : zgE (zuF A q k v) j e s := by
  obtain ⟨h1, h2, h3, h4⟩ := h
  exact ⟨h1, h2, (zuF_ne (by omega)).trans h3, (zuF_ne (by omega)).trans h4⟩
theorem zgR_set {A : zW} {j q k : Nat} {v : Value} {kd r th un : Int32} (h : zgR A j kd r th un) (hq : q < 385) : zgR (zuF A q k v) j kd r th un := by
  obtain ⟨h1, h2, h3, h4, h5⟩ := h
  exact ⟨h1, h2, (zuF_ne (by omega)).trans h3, (zuF_ne (by omega)).trans h4, (zuF_ne (by omega)).trans h5⟩
set_option maxRecDepth 20000 in
set_option maxHeartbeats 8000000 in
theorem za_X11_tell : zdo r_X11_tell zq_tell := by
  refine zdo_of _ _ _ [(1204, 1, q_isHold), (312, 2, zq_faulted), (1233, 2, zq_told)] (fun _ _ => []) 80 fo_X11 rfl (zs_cons rfl za_X11_isHold (zs_cons rfl za_X11_faulted (zs_cons rfl za_told zs_nil))) k_X11_tell (fun _ _ _ => no_zh) (fun a A hp => ?_)
  obtain ⟨k, y, x, s, kd, th, un⟩ := a
  have hp : (0 ≤ k.toInt ∧ k.toInt < 6) → zhl A k.toInt.toNat y x s kd th un := hp
  refine ⟨rfl, k, rfl, trivial, fun h => ?_, fun h => ?_⟩
  rotate_left
  · have hk := zb_n (Classical.not_not.mp h)
    exact ztc_e (ztl_1 hk) (ztlT_n (fun z => hk z.1))
  have hk := zb_y h
  have e : zrl (zuF A 0 14 (.int (Int32.ofInt 0))) 334 k.toInt.toNat = zR A 334 k.toInt.toNat := zrl_334
  refine ⟨fun h4 => ?_, fun h4 => ?_⟩
  · have h4 : ¬ zrl (zuF A 0 14 (.int (Int32.ofInt 0))) 334 k.toInt.toNat = .null := h4
    rw [e] at h4
    rcases hp hk with ⟨-, g⟩ | ⟨hy, j, g, g1⟩ | ⟨hy, hd, j, g, g1⟩
    · exact absurd g h4
    · refine ⟨j, ?_, Or.inl ⟨x, s, zgE_set g1 (by decide), ?_⟩⟩
      · show [zrl (zuF A 0 14 (.int (Int32.ofInt 0))) 334 k.toInt.toNat, .ref 342] = _
        rw [e, g]
      · show ztc (ztlV k y s kd th un) _ A (some (.int s)) (zmk (zuF A 0 14 (.int (Int32.ofInt 0))) (Int32.ofInt 1))
        rw [ztl_4 hk hy]
        refine ⟨rfl, ?_⟩
        have et : ztlT (zI A 342 0) k y kd = zt1 (zI A 342 0) (Int32.ofInt 1) := by
          unfold ztlT
          rw [if_pos ⟨hk, by omega⟩, if_pos hy]
        rw [et]
        rfl
    · refine ⟨j, ?_, Or.inr ⟨kd, x, th, un, zgR_set g1 (by decide), ?_⟩⟩
      · show [zrl (zuF A 0 14 (.int (Int32.ofInt 0))) 334 k.toInt.toNat, .ref 342] = _
        rw [e, g]
      · show ztc (ztlV k y s kd th un) _ A (some (.int (ztdV kd th un))) (ztdU (zuF A 0 14 (.int (Int32.ofInt 0))) kd)
        rw [ztl_5 hk (by omega) (by omega), ztdU_e]
        refine ⟨rfl, ?_⟩
        have et : ztlT (zI A 342 0) k y kd = ztdT (zI A 342 0) kd := by
          unfold ztlT
          rw [if_pos ⟨hk, by omega⟩, if_neg (by omega)]
        rw [et]
        rfl
  · have h4 : ¬ ¬ zrl (zuF A 0 14 (.int (Int32.ofInt 0))) 334 k.toInt.toNat = .null := fun z => z h4
    rw [e] at h4
    have h4 := Classical.not_not.mp h4
    have hy : y.toInt < 0 := by
      rcases hp hk with ⟨hy, -⟩ | ⟨-, j, g, -⟩ | ⟨-, -, j, g, -⟩
      · exact hy
      · rw [h4] at g
        cases g
      · rw [h4] at g
        cases g
    refine ⟨Int32.ofInt 1, rfl, trivial, ?_⟩
    show ztc _ _ A (some (.int (Int32.ofInt (-10) - Int32.ofInt 1))) (zuF (zuF A 0 14 (.int (Int32.ofInt 0))) 0 14 (.int (Int32.ofInt 1)))
    rw [z11]
    exact ztc_2 (ztl_3 hk hy) (ztlT_n (fun z => z.2 hy))
def zq_show : zQ := zs (ztl_F 0) ztl_P (fun (k, y, x, _, kd, _, _) A rv A' => ztc (zswV k y x kd) (zswT (zI A 342 0) k y kd) A rv A')
theorem zkS_k {kd : Int32} (hd : 0 ≤ kd.toInt ∧ kd.toInt ≤ 2) : zkS (zkC kd) := by
  rcases (show kd.toInt = 0 ∨ kd.toInt = 1 ∨ kd.toInt = 2 by omega) with hd | hd | hd
  · exact Or.inl (zkC_0 hd)
  · exact Or.inr (Or.inl (zkC_1 (by omega) hd))
  · exact Or.inr (Or.inr (zkC_2 (by omega) (by omega)))
theorem zki_288 {kd : Int32} (hd : 0 ≤ kd.toInt ∧ kd.toInt ≤ 2) : kci il_X11 288 (zkC kd) = 1 := by
  rcases zkS_k hd with z | z | z <;> rw [z] <;> decide
set_option maxRecDepth 20000 in
set_option maxHeartbeats 8000000 in
theorem za_X11_show : zdo r_X11_show zq_show := by
  refine zdo_of _ _ _ [(1204, 1, q_isHold), (312, 2, zq_faulted), (1245, 2, zq_shown)] (fun _ _ => []) 80 fo_X11 rfl (zs_cons rfl za_X11_isHold (zs_cons rfl za_X11_faulted (zs_cons rfl za_shown zs_nil))) k_X11_show (fun _ _ _ => no_zh) (fun a A hp => ?_)
  obtain ⟨k, y, x, s, kd, th, un⟩ := a
  have hp : (0 ≤ k.toInt ∧ k.toInt < 6) → zhl A k.toInt.toNat y x s kd th un := hp
  refine ⟨rfl, k, rfl, trivial, fun h => ?_, fun h => ?_⟩
  rotate_left
  · have hk := zb_n (Classical.not_not.mp h)
    exact ztc_e (zsw_1 hk) (zswT_n (fun z => hk z.1))
  have hk := zb_y h
  have e : zrl (zuF A 0 14 (.int (Int32.ofInt 0))) 334 k.toInt.toNat = zR A 334 k.toInt.toNat := zrl_334
  refine ⟨fun h4 => ⟨fun h5 => ?_, fun h5 => ?_⟩, fun h4 => ?_⟩
  · have h4 : ¬ zrl (zuF A 0 14 (.int (Int32.ofInt 0))) 334 k.toInt.toNat = .null := h4
    have h5 : (Int32.ofNat (kci il_X11 288 (zkd A (rv_ (zrl (zuF A 0 14 (.int (Int32.ofInt 0))) 334 k.toInt.toNat))))).toInt = 0 := h5
    rw [e] at h4 h5
    rcases hp hk with ⟨-, g⟩ | ⟨hy, j, g, g1⟩ | ⟨hy, hd, j, g, g1⟩
    · exact absurd g h4
    · refine ⟨Int32.ofInt 2, rfl, trivial, ?_⟩
      show ztc _ _ A (some (.int (Int32.ofInt (-10) - Int32.ofInt 2))) (zuF (zuF A 0 14 (.int (Int32.ofInt 0))) 0 14 (.int (Int32.ofInt 2)))
      rw [z12]
      exact ztc_2 (zsw_4 hk hy) (zswT_n (fun z => z.2.2 hy))
    · exfalso
      rw [g] at h5
      have h5 : (Int32.ofNat (kci il_X11 288 (zkd A j))).toInt = 0 := h5
      rw [zkd_d g1.1, g1.2.1] at h5
      have h5 : (Int32.ofNat (kci il_X11 288 (zkC kd))).toInt = 0 := h5
      rw [zki_288 hd] at h5
      exact absurd h5 (by decide)
  · have h4 : ¬ zrl (zuF A 0 14 (.int (Int32.ofInt 0))) 334 k.toInt.toNat = .null := h4
    have h5 : ¬ (Int32.ofNat (kci il_X11 288 (zkd A (rv_ (zrl (zuF A 0 14 (.int (Int32.ofInt 0))) 334 k.toInt.toNat))))).toInt = 0 := h5
    rw [e] at h4 h5
    rcases hp hk with ⟨-, g⟩ | ⟨hy, j, g, g1⟩ | ⟨hy, hd, j, g, g1⟩
    · exact absurd g h4
    · exfalso
      apply h5
      rw [g]
      show (Int32.ofNat (kci il_X11 288 (zkd A j))).toInt = 0
      rw [zkd_d g1.1, g1.2.1]
      decide
    · refine ⟨j, ?_, kd, x, th, un, zgR_set g1 (by decide), ?_⟩
      · show [zrl (zuF A 0 14 (.int (Int32.ofInt 0))) 334 k.toInt.toNat, .ref 342] = _
        rw [e, g]
      · show ztc (zswV k y x kd) _ A (some (.int (zshV kd x))) (zshU (zuF A 0 14 (.int (Int32.ofInt 0))) kd)
        rw [zsw_5 hk (by omega) (by omega), zshU_e]
        refine ⟨rfl, ?_⟩
        have et : zswT (zI A 342 0) k y kd = zshT (zI A 342 0) kd := by
          unfold zswT
          rw [if_pos ⟨hk, by omega, by omega⟩]
        rw [et]
        rfl
  · have h4 : ¬ ¬ zrl (zuF A 0 14 (.int (Int32.ofInt 0))) 334 k.toInt.toNat = .null := fun z => z h4
    rw [e] at h4
    have h4 := Classical.not_not.mp h4
    have hy : y.toInt < 0 := by
      rcases hp hk with ⟨hy, -⟩ | ⟨-, j, g, -⟩ | ⟨-, -, j, g, -⟩
      · exact hy
      · rw [h4] at g
        cases g
      · rw [h4] at g
        cases g
    refine ⟨Int32.ofInt 1, rfl, trivial, ?_⟩
    show ztc _ _ A (some (.int (Int32.ofInt (-10) - Int32.ofInt 1))) (zuF (zuF A 0 14 (.int (Int32.ofInt 0))) 0 14 (.int (Int32.ofInt 1)))
    rw [z11]
    exact ztc_2 (zsw_3 hk hy) (zswT_n (fun z => z.2.1 hy))
/-! the reference's -/
def zq_refused : zQ := zfu (fun x : Int32 => [.ref 343, .int x]) (fun _ _ => True) (fun x _ => some (.int x)) (fun _ A => zuF A 343 0 (.int (Int32.ofInt 0)))
set_option maxRecDepth 20000 in
theorem za_X12_refused : zdo r_X12_refused zq_refused := by
  refine zdo_fu [] (fun _ _ => []) 40 fo_X12 rfl zs_nil k_X12_refused (fun _ _ _ => no_zh) (fun x A _ => ?_)
  exact ⟨rfl, rfl, rfl⟩
def zq_failed : zQ := zfu (fun x : Int32 => [.ref 343, .int x]) (fun _ _ => True) (fun x _ => some (.int (Int32.ofInt (-10) - x))) (fun x A => zuF A 343 0 (.int x))
set_option maxRecDepth 20000 in
theorem za_X12_failed : zdo r_X12_failed zq_failed := by
  refine zdo_fu [] (fun _ _ => []) 40 fo_X12 rfl zs_nil k_X12_failed (fun _ _ _ => no_zh) (fun x A _ => ?_)
  exact ⟨rfl, rfl, rfl⟩
/-- it leaves its number -/
def zmm (A : zW) (x : Int32) : zW := zuF A 343 63 (.int (Int32.ofInt 31 * iv (zF A 343 63) + x))
def zq_traced : zQ := zfu (fun x : Int32 => [.ref 343, .int x]) (fun _ _ => True) (fun _ _ => none) (fun x A => zmm A x)
set_option maxRecDepth 20000 in
theorem za_X12_traced : zdo r_X12_traced zq_traced := by
  refine zdo_fu [] (fun _ _ => []) 40 fo_X12 rfl zs_nil k_X12_traced (fun _ _ _ => no_zh) (fun x A _ => ?_)
  exact ⟨rfl, rfl, rfl⟩
def zq_asM : zQ := zs (fun a : Int32 × Int32 => [.ref 343, .int a.1, .int a.2]) (fun _ _ => True) (fun a A rv A' => zfQ 343 0 (zasV a.1 a.2 (zI A 379 a.1.toInt.toNat) (zI A 380 a.1.toInt.toNat) (zI A 357 (zI A 380 a.1.toInt.toNat).toInt.toNat)) A rv A')
set_option maxRecDepth 20000 in
set_option maxHeartbeats 8000000 in
theorem za_X12_as : zdo r_X12_as zq_asM := by
  refine zdo_of _ _ _ [(1423, 1, q_noHold), (615, 2, zq_refused), (630, 2, zq_failed), (457, 3, zq_in)] (fun _ _ => []) 80 fo_X12 rfl (zs_cons rfl za_X12_noHold (zs_cons rfl za_X12_refused (zs_cons rfl za_X12_failed (zs_cons rfl za_X12_in zs_nil)))) k_X12_as (fun _ _ _ => no_zh) (fun a A hp => ?_)
  obtain ⟨k, kind⟩ := a
  have e0 := ze0
  have e3 : (Int64.ofInt 3).toInt = 3 := by decide
  have ek := Int32.toInt_toInt64 kind
  have e1 : (Int32.ofInt 1).toInt = 1 := by decide
  refine ⟨k, rfl, trivial, fun h => ?_, fun h => ?_⟩
  rotate_left
  · exact ⟨Int32.ofInt (-1), rfl, trivial, zq_flt_e (zas_1 (zb_y h))⟩
  have hk := Classical.not_not.mp (zb_n h)
  refine ⟨(kind.toInt64, Int64.ofNat 0, Int64.ofInt 3), rfl, trivial, fun h => ?_, fun h => ?_⟩
  rotate_left
  · have h := zb_n (Classical.not_not.mp h)
    exact ⟨Int32.ofInt (-2), rfl, trivial, zq_flt_e (zas_2 hk (fun z : 0 ≤ kind.toInt ∧ kind.toInt ≤ 3 => h ⟨by show (Int64.ofNat 0).toInt ≤ kind.toInt64.toInt; omega, by show kind.toInt64.toInt ≤ (Int64.ofInt 3).toInt; omega⟩))⟩
  have hi0 : (Int64.ofNat 0).toInt ≤ kind.toInt64.toInt ∧ kind.toInt64.toInt ≤ (Int64.ofInt 3).toInt := zb_y h
  have hi : 0 ≤ kind.toInt ∧ kind.toInt ≤ 3 := ⟨by omega, by omega⟩
  have bad : ¬ (zI A 379 k.toInt.toNat).toInt < 0 → ¬ ((kind.toInt = 0 ∧ (zI A 379 k.toInt.toNat).toInt = 0) ∨ (¬ kind.toInt = 0 ∧ (zI A 379 k.toInt.toNat).toInt = 1 ∧ kind.toInt - 1 ≤ (zI A 357 (zI A 380 k.toInt.toNat).toInt.toNat).toInt)) → zfQ 343 0 (zasV k kind (zI A 379 k.toInt.toNat) (zI A 380 k.toInt.toNat) (zI A 357 (zI A 380 k.toInt.toNat).toInt.toNat)) A (some (.int (Int32.ofInt (-10) - Int32.ofInt 2))) (zuF A 343 0 (.int (Int32.ofInt 2))) := fun h1 h2 => by
    rw [z12]
    exact zq_flt_e (zas_5 hk hi h1 h2)
  have good : ¬ (zI A 379 k.toInt.toNat).toInt < 0 → ((kind.toInt = 0 ∧ (zI A 379 k.toInt.toNat).toInt = 0) ∨ (¬ kind.toInt = 0 ∧ (zI A 379 k.toInt.toNat).toInt = 1 ∧ kind.toInt - 1 ≤ (zI A 357 (zI A 380 k.toInt.toNat).toInt.toNat).toInt)) → zfQ 343 0 (zasV k kind (zI A 379 k.toInt.toNat) (zI A 380 k.toInt.toNat) (zI A 357 (zI A 380 k.toInt.toNat).toInt.toNat)) A (some (.int (zI A 380 k.toInt.toNat))) (zuF A 343 0 (.int (Int32.ofInt 0))) := fun h1 h2 => zq_flt_e (zas_4 hk hi h1 h2)
  have ki1 : (kind - Int32.ofInt 1).toInt = kind.toInt - 1 := by
    rw [Int32.toInt_sub, e1]
    exact Int.bmod_eq_of_le (by omega) (by omega)
  have no0 : ¬ ¬ (Int32.ofInt 0).toInt = 0 → (0 : Int) = 0 := fun _ => rfl
  refine ⟨fun h => ?_, fun h => ?_⟩
  rotate_left
  · have h : ¬ 0 ≤ (zI A 379 k.toInt.toNat).toInt := h
    refine ⟨Int32.ofInt 1, rfl, trivial, ?_⟩
    show zfQ 343 0 _ A (some (.int (Int32.ofInt (-10) - Int32.ofInt 1))) (zuF A 343 0 (.int (Int32.ofInt 1)))
    rw [z11]
    exact zq_flt_e (zas_3 hk hi (show (zI A 379 k.toInt.toNat).toInt < 0 by omega))
  have h : 0 ≤ (zI A 379 k.toInt.toNat).toInt := h
  have hn : ¬ (zI A 379 k.toInt.toNat).toInt < 0 := by omega
  refine ⟨fun h2 => ⟨fun h3 => ⟨fun h6 => ?_, fun h6 => ?_⟩, fun h3 => ⟨fun h4 => ⟨fun h6 => ?_, fun h6 => ?_⟩, fun h4 => ⟨fun h6 => ?_, fun h6 => ?_⟩⟩⟩, fun h2 => ⟨fun h3 => ⟨fun h6 => ?_, fun h6 => ?_⟩, fun h3 => ⟨fun h6 => ?_, fun h6 => ?_⟩⟩⟩
  · have h2 : ¬ kind.toInt = 0 := h2
    have h3 : ¬ (zI A 379 k.toInt.toNat).toInt = (Int32.ofInt 1).toInt := h3
    exact ⟨Int32.ofInt 2, rfl, trivial, bad hn (fun z => by
      rcases z with ⟨a, -⟩ | ⟨-, b, -⟩ <;> omega)⟩
  · exact absurd (show (Int32.ofInt 0).toInt = 0 by decide) h6
  · have h2 : ¬ kind.toInt = 0 := h2
    have h4 : (zI A 357 (zI A 380 k.toInt.toNat).toInt.toNat).toInt < (kind - Int32.ofInt 1).toInt := h4
    rw [ki1] at h4
    exact ⟨Int32.ofInt 2, rfl, trivial, bad hn (fun z => by
      rcases z with ⟨a, -⟩ | ⟨-, -, b⟩ <;> omega)⟩
  · exact absurd (show (Int32.ofInt 0).toInt = 0 by decide) h6
  · exact absurd (show (Int32.ofInt 1).toInt = 0 from h6) (by decide)
  · have h2 : ¬ kind.toInt = 0 := h2
    have h3 : ¬ ¬ (zI A 379 k.toInt.toNat).toInt = (Int32.ofInt 1).toInt := h3
    have h4 : ¬ (zI A 357 (zI A 380 k.toInt.toNat).toInt.toNat).toInt < (kind - Int32.ofInt 1).toInt := h4
    rw [ki1] at h4
    exact ⟨zI A 380 k.toInt.toNat, rfl, trivial, good hn (Or.inr ⟨h2, by omega, by omega⟩)⟩
  · have h2 : ¬ ¬ kind.toInt = 0 := h2
    have h3 : ¬ (zI A 379 k.toInt.toNat).toInt = 0 := h3
    exact ⟨Int32.ofInt 2, rfl, trivial, bad hn (fun z => by
      rcases z with ⟨-, a⟩ | ⟨a, -⟩ <;> omega)⟩
  · exact absurd (show (Int32.ofInt 0).toInt = 0 by decide) h6
  · exact absurd (show (Int32.ofInt 1).toInt = 0 from h6) (by decide)
  · have h2 : ¬ ¬ kind.toInt = 0 := h2
    have h3 : ¬ ¬ (zI A 379 k.toInt.toNat).toInt = 0 := h3
    exact ⟨zI A 380 k.toInt.toNat, rfl, trivial, good hn (Or.inl ⟨by omega, by omega⟩)⟩
end
section
/-! tell, show: the reference's -/
def zmc (R : Int32 × Int32) (t : Int32) (A : zW) (rv : Option Value) (A' : zW) : Prop := rv = some (.int R.1) ∧ A' = zuF (zuF A 343 63 (.int t)) 343 0 (.int R.2)
theorem zuF_self {A : zW} {q k : Nat} {v : Value} (h : zF A q k = v) : zuF A q k v = A := by
  refine Prod.ext rfl (Prod.ext rfl (Prod.ext (funext fun j => funext fun x => ?_) rfl))
  show (bif Nat.beq j q && Nat.beq x k then v else zF A j x) = zF A j x
  by_cases e1 : j = q
  · by_cases e2 : x = k
    · rw [e1, e2, nbT, nbT, h]
      rfl
    · rw [nbF e2, Bool.and_false]
      rfl
  · rw [nbF e1]
    rfl
theorem zmc_e {R : Int32 × Int32} {t v f : Int32} {A : zW} (h : R = (v, f)) (ht : zF A 343 63 = .int t) : zmc R t A (some (.int v)) (zuF A 343 0 (.int f)) := by
  rw [h]
  refine ⟨rfl, ?_⟩
  rw [zuF_self ht]
theorem zmm_e {A : zW} {t x : Int32} (ht : zF A 343 63 = .int t) : zmm A x = zuF A 343 63 (.int (zt1 t x)) := by
  unfold zmm
  rw [ht]
  rfl
theorem zmm_2 {A : zW} {t u x : Int32} : zmm (zuF A 343 63 (.int u)) x = zuF A 343 63 (.int (zt1 u x)) := by
  rw [zmm_e (A := zuF A 343 63 (.int u)) (t := u) rfl]
  exact zuF_zuF
abbrev zmtA : Type := Int32 × Int32
def zmt_P : zmtA → zW → Prop := fun (k, t) A => zF A 343 63 = .int t ∧ ((0 ≤ k.toInt ∧ k.toInt < 6) → ¬ (zI A 379 k.toInt.toNat).toInt < 0 → ¬ (zI A 379 k.toInt.toNat).toInt = 0 → 0 ≤ (zI A 357 (zI A 380 k.toInt.toNat).toInt.toNat).toInt ∧ (zI A 357 (zI A 380 k.toInt.toNat).toInt.toNat).toInt ≤ 2)
def zq_tellM : zQ := zs (fun a : zmtA => [.ref 343, .int a.1]) zmt_P (fun (k, t) A rv A' => zmc (ztlV k (zI A 379 k.toInt.toNat) (zI A 348 (zI A 380 k.toInt.toNat).toInt.toNat) (zI A 357 (zI A 380 k.toInt.toNat).toInt.toNat) (zI A 359 (zI A 380 k.toInt.toNat).toInt.toNat) (zI A 360 (zI A 380 k.toInt.toNat).toInt.toNat)) (ztlT t k (zI A 379 k.toInt.toNat) (zI A 357 (zI A 380 k.toInt.toNat).toInt.toNat)) A rv A')
theorem i_add2 {x : Int32} {n : Int} (hx : 0 ≤ x.toInt) (hx2 : x.toInt ≤ 2) (h : x.toInt = n) : x + Int32.ofInt 2 = Int32.ofInt (n + 2) := by
  apply Int32.toInt_inj.mp
  have e2 : (Int32.ofInt 2).toInt = 2 := by decide
  rw [i_add (by omega) (by omega), e2, h, Int32.toInt_ofInt_of_le (by omega) (by omega)]
set_option maxRecDepth 20000 in
set_option maxHeartbeats 8000000 in
theorem za_X12_tell : zdo r_X12_tell zq_tellM := by
  refine zdo_of _ _ _ [(1423, 1, q_noHold), (615, 2, zq_refused), (630, 2, zq_failed), (1440, 2, zq_traced)] (fun _ _ => []) 80 fo_X12 rfl (zs_cons rfl za_X12_noHold (zs_cons rfl za_X12_refused (zs_cons rfl za_X12_failed (zs_cons rfl za_X12_traced zs_nil)))) k_X12_tell (fun _ _ _ => no_zh) (fun a A hp => ?_)
  obtain ⟨k, t⟩ := a
  obtain ⟨ht, hp⟩ := hp
  have ht : zF A 343 63 = .int t := ht
  have hp : (0 ≤ k.toInt ∧ k.toInt < 6) → ¬ (zI A 379 k.toInt.toNat).toInt < 0 → ¬ (zI A 379 k.toInt.toNat).toInt = 0 → 0 ≤ (zI A 357 (zI A 380 k.toInt.toNat).toInt.toNat).toInt ∧ (zI A 357 (zI A 380 k.toInt.toNat).toInt.toNat).toInt ≤ 2 := hp
  have e1 : (Int32.ofInt 1).toInt = 1 := by decide
  refine ⟨k, rfl, trivial, fun h => ?_, fun h => ?_⟩
  rotate_left
  · have hk := zb_y h
    refine ⟨Int32.ofInt (-1), rfl, trivial, ?_⟩
    show zmc _ (ztlT t k _ _) A (some (.int (-1))) (zuF A 343 0 (.int 0))
    rw [ztlT_n (fun z => hk z.1)]
    exact zmc_e (ztl_1 hk) ht
  have hk := Classical.not_not.mp (zb_n h)
  refine ⟨fun h => ?_, fun h => ?_⟩
  rotate_left
  · have h : ¬ 0 ≤ (zI A 379 k.toInt.toNat).toInt := h
    refine ⟨Int32.ofInt 1, rfl, trivial, ?_⟩
    show zmc _ (ztlT t k _ _) A (some (.int (Int32.ofInt (-10) - Int32.ofInt 1))) (zuF A 343 0 (.int 1))
    rw [z11, ztlT_n (fun z => z.2 (by omega))]
    exact zmc_e (ztl_3 hk (by omega)) ht
  have h : 0 ≤ (zI A 379 k.toInt.toNat).toInt := h
  refine ⟨fun h2 => ?_, fun h2 => ?_⟩
  rotate_left
  · have h2 : ¬ ¬ (zI A 379 k.toInt.toNat).toInt = 0 := h2
    have h2 := Classical.not_not.mp h2
    refine ⟨Int32.ofInt 1, rfl, trivial, zI A 348 (zI A 380 k.toInt.toNat).toInt.toNat, rfl, trivial, ?_⟩
    show zmc _ (ztlT t k _ _) A (some (.int (zI A 348 (zI A 380 k.toInt.toNat).toInt.toNat))) (zuF (zmm A (Int32.ofInt 1)) 343 0 (.int 0))
    rw [ztl_4 hk h2, zmm_e ht]
    refine ⟨rfl, ?_⟩
    unfold ztlT
    rw [if_pos ⟨hk, by omega⟩, if_pos h2]
  have h2 : ¬ (zI A 379 k.toInt.toNat).toInt = 0 := h2
  have hd := hp hk (by omega) h2
  have eT : ztlT t k (zI A 379 k.toInt.toNat) (zI A 357 (zI A 380 k.toInt.toNat).toInt.toNat) = ztdT t (zI A 357 (zI A 380 k.toInt.toNat).toInt.toNat) := by
    unfold ztlT
    rw [if_pos ⟨hk, by omega⟩, if_neg h2]
  have eV : ztlV k (zI A 379 k.toInt.toNat) (zI A 348 (zI A 380 k.toInt.toNat).toInt.toNat) (zI A 357 (zI A 380 k.toInt.toNat).toInt.toNat) (zI A 359 (zI A 380 k.toInt.toNat).toInt.toNat) (zI A 360 (zI A 380 k.toInt.toNat).toInt.toNat) = (ztdV (zI A 357 (zI A 380 k.toInt.toNat).toInt.toNat) (zI A 359 (zI A 380 k.toInt.toNat).toInt.toNat) (zI A 360 (zI A 380 k.toInt.toNat).toInt.toNat), 0) := ztl_5 hk (by omega) h2
  refine ⟨fun h3 => ⟨Int32.ofInt 2, rfl, trivial, fun h4 => ⟨fun h5 => ?_, fun h5 => ?_⟩, fun h4 => ?_⟩, fun h3 => ⟨zI A 357 (zI A 380 k.toInt.toNat).toInt.toNat + Int32.ofInt 2, rfl, trivial, Int32.ofInt 2, rfl, trivial, fun h4 => ⟨fun h5 => ?_, fun h5 => ?_⟩, fun h4 => ?_⟩⟩
  · have h3 : (zI A 357 (zI A 380 k.toInt.toNat).toInt.toNat).toInt ≤ 0 := h3
    have h4 : ¬ (zI A 357 (zI A 380 k.toInt.toNat).toInt.toNat).toInt = 0 := h4
    omega
  · have h3 : (zI A 357 (zI A 380 k.toInt.toNat).toInt.toNat).toInt ≤ 0 := h3
    have h4 : ¬ (zI A 357 (zI A 380 k.toInt.toNat).toInt.toNat).toInt = 0 := h4
    omega
  · have h4 : ¬ ¬ (zI A 357 (zI A 380 k.toInt.toNat).toInt.toNat).toInt = 0 := h4
    have h4 := Classical.not_not.mp h4
    refine ⟨zI A 359 (zI A 380 k.toInt.toNat).toInt.toNat, rfl, trivial, ?_⟩
    show zmc _ (ztlT t k _ _) A (some (.int (zI A 359 (zI A 380 k.toInt.toNat).toInt.toNat))) (zuF (zmm A (Int32.ofInt 2)) 343 0 (.int 0))
    rw [eT, eV, zmm_e ht]
    unfold ztdV ztdT
    rw [if_pos h4, if_pos h4]
    exact ⟨rfl, rfl⟩
  · have h4 : ¬ (zI A 357 (zI A 380 k.toInt.toNat).toInt.toNat).toInt = 0 := h4
    have h5 : ¬ (zI A 357 (zI A 380 k.toInt.toNat).toInt.toNat).toInt = (Int32.ofInt 1).toInt := h5
    rw [e1] at h5
    refine ⟨-(zI A 359 (zI A 380 k.toInt.toNat).toInt.toNat) - Int32.ofInt 1, rfl, trivial, ?_⟩
    show zmc _ (ztlT t k _ _) A (some (.int (-(zI A 359 (zI A 380 k.toInt.toNat).toInt.toNat) - Int32.ofInt 1))) (zuF (zmm (zmm A (zI A 357 (zI A 380 k.toInt.toNat).toInt.toNat + Int32.ofInt 2)) (Int32.ofInt 2)) 343 0 (.int 0))
    rw [eT, eV, zmm_e ht, zmm_2 (t := t), i_add2 hd.1 hd.2 (show (zI A 357 (zI A 380 k.toInt.toNat).toInt.toNat).toInt = 2 by omega)]
    unfold ztdV ztdT
    rw [if_neg h4, if_neg h4, if_neg h5, if_neg h5]
    exact ⟨rfl, rfl⟩
  · have h4 : ¬ (zI A 357 (zI A 380 k.toInt.toNat).toInt.toNat).toInt = 0 := h4
    have h5 : ¬ ¬ (zI A 357 (zI A 380 k.toInt.toNat).toInt.toNat).toInt = (Int32.ofInt 1).toInt := h5
    rw [e1] at h5
    have h5 := Classical.not_not.mp h5
    refine ⟨zI A 359 (zI A 380 k.toInt.toNat).toInt.toNat + zI A 360 (zI A 380 k.toInt.toNat).toInt.toNat, rfl, trivial, ?_⟩
    show zmc _ (ztlT t k _ _) A (some (.int (zI A 359 (zI A 380 k.toInt.toNat).toInt.toNat + zI A 360 (zI A 380 k.toInt.toNat).toInt.toNat))) (zuF (zmm (zmm A (zI A 357 (zI A 380 k.toInt.toNat).toInt.toNat + Int32.ofInt 2)) (Int32.ofInt 2)) 343 0 (.int 0))
    rw [eT, eV, zmm_e ht, zmm_2 (t := t), i_add2 hd.1 hd.2 h5]
    unfold ztdV ztdT
    rw [if_neg h4, if_neg h4, if_pos h5, if_pos h5]
    exact ⟨rfl, rfl⟩
  · have h3 : ¬ (zI A 357 (zI A 380 k.toInt.toNat).toInt.toNat).toInt ≤ 0 := h3
    have h4 : ¬ ¬ (zI A 357 (zI A 380 k.toInt.toNat).toInt.toNat).toInt = 0 := h4
    omega
def zq_showM : zQ := zs (fun a : zmtA => [.ref 343, .int a.1]) zmt_P (fun (k, t) A rv A' => zmc (zswV k (zI A 379 k.toInt.toNat) (zI A 380 k.toInt.toNat) (zI A 357 (zI A 380 k.toInt.toNat).toInt.toNat)) (zswT t k (zI A 379 k.toInt.toNat) (zI A 357 (zI A 380 k.toInt.toNat).toInt.toNat)) A rv A')
set_option maxRecDepth 20000 in
set_option maxHeartbeats 8000000 in
theorem za_X12_show : zdo r_X12_show zq_showM := by
  refine zdo_of _ _ _ [(1423, 1, q_noHold), (615, 2, zq_refused), (630, 2, zq_failed), (1440, 2, zq_traced)] (fun _ _ => []) 100 fo_X12 rfl (zs_cons rfl za_X12_noHold (zs_cons rfl za_X12_refused (zs_cons rfl za_X12_failed (zs_cons rfl za_X12_traced zs_nil)))) k_X12_show (fun _ _ _ => no_zh) (fun a A hp => ?_)
  obtain ⟨k, t⟩ := a
  obtain ⟨ht, hp⟩ := hp
  have ht : zF A 343 63 = .int t := ht
  have hp : (0 ≤ k.toInt ∧ k.toInt < 6) → ¬ (zI A 379 k.toInt.toNat).toInt < 0 → ¬ (zI A 379 k.toInt.toNat).toInt = 0 → 0 ≤ (zI A 357 (zI A 380 k.toInt.toNat).toInt.toNat).toInt ∧ (zI A 357 (zI A 380 k.toInt.toNat).toInt.toNat).toInt ≤ 2 := hp
  have e1 : (Int32.ofInt 1).toInt = 1 := by decide
  have e2 : (Int32.ofInt 2).toInt = 2 := by decide
  refine ⟨k, rfl, trivial, fun h => ?_, fun h => ?_⟩
  rotate_left
  · have hk := zb_y h
    refine ⟨Int32.ofInt (-1), rfl, trivial, ?_⟩
    show zmc _ (zswT t k _ _) A (some (.int (-1))) (zuF A 343 0 (.int 0))
    rw [zswT_n (fun z => hk z.1)]
    exact zmc_e (zsw_1 hk) ht
  have hk := Classical.not_not.mp (zb_n h)
  refine ⟨fun h => ⟨fun h0 => ?_, fun h0 => ?_⟩, fun h => ?_⟩
  rotate_left
  · have h : ¬ (zI A 379 k.toInt.toNat).toInt = 0 := h
    have h0 : ¬ 0 ≤ (zI A 379 k.toInt.toNat).toInt := h0
    refine ⟨Int32.ofInt 1, rfl, trivial, ?_⟩
    show zmc _ (zswT t k _ _) A (some (.int (Int32.ofInt (-10) - Int32.ofInt 1))) (zuF A 343 0 (.int 1))
    rw [z11, zswT_n (fun z => z.2.1 (by omega))]
    exact zmc_e (zsw_3 hk (by omega)) ht
  · have h : ¬ ¬ (zI A 379 k.toInt.toNat).toInt = 0 := h
    refine ⟨Int32.ofInt 2, rfl, trivial, ?_⟩
    show zmc _ (zswT t k _ _) A (some (.int (Int32.ofInt (-10) - Int32.ofInt 2))) (zuF A 343 0 (.int 2))
    rw [z12, zswT_n (fun z => h z.2.2)]
    exact zmc_e (zsw_4 hk (Classical.not_not.mp h)) ht
  have h2 : ¬ (zI A 379 k.toInt.toNat).toInt = 0 := h
  have h0 : 0 ≤ (zI A 379 k.toInt.toNat).toInt := h0
  have hd := hp hk (by omega) h2
  have eT : zswT t k (zI A 379 k.toInt.toNat) (zI A 357 (zI A 380 k.toInt.toNat).toInt.toNat) = zshT t (zI A 357 (zI A 380 k.toInt.toNat).toInt.toNat) := if_pos ⟨hk, by omega, h2⟩
  have eV : zswV k (zI A 379 k.toInt.toNat) (zI A 380 k.toInt.toNat) (zI A 357 (zI A 380 k.toInt.toNat).toInt.toNat) = (zshV (zI A 357 (zI A 380 k.toInt.toNat).toInt.toNat) (zI A 380 k.toInt.toNat), 0) := zsw_5 hk (by omega) h2
  have com : ∀ x y : Int32, x + y = y + x := fun x y => Int32.add_comm x y
  refine ⟨fun h3 => ⟨fun h4 => ⟨Int32.ofInt 5, rfl, trivial, fun h5 => ⟨fun h6 => ?_, fun h6 => ?_⟩, fun h5 => ?_⟩, fun h4 => ⟨Int32.ofInt 6, rfl, trivial, Int32.ofInt 5, rfl, trivial, fun h5 => ⟨fun h6 => ?_, fun h6 => ?_⟩, fun h5 => ?_⟩⟩, fun h3 => ⟨Int32.ofInt 7, rfl, trivial, fun h4 => ⟨Int32.ofInt 5, rfl, trivial, fun h5 => ⟨fun h6 => ?_, fun h6 => ?_⟩, fun h5 => ?_⟩, fun h4 => ⟨Int32.ofInt 6, rfl, trivial, Int32.ofInt 5, rfl, trivial, fun h5 => ⟨fun h6 => ?_, fun h6 => ?_⟩, fun h5 => ?_⟩⟩⟩
  · have h4 : (zI A 357 (zI A 380 k.toInt.toNat).toInt.toNat).toInt ≤ 0 := h4
    have h5 : ¬ (zI A 357 (zI A 380 k.toInt.toNat).toInt.toNat).toInt = 0 := h5
    omega
  · have h4 : (zI A 357 (zI A 380 k.toInt.toNat).toInt.toNat).toInt ≤ 0 := h4
    have h5 : ¬ (zI A 357 (zI A 380 k.toInt.toNat).toInt.toNat).toInt = 0 := h5
    omega
  · have h5 : ¬ ¬ (zI A 357 (zI A 380 k.toInt.toNat).toInt.toNat).toInt = 0 := h5
    have h5 := Classical.not_not.mp h5
    refine ⟨zI A 380 k.toInt.toNat, rfl, trivial, ?_⟩
    show zmc _ (zswT t k _ _) A (some (.int (zI A 380 k.toInt.toNat))) (zuF (zmm A (Int32.ofInt 5)) 343 0 (.int 0))
    rw [eT, eV, zmm_e ht]
    unfold zshV zshT
    rw [if_pos h5, if_pos h5]
    exact ⟨rfl, rfl⟩
  · have h3 : ¬ (zI A 357 (zI A 380 k.toInt.toNat).toInt.toNat).toInt = (Int32.ofInt 2).toInt := h3
    have h5 : ¬ (zI A 357 (zI A 380 k.toInt.toNat).toInt.toNat).toInt = 0 := h5
    have h6 : ¬ (zI A 357 (zI A 380 k.toInt.toNat).toInt.toNat).toInt = (Int32.ofInt 1).toInt := h6
    omega
  · have h5 : ¬ (zI A 357 (zI A 380 k.toInt.toNat).toInt.toNat).toInt = 0 := h5
    have h6 : ¬ ¬ (zI A 357 (zI A 380 k.toInt.toNat).toInt.toNat).toInt = (Int32.ofInt 1).toInt := h6
    rw [e1] at h6
    have h6 := Classical.not_not.mp h6
    refine ⟨zI A 380 k.toInt.toNat + Int32.ofInt 100, rfl, trivial, ?_⟩
    show zmc _ (zswT t k _ _) A (some (.int (zI A 380 k.toInt.toNat + Int32.ofInt 100))) (zuF (zmm (zmm A (Int32.ofInt 6)) (Int32.ofInt 5)) 343 0 (.int 0))
    rw [eT, eV, zmm_e ht, zmm_2 (t := t), com]
    unfold zshV zshT
    rw [if_neg h5, if_neg h5, if_pos h6, if_pos h6]
    exact ⟨rfl, rfl⟩
  · have h4 : ¬ (zI A 357 (zI A 380 k.toInt.toNat).toInt.toNat).toInt ≤ 0 := h4
    have h5 : ¬ ¬ (zI A 357 (zI A 380 k.toInt.toNat).toInt.toNat).toInt = 0 := h5
    omega
  · have h3 : ¬ ¬ (zI A 357 (zI A 380 k.toInt.toNat).toInt.toNat).toInt = (Int32.ofInt 2).toInt := h3
    have h4 : (zI A 357 (zI A 380 k.toInt.toNat).toInt.toNat).toInt ≤ 0 := h4
    omega
  · have h3 : ¬ ¬ (zI A 357 (zI A 380 k.toInt.toNat).toInt.toNat).toInt = (Int32.ofInt 2).toInt := h3
    have h4 : (zI A 357 (zI A 380 k.toInt.toNat).toInt.toNat).toInt ≤ 0 := h4
    omega
  · have h3 : ¬ ¬ (zI A 357 (zI A 380 k.toInt.toNat).toInt.toNat).toInt = (Int32.ofInt 2).toInt := h3
    have h4 : (zI A 357 (zI A 380 k.toInt.toNat).toInt.toNat).toInt ≤ 0 := h4
    omega
  · have h3 : ¬ ¬ (zI A 357 (zI A 380 k.toInt.toNat).toInt.toNat).toInt = (Int32.ofInt 2).toInt := h3
    rw [e2] at h3
    have h3 := Classical.not_not.mp h3
    refine ⟨zI A 380 k.toInt.toNat + Int32.ofInt 1100, rfl, trivial, ?_⟩
    show zmc _ (zswT t k _ _) A (some (.int (zI A 380 k.toInt.toNat + Int32.ofInt 1100))) (zuF (zmm (zmm (zmm A (Int32.ofInt 7)) (Int32.ofInt 6)) (Int32.ofInt 5)) 343 0 (.int 0))
    rw [eT, eV, zmm_e ht, zmm_2 (t := t), zmm_2 (t := t), com]
    unfold zshV zshT
    rw [if_neg (by omega), if_neg (by omega), if_neg (by omega), if_neg (by omega)]
    refine ⟨?_, rfl⟩
    show some (Value.int (Int32.ofInt 1100 + zI A 380 k.toInt.toNat)) = some (.int (Int32.ofInt 1000 + (Int32.ofInt 100 + zI A 380 k.toInt.toNat)))
    rw [← Int32.add_assoc, show Int32.ofInt 1000 + Int32.ofInt 100 = Int32.ofInt 1100 by decide]
  · have h3 : ¬ ¬ (zI A 357 (zI A 380 k.toInt.toNat).toInt.toNat).toInt = (Int32.ofInt 2).toInt := h3
    have h6 : ¬ ¬ (zI A 357 (zI A 380 k.toInt.toNat).toInt.toNat).toInt = (Int32.ofInt 1).toInt := h6
    omega
  · have h3 : ¬ ¬ (zI A 357 (zI A 380 k.toInt.toNat).toInt.toNat).toInt = (Int32.ofInt 2).toInt := h3
    have h5 : ¬ ¬ (zI A 357 (zI A 380 k.toInt.toNat).toInt.toNat).toInt = 0 := h5
    omega
end
