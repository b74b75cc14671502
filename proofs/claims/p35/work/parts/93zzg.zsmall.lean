/-! small questions, over places -/
def zb (b : Bool) : Int32 := bif b then 1 else 0
theorem zb_n {p : Prop} [Decidable p] (h : (zb (decide p)).toInt = 0) : ¬ p := fun hp => by
  rw [decide_eq_true hp] at h
  exact absurd h (by decide)
theorem zb_y {p : Prop} [Decidable p] (h : ¬ (zb (decide p)).toInt = 0) : p := by
  by_cases hp : p
  · exact hp
  · rw [decide_eq_false hp] at h
    exact absurd (by decide) h
theorem zbf {p : Prop} [Decidable p] (h : ¬ p) : some (Value.int 0) = some (Value.int (zb (decide p))) := by
  rw [decide_eq_false h]
  rfl
theorem zbt {p : Prop} [Decidable p] (h : p) : some (Value.int 1) = some (Value.int (zb (decide p))) := by
  rw [decide_eq_true h]
  rfl
/-- a question: an answer, nothing changed; a step: an answer, and what becomes of the world -/
def zpu {α : Type} (F : α → List Value) (Pre : α → zW → Prop) (val : α → zW → Value) : zQ := fun Us A K => ∃ a, Us = F a ∧ Pre a A ∧ K (some (val a A)) A
def zfu {α : Type} (F : α → List Value) (Pre : α → zW → Prop) (val : α → zW → Option Value) (upd : α → zW → zW) : zQ := fun Us A K => ∃ a, Us = F a ∧ Pre a A ∧ K (val a A) (upd a A)
theorem zdo_fu {α : Type} {TT : List ck_D} {SG : List Nat} {rt : Nat} {Wr : List (Nat × Nat)} {T : fT} {cc : ByteArray} {code : ck_cd} {F : α → List Value} {Pre : α → zW → Prop} {val : α → zW → Option Value} {upd : α → zW → zW} (Sp : zP) (hd : α → zW → zH) (f : Nat) (hT : f_ok T = true) (hN : T.2.2.2.2.2.2 = none) (hS : zsp T Sp) (hcode : ∀ x ∈ code, decode cc x.1 = .ok (x.2.1, x.2.2))
    (hh : ∀ (a : α) (A0 : zW), Pre a A0 → ∀ x ∈ hd a A0, ∀ (lg : fL_) (vs : List Value) (A : zW), x.2 lg vs A → ∃ (L : fL_) (f : Nat), f_sub L lg ∧ zwh T Sp (fun rv A' => rv = val a A0 ∧ A' = upd a A0) code (hd a A0) f x.1 L vs A)
    (h : ∀ (a : α) (A0 : zW), Pre a A0 → zwl T Sp (fun rv A' => rv = val a A0 ∧ A' = upd a A0) code (hd a A0) f code 0 (la 0 (F a)) [] A0) : zdo (fq TT SG rt Wr T cc) (zfu F Pre val upd) := by
  intro As ws sh rv ws' sh' hx
  refine ⟨zx_fq hx, fun A Us K hA hv hP => ?_⟩
  obtain ⟨a, rfl, hp, hK⟩ := hP
  obtain ⟨A', u, h1, h2, h3, h4⟩ := zfr_ok hT hN hS hcode (hh a A hp) hx.1 hv hA (h a A hp)
  subst h3
  subst h4
  exact ⟨_, _, h1, h2, hK⟩
theorem zdo_pu {α : Type} {TT : List ck_D} {SG : List Nat} {rt : Nat} {Wr : List (Nat × Nat)} {T : fT} {cc : ByteArray} {code : ck_cd} {F : α → List Value} {Pre : α → zW → Prop} {val : α → zW → Value} (Sp : zP) (hd : α → zW → zH) (f : Nat) (hT : f_ok T = true) (hN : T.2.2.2.2.2.2 = none) (hS : zsp T Sp) (hcode : ∀ x ∈ code, decode cc x.1 = .ok (x.2.1, x.2.2))
    (hh : ∀ (a : α) (A0 : zW), Pre a A0 → ∀ x ∈ hd a A0, ∀ (lg : fL_) (vs : List Value) (A : zW), x.2 lg vs A → ∃ (L : fL_) (f : Nat), f_sub L lg ∧ zwh T Sp (fun rv A' => rv = some (val a A0) ∧ A' = A0) code (hd a A0) f x.1 L vs A)
    (h : ∀ (a : α) (A0 : zW), Pre a A0 → zwl T Sp (fun rv A' => rv = some (val a A0) ∧ A' = A0) code (hd a A0) f code 0 (la 0 (F a)) [] A0) : zdo (fq TT SG rt Wr T cc) (zpu F Pre val) :=
  zdo_fu (val := fun a A => some (val a A)) (upd := fun _ A => A) Sp hd f hT hN hS hcode hh h
theorem ze0 : (Int64.ofNat 0).toInt = 0 := by decide
theorem ze1 : (Int64.ofNat 1).toInt = 1 := by decide
theorem ze_dec (c : Int32) : (c.toInt64 - Int64.ofNat 1).toInt = c.toInt - 1 := by
  have h1 := Int32.le_toInt c
  have h2 := Int32.toInt_lt c
  rw [Int64.toInt_sub, Int32.toInt_toInt64, ze1]
  exact Int.bmod_eq_of_le (by omega) (by omega)
def q_isSource : zQ := zpu (fun k : Int32 => [.int k]) (fun _ _ => True) (fun k _ => .int (zb (decide (0 ≤ k.toInt ∧ k.toInt < 6))))
set_option maxRecDepth 20000 in
theorem za_X11_isSource : zdo r_X11_isSource q_isSource := by
  refine zdo_pu [] (fun _ _ => []) 40 fo_X11 rfl zs_nil k_X11_isSource (fun _ _ _ => no_zh) (fun k A _ => ?_)
  have e : (Int32.ofInt 6).toInt = 6 := by decide
  refine ⟨fun h => ?_, fun h => ⟨fun h2 => ?_, fun h2 => ?_⟩⟩
  · have h : k.toInt < 0 := h
    exact ⟨zbf (by omega), rfl⟩
  · have h2 : (Int32.ofInt 6).toInt ≤ k.toInt := h2
    exact ⟨zbf (by omega), rfl⟩
  · have h : ¬ k.toInt < 0 := h
    have h2 : ¬ (Int32.ofInt 6).toInt ≤ k.toInt := h2
    exact ⟨zbt (by omega), rfl⟩
def q_isHold : zQ := zpu (fun k : Int32 => [.int k]) (fun _ _ => True) (fun k _ => .int (zb (decide (0 ≤ k.toInt ∧ k.toInt < 6))))
set_option maxRecDepth 20000 in
theorem za_X11_isHold : zdo r_X11_isHold q_isHold := by
  refine zdo_pu [] (fun _ _ => []) 40 fo_X11 rfl zs_nil k_X11_isHold (fun _ _ _ => no_zh) (fun k A _ => ?_)
  have e : (Int32.ofInt 6).toInt = 6 := by decide
  refine ⟨fun h => ?_, fun h => ⟨fun h2 => ?_, fun h2 => ?_⟩⟩
  · have h : k.toInt < 0 := h
    exact ⟨zbf (by omega), rfl⟩
  · have h2 : (Int32.ofInt 6).toInt ≤ k.toInt := h2
    exact ⟨zbf (by omega), rfl⟩
  · have h : ¬ k.toInt < 0 := h
    have h2 : ¬ (Int32.ofInt 6).toInt ≤ k.toInt := h2
    exact ⟨zbt (by omega), rfl⟩
def q_isTime : zQ := zpu (fun k : Int32 => [.int k]) (fun _ _ => True) (fun k _ => .int (zb (decide (0 ≤ k.toInt ∧ k.toInt < 100))))
set_option maxRecDepth 20000 in
theorem za_X11_isTime : zdo r_X11_isTime q_isTime := by
  refine zdo_pu [] (fun _ _ => []) 40 fo_X11 rfl zs_nil k_X11_isTime (fun _ _ _ => no_zh) (fun k A _ => ?_)
  have e : (Int32.ofInt 99).toInt = 99 := by decide
  refine ⟨fun h => ?_, fun h => ⟨fun h2 => ?_, fun h2 => ?_⟩⟩
  · have h : k.toInt < 0 := h
    exact ⟨zbf (by omega), rfl⟩
  · have h2 : (Int32.ofInt 99).toInt < k.toInt := h2
    exact ⟨zbf (by omega), rfl⟩
  · have h : ¬ k.toInt < 0 := h
    have h2 : ¬ (Int32.ofInt 99).toInt < k.toInt := h2
    exact ⟨zbt (by omega), rfl⟩
def q_isWorld : zQ := zpu (fun k : Int32 => [.int k]) (fun _ _ => True) (fun k _ => .int (zb (decide (0 ≤ k.toInt ∧ k.toInt < 256))))
set_option maxRecDepth 20000 in
theorem za_X11_isWorld : zdo r_X11_isWorld q_isWorld := by
  refine zdo_pu [] (fun _ _ => []) 40 fo_X11 rfl zs_nil k_X11_isWorld (fun _ _ _ => no_zh) (fun k A _ => ?_)
  have e : (Int32.ofInt 256).toInt = 256 := by decide
  refine ⟨fun h => ?_, fun h => ⟨fun h2 => ?_, fun h2 => ?_⟩⟩
  · have h : k.toInt < 0 := h
    exact ⟨zbf (by omega), rfl⟩
  · have h2 : (Int32.ofInt 256).toInt ≤ k.toInt := h2
    exact ⟨zbf (by omega), rfl⟩
  · have h : ¬ k.toInt < 0 := h
    have h2 : ¬ (Int32.ofInt 256).toInt ≤ k.toInt := h2
    exact ⟨zbt (by omega), rfl⟩
def q_isLaw : zQ := zpu (fun k : Int32 => [.int k]) (fun _ _ => True) (fun k _ => .int (zb (decide (0 ≤ k.toInt ∧ k.toInt < 3))))
set_option maxRecDepth 20000 in
theorem za_X11_isLaw : zdo r_X11_isLaw q_isLaw := by
  refine zdo_pu [] (fun _ _ => []) 40 fo_X11 rfl zs_nil k_X11_isLaw (fun _ _ _ => no_zh) (fun k A _ => ?_)
  have e : (Int32.ofInt 2).toInt = 2 := by decide
  refine ⟨fun h => ?_, fun h => ⟨fun h2 => ?_, fun h2 => ?_⟩⟩
  · have h : k.toInt < 0 := h
    exact ⟨zbf (by omega), rfl⟩
  · have h2 : (Int32.ofInt 2).toInt < k.toInt := h2
    exact ⟨zbf (by omega), rfl⟩
  · have h : ¬ k.toInt < 0 := h
    have h2 : ¬ (Int32.ofInt 2).toInt < k.toInt := h2
    exact ⟨zbt (by omega), rfl⟩
def zq_in : zQ := zpu (fun a : Int64 × Int64 × Int64 => [.long a.1, .long a.2.1, .long a.2.2]) (fun _ _ => True) (fun a _ => .int (zb (decide (a.2.1.toInt ≤ a.1.toInt ∧ a.1.toInt ≤ a.2.2.toInt))))
set_option maxRecDepth 20000 in
theorem za_X12_in : zdo r_X12_in zq_in := by
  refine zdo_pu [] (fun _ _ => []) 40 fo_X12 rfl zs_nil k_X12_in (fun _ _ _ => no_zh) (fun a A _ => ?_)
  obtain ⟨x, lo, hi⟩ := a
  refine ⟨fun h => ?_, fun h => ⟨fun h2 => ?_, fun h2 => ?_⟩⟩
  · have h : ck_cm .lt (lg_cmp x lo).toInt 0 := h
    have h : x.toInt < lo.toInt := ck_cm_lg.mp h
    exact ⟨zbf (p := lo.toInt ≤ x.toInt ∧ x.toInt ≤ hi.toInt) (by omega), rfl⟩
  · have h2 : ck_cm .gt (lg_cmp x hi).toInt 0 := h2
    have h2 : hi.toInt < x.toInt := ck_cm_lg.mp h2
    exact ⟨zbf (p := lo.toInt ≤ x.toInt ∧ x.toInt ≤ hi.toInt) (by omega), rfl⟩
  · have h : ¬ ck_cm .lt (lg_cmp x lo).toInt 0 := h
    have h : ¬ x.toInt < lo.toInt := fun z => h (ck_cm_lg.mpr z)
    have h2 : ¬ ck_cm .gt (lg_cmp x hi).toInt 0 := h2
    have h2 : ¬ hi.toInt < x.toInt := fun z => h2 (ck_cm_lg.mpr z)
    exact ⟨zbt (p := lo.toInt ≤ x.toInt ∧ x.toInt ≤ hi.toInt) (by omega), rfl⟩
theorem Sp_in_ok {T : fT} (hT : T.2.2.2.2.2.1 457 = (3, r_X12_in)) : zsp T [(457, 3, zq_in)] := zs_cons hT za_X12_in zs_nil
def q_noSource : zQ := zpu (fun k : Int32 => [.int k]) (fun _ _ => True) (fun k _ => .int (zb (decide ¬ (0 ≤ k.toInt ∧ k.toInt < 6))))
set_option maxRecDepth 20000 in
theorem za_X12_noSource : zdo r_X12_noSource q_noSource := by
  refine zdo_pu [(457, 3, zq_in)] (fun _ _ => []) 40 fo_X12 rfl (Sp_in_ok rfl) k_X12_noSource (fun _ _ _ => no_zh) (fun k A _ => ?_)
  have e : (Int64.ofInt 5).toInt = 5 := by decide
  have e2 := Int32.toInt_toInt64 k
  have e0 := ze0
  refine ⟨(k.toInt64, Int64.ofNat 0, Int64.ofInt 5), rfl, trivial, fun h => ?_, fun h => ?_⟩
  · have h : ¬ (zb (decide ((Int64.ofNat 0).toInt ≤ k.toInt64.toInt ∧ k.toInt64.toInt ≤ (Int64.ofInt 5).toInt))).toInt = 0 := h
    have h := zb_y h
    exact ⟨zbf (by omega), rfl⟩
  · have h : ¬ ¬ (zb (decide ((Int64.ofNat 0).toInt ≤ k.toInt64.toInt ∧ k.toInt64.toInt ≤ (Int64.ofInt 5).toInt))).toInt = 0 := h
    have h := zb_n (Classical.not_not.mp h)
    exact ⟨zbt (by omega), rfl⟩
def q_noHold : zQ := zpu (fun k : Int32 => [.int k]) (fun _ _ => True) (fun k _ => .int (zb (decide ¬ (0 ≤ k.toInt ∧ k.toInt < 6))))
set_option maxRecDepth 20000 in
theorem za_X12_noHold : zdo r_X12_noHold q_noHold := by
  refine zdo_pu [(457, 3, zq_in)] (fun _ _ => []) 40 fo_X12 rfl (Sp_in_ok rfl) k_X12_noHold (fun _ _ _ => no_zh) (fun k A _ => ?_)
  have e : (Int64.ofInt 5).toInt = 5 := by decide
  have e2 := Int32.toInt_toInt64 k
  have e0 := ze0
  refine ⟨(k.toInt64, Int64.ofNat 0, Int64.ofInt 5), rfl, trivial, fun h => ?_, fun h => ?_⟩
  · have h : ¬ (zb (decide ((Int64.ofNat 0).toInt ≤ k.toInt64.toInt ∧ k.toInt64.toInt ≤ (Int64.ofInt 5).toInt))).toInt = 0 := h
    have h := zb_y h
    exact ⟨zbf (by omega), rfl⟩
  · have h : ¬ ¬ (zb (decide ((Int64.ofNat 0).toInt ≤ k.toInt64.toInt ∧ k.toInt64.toInt ≤ (Int64.ofInt 5).toInt))).toInt = 0 := h
    have h := zb_n (Classical.not_not.mp h)
    exact ⟨zbt (by omega), rfl⟩
/-- noSentence: of a count -/
def q_noSentence : zQ := zpu (fun a : Int32 × Int32 => [.ref 343, .int a.1]) (fun a A => zF A 343 1 = .int a.2) (fun a _ => .int (zb (decide ¬ (0 ≤ a.1.toInt ∧ a.1.toInt < a.2.toInt))))
set_option maxRecDepth 20000 in
theorem za_X12_noSentence : zdo r_X12_noSentence q_noSentence := by
  refine zdo_pu [(457, 3, zq_in)] (fun _ _ => []) 40 fo_X12 rfl (Sp_in_ok rfl) k_X12_noSentence (fun _ _ _ => no_zh) (fun a A hp => ?_)
  obtain ⟨k, c⟩ := a
  have hp : zF A 343 1 = .int c := hp
  have e2 := Int32.toInt_toInt64 k
  have e0 := ze0
  have e1 : ((iv (zF A 343 1)).toInt64 - Int64.ofNat 1).toInt = c.toInt - 1 := by
    rw [hp]
    exact ze_dec c
  refine ⟨(k.toInt64, Int64.ofNat 0, (iv (zF A 343 1)).toInt64 - Int64.ofNat 1), rfl, trivial, fun h => ?_, fun h => ?_⟩
  · have h : ¬ (zb (decide ((Int64.ofNat 0).toInt ≤ k.toInt64.toInt ∧ k.toInt64.toInt ≤ ((iv (zF A 343 1)).toInt64 - Int64.ofNat 1).toInt))).toInt = 0 := h
    have h := zb_y h
    exact ⟨zbf (p := ¬ (0 ≤ k.toInt ∧ k.toInt < c.toInt)) (by omega), rfl⟩
  · have h : ¬ ¬ (zb (decide ((Int64.ofNat 0).toInt ≤ k.toInt64.toInt ∧ k.toInt64.toInt ≤ ((iv (zF A 343 1)).toInt64 - Int64.ofNat 1).toInt))).toInt = 0 := h
    have h := zb_n (Classical.not_not.mp h)
    exact ⟨zbt (p := ¬ (0 ≤ k.toInt ∧ k.toInt < c.toInt)) (by omega), rfl⟩
/-- noEntry: of a count -/
def q_noEntry : zQ := zpu (fun a : Int32 × Int32 => [.ref 343, .int a.1]) (fun a A => zF A 343 8 = .int a.2) (fun a _ => .int (zb (decide ¬ (0 ≤ a.1.toInt ∧ a.1.toInt < a.2.toInt))))
set_option maxRecDepth 20000 in
theorem za_X12_noEntry : zdo r_X12_noEntry q_noEntry := by
  refine zdo_pu [(457, 3, zq_in)] (fun _ _ => []) 40 fo_X12 rfl (Sp_in_ok rfl) k_X12_noEntry (fun _ _ _ => no_zh) (fun a A hp => ?_)
  obtain ⟨k, c⟩ := a
  have hp : zF A 343 8 = .int c := hp
  have e2 := Int32.toInt_toInt64 k
  have e0 := ze0
  have e1 : ((iv (zF A 343 8)).toInt64 - Int64.ofNat 1).toInt = c.toInt - 1 := by
    rw [hp]
    exact ze_dec c
  refine ⟨(k.toInt64, Int64.ofNat 0, (iv (zF A 343 8)).toInt64 - Int64.ofNat 1), rfl, trivial, fun h => ?_, fun h => ?_⟩
  · have h : ¬ (zb (decide ((Int64.ofNat 0).toInt ≤ k.toInt64.toInt ∧ k.toInt64.toInt ≤ ((iv (zF A 343 8)).toInt64 - Int64.ofNat 1).toInt))).toInt = 0 := h
    have h := zb_y h
    exact ⟨zbf (p := ¬ (0 ≤ k.toInt ∧ k.toInt < c.toInt)) (by omega), rfl⟩
  · have h : ¬ ¬ (zb (decide ((Int64.ofNat 0).toInt ≤ k.toInt64.toInt ∧ k.toInt64.toInt ≤ ((iv (zF A 343 8)).toInt64 - Int64.ofNat 1).toInt))).toInt = 0 := h
    have h := zb_n (Classical.not_not.mp h)
    exact ⟨zbt (p := ¬ (0 ≤ k.toInt ∧ k.toInt < c.toInt)) (by omega), rfl⟩
/-- noRule: of a count -/
def q_noRule : zQ := zpu (fun a : Int32 × Int32 => [.ref 343, .int a.1]) (fun a A => zF A 343 27 = .int a.2) (fun a _ => .int (zb (decide ¬ (0 ≤ a.1.toInt ∧ a.1.toInt < a.2.toInt))))
set_option maxRecDepth 20000 in
theorem za_X12_noRule : zdo r_X12_noRule q_noRule := by
  refine zdo_pu [(457, 3, zq_in)] (fun _ _ => []) 40 fo_X12 rfl (Sp_in_ok rfl) k_X12_noRule (fun _ _ _ => no_zh) (fun a A hp => ?_)
  obtain ⟨k, c⟩ := a
  have hp : zF A 343 27 = .int c := hp
  have e2 := Int32.toInt_toInt64 k
  have e0 := ze0
  have e1 : ((iv (zF A 343 27)).toInt64 - Int64.ofNat 1).toInt = c.toInt - 1 := by
    rw [hp]
    exact ze_dec c
  refine ⟨(k.toInt64, Int64.ofNat 0, (iv (zF A 343 27)).toInt64 - Int64.ofNat 1), rfl, trivial, fun h => ?_, fun h => ?_⟩
  · have h : ¬ (zb (decide ((Int64.ofNat 0).toInt ≤ k.toInt64.toInt ∧ k.toInt64.toInt ≤ ((iv (zF A 343 27)).toInt64 - Int64.ofNat 1).toInt))).toInt = 0 := h
    have h := zb_y h
    exact ⟨zbf (p := ¬ (0 ≤ k.toInt ∧ k.toInt < c.toInt)) (by omega), rfl⟩
  · have h : ¬ ¬ (zb (decide ((Int64.ofNat 0).toInt ≤ k.toInt64.toInt ∧ k.toInt64.toInt ≤ ((iv (zF A 343 27)).toInt64 - Int64.ofNat 1).toInt))).toInt = 0 := h
    have h := zb_n (Classical.not_not.mp h)
    exact ⟨zbt (p := ¬ (0 ≤ k.toInt ∧ k.toInt < c.toInt)) (by omega), rfl⟩
/-- noClaim: of a count -/
def q_noClaim : zQ := zpu (fun a : Int32 × Int32 => [.ref 343, .int a.1]) (fun a A => zF A 343 40 = .int a.2) (fun a _ => .int (zb (decide ¬ (0 ≤ a.1.toInt ∧ a.1.toInt < a.2.toInt))))
set_option maxRecDepth 20000 in
theorem za_X12_noClaim : zdo r_X12_noClaim q_noClaim := by
  refine zdo_pu [(457, 3, zq_in)] (fun _ _ => []) 40 fo_X12 rfl (Sp_in_ok rfl) k_X12_noClaim (fun _ _ _ => no_zh) (fun a A hp => ?_)
  obtain ⟨k, c⟩ := a
  have hp : zF A 343 40 = .int c := hp
  have e2 := Int32.toInt_toInt64 k
  have e0 := ze0
  have e1 : ((iv (zF A 343 40)).toInt64 - Int64.ofNat 1).toInt = c.toInt - 1 := by
    rw [hp]
    exact ze_dec c
  refine ⟨(k.toInt64, Int64.ofNat 0, (iv (zF A 343 40)).toInt64 - Int64.ofNat 1), rfl, trivial, fun h => ?_, fun h => ?_⟩
  · have h : ¬ (zb (decide ((Int64.ofNat 0).toInt ≤ k.toInt64.toInt ∧ k.toInt64.toInt ≤ ((iv (zF A 343 40)).toInt64 - Int64.ofNat 1).toInt))).toInt = 0 := h
    have h := zb_y h
    exact ⟨zbf (p := ¬ (0 ≤ k.toInt ∧ k.toInt < c.toInt)) (by omega), rfl⟩
  · have h : ¬ ¬ (zb (decide ((Int64.ofNat 0).toInt ≤ k.toInt64.toInt ∧ k.toInt64.toInt ≤ ((iv (zF A 343 40)).toInt64 - Int64.ofNat 1).toInt))).toInt = 0 := h
    have h := zb_n (Classical.not_not.mp h)
    exact ⟨zbt (p := ¬ (0 ≤ k.toInt ∧ k.toInt < c.toInt)) (by omega), rfl⟩
/-- the sentence at a number -/
def zat (c s : Int32) (v : Value) : Value := if 0 ≤ s.toInt ∧ s.toInt < c.toInt then v else .null
set_option maxRecDepth 20000 in
theorem zat_y {c s : Int32} {v : Value} (h : ¬ zat c s v = .null) : 0 ≤ s.toInt ∧ s.toInt < c.toInt := by
  by_cases z : 0 ≤ s.toInt ∧ s.toInt < c.toInt
  · exact z
  · exact absurd (if_neg z) h
set_option maxRecDepth 20000 in
theorem zat_n {c s : Int32} {v : Value} (hv : v ≠ .null) (h : zat c s v = .null) : ¬ (0 ≤ s.toInt ∧ s.toInt < c.toInt) := fun z => by
  unfold zat at h
  rw [if_pos z] at h
  exact hv h
set_option maxRecDepth 20000 in
theorem zc_1 {i : Nat} (h : i < 60) : zc 1 i = 2 + 2 * i := by
  show (bif true && Nat.blt i 70 then (bif Nat.blt i 60 then 2 + 2 * i else 0) else 0) = _
  rw [nltT h, nltT (show i < 70 by omega)]
  rfl
theorem zrl_1 {A : zW} {i : Nat} (h : i < 60) : zrl A 1 i = .ref (2 + 2 * i) := by
  unfold zrl
  rw [zc_1 h]
  exact zcr_s (by omega)
def zq_sentenceAt : zQ := zpu (fun a : Int32 × Int32 => [.ref 0, .int a.1]) (fun a A => zF A 0 1 = .int a.2 ∧ a.2.toInt ≤ 60) (fun a _ => zat a.2 a.1 (.ref (2 + 2 * a.1.toInt.toNat)))
set_option maxRecDepth 20000 in
theorem za_X11_sentenceAt : zdo r_X11_sentenceAt zq_sentenceAt := by
  refine zdo_pu [] (fun _ _ => []) 40 fo_X11 rfl zs_nil k_X11_sentenceAt (fun _ _ _ => no_zh) (fun a A hp => ?_)
  obtain ⟨s, c⟩ := a
  obtain ⟨hp, hc⟩ := hp
  have hp : zF A 0 1 = .int c := hp
  have hc : c.toInt ≤ 60 := hc
  have e : (Int32.ofNat 60).toInt = 60 := by decide
  have no : ¬ (0 ≤ s.toInt ∧ s.toInt < c.toInt) → some Value.null = some (zat c s (.ref (2 + 2 * s.toInt.toNat))) ∧ A = A := fun h => by
    unfold zat
    rw [if_neg h]
    exact ⟨rfl, rfl⟩
  refine ⟨fun h => ?_, fun h => ⟨fun h2 => ?_, fun h2 => ⟨fun h3 => ?_, fun h3 => ?_⟩⟩⟩
  · have h : s.toInt < 0 := h
    exact no (by omega)
  · have h2 : (iv (zF A 0 1)).toInt ≤ s.toInt := h2
    rw [hp] at h2
    have h2 : c.toInt ≤ s.toInt := h2
    exact no (by omega)
  · have h2 : ¬ (iv (zF A 0 1)).toInt ≤ s.toInt := h2
    rw [hp] at h2
    have h2 : ¬ c.toInt ≤ s.toInt := h2
    have h3 : (Int32.ofNat 60).toInt ≤ s.toInt := h3
    omega
  · have h : ¬ s.toInt < 0 := h
    have h2 : ¬ (iv (zF A 0 1)).toInt ≤ s.toInt := h2
    rw [hp] at h2
    have h2 : ¬ c.toInt ≤ s.toInt := h2
    refine ⟨?_, rfl⟩
    show some (zrl A 1 s.toInt.toNat) = some (zat c s (.ref (2 + 2 * s.toInt.toNat)))
    rw [zrl_1 (by omega)]
    unfold zat
    rw [if_pos ⟨by omega, by omega⟩]
