section
/-! specs: tools -/
theorem hset_at {h : fH} {a : Nat} {e : va_E} : hset h a e a = some e := if_pos rfl
theorem hset_ne {h : fH} {a b : Nat} {e : va_E} (hb : b ≠ a) : hset h a e b = h b := if_neg hb
theorem hset_self {h : fH} {a : Nat} {e : va_E} (he : h a = some e) : hset h a e = h := by
  funext b
  unfold hset
  split
  · rename_i eb
    rw [eb, he]
  · rfl
theorem hset_hset {h : fH} {a : Nat} {e e' : va_E} : hset (hset h a e) a e' = hset h a e' := by
  funext b
  unfold hset
  split <;> rfl
theorem do_ofP {α : Type} {TT : List ck_D} {SG : List Nat} {rt : Nat} {Wr : List (Nat × Nat)} {T : fT} {cc : ByteArray} {code : ck_cd} (F : α → List Value) (Pre : α → fH → Prop) (Q : α → fH → Option Value → fH → Prop) (Sp : fP fH) (hd : α → fH → fI fH) (f : Nat) (hT : f_ok T = true) (hS : f_sp T Sp wH) (hcode : ∀ x ∈ code, decode cc x.1 = .ok (x.2.1, x.2.2))
    (hh : ∀ (a : α) (h0 : fH), Pre a h0 → ∀ x ∈ hd a h0, ∀ (lg : fL_) (vs : List Value) (w : fH), x.2 lg vs w → ∃ (L : fL_) (f : Nat), f_sub L lg ∧ wh oH T Sp (Q a h0) code (hd a h0) f x.1 L vs w)
    (h : ∀ (a : α) (h0 : fH), Pre a h0 → wl oH T Sp (Q a h0) code (hd a h0) f code 0 (la 0 (F a)) [] h0) : f_do (fq TT SG rt Wr T cc) (fun As h rv h' => ∀ a : α, As = F a → Pre a h → Q a h rv h') := by
  intro As ws sh rv ws' sh' hx
  refine ⟨hx.2.2.1, fun a e hp => ?_⟩
  subst e
  obtain ⟨wF, h1, h2⟩ := fr_ok oH_ok hT hS hcode (hh a _ hp) hx.1 (la_ok 0 (F a)) ⟨rfl, hx.2.1⟩ (h a _ hp)
  rw [← h1.1]
  exact h2
theorem no_sp {W : Type} {Q : (Nat × Nat × (List Value → W → Option Value → W → Prop)) → Prop} : ∀ x ∈ ([] : fP W), Q x := fun _ h => absurd h List.not_mem_nil
theorem fo_X11 : f_ok5 fl_X11 pl_X11 nw_X11 kl_X11 il_X11 = true := by decide +kernel
theorem fo_X12 : f_ok5 fl_X12 pl_X12 nw_X12 kl_X12 il_X12 = true := by decide +kernel
theorem fo_J7 : f_ok5 fl_J7 pl_J7 nw_J7 kl_J7 il_J7 = true := by decide +kernel
theorem i_add {a b : Int32} (h1 : -2147483648 ≤ a.toInt + b.toInt) (h2 : a.toInt + b.toInt ≤ 2147483647) : (a + b).toInt = a.toInt + b.toInt := by
  rw [Int32.toInt_add]
  exact Int.bmod_eq_of_le (by omega) (by omega)
theorem i_mul {a b : Int32} (h1 : -2147483648 ≤ a.toInt * b.toInt) (h2 : a.toInt * b.toInt ≤ 2147483647) : (a * b).toInt = a.toInt * b.toInt := by
  rw [Int32.toInt_mul]
  exact Int.bmod_eq_of_le (by omega) (by omega)
theorem i_inc {i : Int32} (h0 : 0 ≤ i.toInt) (h : i.toInt < 2147483647) : (i + 1).toInt = i.toInt + 1 := by
  have e : (1 : Int32).toInt = 1 := by decide
  rw [i_add (by rw [e]; omega) (by rw [e]; omega), e]
theorem getD_set_ne {l : List Value} {i j : Nat} {v : Value} (h : i ≠ j) : (l.set i v).getD j .null = l.getD j .null := by
  rw [List.getD_eq_getElem?_getD, List.getD_eq_getElem?_getD, List.getElem?_set_ne h]
theorem upd_at {f : Nat → Int32} {i : Nat} {v : Int32} : upd f i v i = v := if_pos rfl
theorem upd_ne {f : Nat → Int32} {i j : Nat} {v : Int32} (h : j ≠ i) : upd f i v j = f j := if_neg h
theorem f10_1 : some (Value.int (Int32.ofInt (-10) - 1)) = some (Value.int (-11)) := congrArg (fun x => some (Value.int x)) (by decide)
theorem f10_2 : some (Value.int (Int32.ofInt (-10) - 2)) = some (Value.int (-12)) := congrArg (fun x => some (Value.int x)) (by decide)
theorem f10_3 : some (Value.int (Int32.ofInt (-10) - 3)) = some (Value.int (-13)) := congrArg (fun x => some (Value.int x)) (by decide)
theorem f10_4 : some (Value.int (Int32.ofInt (-10) - 4)) = some (Value.int (-14)) := congrArg (fun x => some (Value.int x)) (by decide)
end
section
/-! the class's sheets -/
theorem s_X11_isSheet : f_do r_X11_isSheet (fun As h rv h' => ∀ k : Int32, As = [.int k] → True → h' = h ∧ rv = some (.int (if 0 ≤ k.toInt ∧ k.toInt < 4 then 1 else 0))) := by
  refine do_ofP (fun k : Int32 => [.int k]) (fun _ _ => True) (fun k h rv h' => h' = h ∧ rv = some (.int (if 0 ≤ k.toInt ∧ k.toInt < 4 then 1 else 0))) [] (fun _ _ => []) 40 fo_X11 no_sp k_X11_isSheet (fun _ _ _ => no_hd) (fun k h0 _ => ?_)
  refine ⟨fun hc => ?_, fun hc => ⟨fun hd => ?_, fun hd => ?_⟩⟩
  · refine ⟨rfl, ?_⟩
    have hc : k.toInt < 0 := hc
    rw [if_neg (by omega)]
    rfl
  · refine ⟨rfl, ?_⟩
    have hd : (4 : Int32).toInt ≤ k.toInt := hd
    have e4 : (4 : Int32).toInt = 4 := by decide
    rw [if_neg (by omega)]
    rfl
  · refine ⟨rfl, ?_⟩
    have hc : ¬ k.toInt < 0 := hc
    have hd : ¬ (4 : Int32).toInt ≤ k.toInt := hd
    have e4 : (4 : Int32).toInt = 4 := by decide
    rw [if_pos (by omega)]
    rfl
theorem s_X11_isLane : f_do r_X11_isLane (fun As h rv h' => ∀ k : Int32, As = [.int k] → True → h' = h ∧ rv = some (.int (if 0 ≤ k.toInt ∧ k.toInt < 3 then 1 else 0))) := by
  refine do_ofP (fun k : Int32 => [.int k]) (fun _ _ => True) (fun k h rv h' => h' = h ∧ rv = some (.int (if 0 ≤ k.toInt ∧ k.toInt < 3 then 1 else 0))) [] (fun _ _ => []) 40 fo_X11 no_sp k_X11_isLane (fun _ _ _ => no_hd) (fun k h0 _ => ?_)
  refine ⟨fun hc => ?_, fun hc => ⟨fun hd => ?_, fun hd => ?_⟩⟩
  · refine ⟨rfl, ?_⟩
    have hc : k.toInt < 0 := hc
    rw [if_neg (by omega)]
    rfl
  · refine ⟨rfl, ?_⟩
    have hd : (3 : Int32).toInt ≤ k.toInt := hd
    have e4 : (3 : Int32).toInt = 3 := by decide
    rw [if_neg (by omega)]
    rfl
  · refine ⟨rfl, ?_⟩
    have hc : ¬ k.toInt < 0 := hc
    have hd : ¬ (3 : Int32).toInt ≤ k.toInt := hd
    have e4 : (3 : Int32).toInt = 3 := by decide
    rw [if_pos (by omega)]
    rfl
theorem s_X11_faulted : f_do r_X11_faulted (fun As h rv h' => ∀ a : Nat × Int32 × List Value, As = [.ref a.1, .int a.2.1] → h a.1 = some (.inr (11, a.2.2)) → h' = hset h a.1 (.inr (11, a.2.2.set 14 (.int a.2.1))) ∧ rv = some (.int (Int32.ofInt (-10) - a.2.1))) := by
  refine do_ofP (fun a : Nat × Int32 × List Value => [.ref a.1, .int a.2.1]) (fun a h => h a.1 = some (.inr (11, a.2.2))) (fun a h rv h' => h' = hset h a.1 (.inr (11, a.2.2.set 14 (.int a.2.1))) ∧ rv = some (.int (Int32.ofInt (-10) - a.2.1))) [] (fun _ _ => []) 40 fo_X11 no_sp k_X11_faulted (fun _ _ _ => no_hd) (fun a h0 hp => ?_)
  obtain ⟨p, k, fs⟩ := a
  have hp : h0 p = some (.inr (11, fs)) := hp
  refine ⟨?_, rfl⟩
  show hset h0 p (sG pl_X11 93 (.int k) (h0 p)) = _
  rw [hp]
  rfl
/-- Arrays.fill of ints -/
def in_fill (a : Nat) (v : Int32) (cA : ClassId) (n : Nat) (h0 : fH) : fL_ → List Value → fH → Prop := fun lg vs w =>
  ∃ (i : Int32) (f : Nat → Int32), f_sub [(2, false, .int i), (3, false, .int (Int32.ofNat n)), (0, false, .ref a), (1, false, .int v)] lg ∧ vs = [] ∧ w = hset h0 a (.inl (cA, n, .inl f)) ∧ 0 ≤ i.toInt ∧ i.toInt ≤ n ∧ ∀ j, j < i.toInt.toNat → f j = v
theorem s_J7_fillI : f_do r_J7_fill_53178 (fun As h rv h' => ∀ a : Nat × Int32 × ClassId × Nat × (Nat → Int32), As = [.ref a.1, .int a.2.1] → h a.1 = some (.inl (a.2.2.1, a.2.2.2.1, .inl a.2.2.2.2)) ∧ a.2.2.2.1 < 100000 → rv = none ∧ ∃ f : Nat → Int32, h' = hset h a.1 (.inl (a.2.2.1, a.2.2.2.1, .inl f)) ∧ ∀ j, j < a.2.2.2.1 → f j = a.2.1) := by
  refine do_ofP (fun a : Nat × Int32 × ClassId × Nat × (Nat → Int32) => [.ref a.1, .int a.2.1]) (fun a h => h a.1 = some (.inl (a.2.2.1, a.2.2.2.1, .inl a.2.2.2.2)) ∧ a.2.2.2.1 < 100000) (fun a h rv h' => rv = none ∧ ∃ f : Nat → Int32, h' = hset h a.1 (.inl (a.2.2.1, a.2.2.2.1, .inl f)) ∧ ∀ j, j < a.2.2.2.1 → f j = a.2.1) []
    (fun a h => [(5, in_fill a.1 a.2.1 a.2.2.1 a.2.2.2.1 h)]) 40 fo_J7 no_sp k_J7_fill_53178 (fun a h0 hp => ?_) (fun a h0 hp => ?_)
  · obtain ⟨p, v, cA, n, f0⟩ := a
    obtain ⟨hp, hn⟩ := hp
    refine List.forall_mem_cons.mpr ⟨?_, fun _ h => absurd h List.not_mem_nil⟩
    rintro lg vs w ⟨i, f, hs, rfl, rfl, i0, i1, hf⟩
    refine ⟨_, 40, hs, ?_⟩
    have hn : n < 100000 := hn
    have en : (Int32.ofNat n).toInt = n := Int32.toInt_ofNat_of_lt (by omega)
    refine ⟨fun hc => ?_, fun hc => ?_⟩
    · have hc : (Int32.ofNat n).toInt ≤ i.toInt := hc
      refine ⟨rfl, f, rfl, fun j hj => ?_⟩
      have hj : j < n := hj
      rw [en] at hc
      exact hf j (by omega)
    · have hc : ¬ (Int32.ofNat n).toInt ≤ i.toInt := hc
      refine ⟨i + 1, upd f i.toInt.toNat v, ⟨rfl, rfl, rfl, rfl, trivial⟩, rfl, ?_, ?_, ?_, fun j hj => ?_⟩
      · show hset (hset h0 p (.inl (cA, n, .inl f))) p (sI i.toNatClampNeg v (hset h0 p (.inl (cA, n, .inl f)) p)) = _
        rw [hset_at, hset_hset]
        rfl
      · have e1 : (i + 1).toInt = i.toInt + 1 := i_inc i0 (by omega)
        omega
      · have e1 : (i + 1).toInt = i.toInt + 1 := i_inc i0 (by omega)
        show (i + 1).toInt ≤ (n : Int)
        omega
      · have e1 : (i + 1).toInt = i.toInt + 1 := i_inc i0 (by omega)
        by_cases ej : j = i.toInt.toNat
        · rw [ej]
          exact upd_at
        · exact (upd_ne ej).trans (hf j (by omega))
  · obtain ⟨p, v, cA, n, f0⟩ := a
    obtain ⟨hp, hn⟩ := hp
    have hp : h0 p = some (.inl (cA, n, .inl f0)) := hp
    refine ⟨0, f0, ⟨rfl, ?_, rfl, rfl, trivial⟩, rfl, (hset_self hp).symm, by decide, ?_, fun j hj => ?_⟩
    · show some (false, Value.int (Int32.ofNat (eL (h0 p)))) = some (false, Value.int (Int32.ofNat n))
      rw [hp]
      rfl
    · have e0 : (0 : Int32).toInt = 0 := by decide
      rw [e0]
      omega
    · have e0 : (0 : Int32).toInt = 0 := by decide
      rw [e0] at hj
      exact absurd hj (Nat.not_lt_zero _)
end
section
/-! the class's sheets: lose, sheet -/
theorem s_X11_lose : f_do r_X11_lose (fun As h rv h' => ∀ a : Nat × Int32 × List Value × Nat × ClassId × (Nat → Int32), As = [.ref a.1, .int a.2.1] → (h a.1 = some (.inr (11, a.2.2.1)) ∧ a.2.2.1.getD 11 .null = .ref a.2.2.2.1 ∧ h a.2.2.2.1 = some (.inl (a.2.2.2.2.1, 4, .inl a.2.2.2.2.2))) →
    if 0 ≤ a.2.1.toInt ∧ a.2.1.toInt < 4 then rv = some (.int (if (a.2.2.2.2.2 a.2.1.toInt.toNat).toInt = -1 then 0 else 1)) ∧ h' = hset h a.2.2.2.1 (.inl (a.2.2.2.2.1, 4, .inl (upd a.2.2.2.2.2 a.2.1.toInt.toNat (-1)))) else rv = some (.int (-1)) ∧ h' = h) := by
  refine do_ofP (fun a : Nat × Int32 × List Value × Nat × ClassId × (Nat → Int32) => [.ref a.1, .int a.2.1]) (fun a h => h a.1 = some (.inr (11, a.2.2.1)) ∧ a.2.2.1.getD 11 .null = .ref a.2.2.2.1 ∧ h a.2.2.2.1 = some (.inl (a.2.2.2.2.1, 4, .inl a.2.2.2.2.2)))
    (fun a h rv h' => if 0 ≤ a.2.1.toInt ∧ a.2.1.toInt < 4 then rv = some (.int (if (a.2.2.2.2.2 a.2.1.toInt.toNat).toInt = -1 then 0 else 1)) ∧ h' = hset h a.2.2.2.1 (.inl (a.2.2.2.2.1, 4, .inl (upd a.2.2.2.2.2 a.2.1.toInt.toNat (-1)))) else rv = some (.int (-1)) ∧ h' = h)
    [(292, 1, _)] (fun _ _ => []) 60 fo_X11 (List.forall_mem_cons.mpr ⟨sp_one rfl s_X11_isSheet, no_sp⟩) k_X11_lose (fun _ _ _ => no_hd) (fun a h0 hp => ?_)
  obtain ⟨p, k, fs, aL, cL, l⟩ := a
  obtain ⟨hp, hL, hl⟩ := hp
  dsimp only at hp hL hl
  intro rv h1 hc
  obtain ⟨rfl, rfl⟩ := hc k rfl trivial
  have g : eG fl_X11 77 (h1 p) = .ref aL := by rw [hp]; exact hL
  refine ⟨fun hc => ?_, fun hc => ?_⟩
  · have hk : 0 ≤ k.toInt ∧ k.toInt < 4 := by
      by_cases hk : 0 ≤ k.toInt ∧ k.toInt < 4
      · exact hk
      · have hc : ¬ (if 0 ≤ k.toInt ∧ k.toInt < 4 then (1 : Int32) else 0).toInt = 0 := hc
        rw [if_neg hk] at hc
        exact absurd rfl hc
    have gi : eI (h1 (rv_ (eG fl_X11 77 (h1 p)))) k.toNatClampNeg = l k.toInt.toNat := by
      rw [g]
      show eI (h1 aL) _ = _
      rw [hl]
      rfl
    have gs : hset h1 (rv_ (eG fl_X11 77 (h1 p))) (sI k.toNatClampNeg (Int32.ofInt (-1)) (h1 (rv_ (eG fl_X11 77 (h1 p))))) = hset h1 aL (.inl (cL, 4, .inl (upd l k.toInt.toNat (-1)))) := by
      rw [g]
      show hset h1 aL (sI k.toNatClampNeg (Int32.ofInt (-1)) (h1 aL)) = _
      rw [hl]
      rfl
    refine ⟨fun hd => ?_, fun hd => ?_⟩
    · have hd : (eI (h1 (rv_ (eG fl_X11 77 (h1 p)))) k.toNatClampNeg).toInt = (Int32.ofInt (-1)).toInt := hd
      rw [gi] at hd
      refine ⟨fun _ => ?_, fun hz => absurd rfl hz⟩
      show if 0 ≤ k.toInt ∧ k.toInt < 4 then _ else _
      rw [if_pos hk]
      refine ⟨?_, gs⟩
      have hd : (l k.toInt.toNat).toInt = -1 := hd
      rw [if_pos hd]
      rfl
    · have hd : ¬ (eI (h1 (rv_ (eG fl_X11 77 (h1 p)))) k.toNatClampNeg).toInt = (Int32.ofInt (-1)).toInt := hd
      rw [gi] at hd
      refine ⟨fun hz => absurd (show (1 : Int32).toInt = 0 from hz) (by decide), fun _ => ?_⟩
      show if 0 ≤ k.toInt ∧ k.toInt < 4 then _ else _
      rw [if_pos hk]
      refine ⟨?_, gs⟩
      have hd : ¬ (l k.toInt.toNat).toInt = -1 := hd
      rw [if_neg hd]
      rfl
  · have hk : ¬ (0 ≤ k.toInt ∧ k.toInt < 4) := by
      intro hk
      have hc : ¬ ¬ (if 0 ≤ k.toInt ∧ k.toInt < 4 then (1 : Int32) else 0).toInt = 0 := hc
      rw [if_pos hk] at hc
      exact hc (by decide)
    show if 0 ≤ k.toInt ∧ k.toInt < 4 then _ else _
    rw [if_neg hk]
    exact ⟨rfl, rfl⟩
end
section
/-! the reference's sheets: lose -/
theorem s_X12_in : f_do r_X12_in (fun As h rv h' => ∀ a : Int64 × Int64 × Int64, As = [.long a.1, .long a.2.1, .long a.2.2] → True → h' = h ∧ rv = some (.int (if a.2.1.toInt ≤ a.1.toInt ∧ a.1.toInt ≤ a.2.2.toInt then 1 else 0))) := by
  refine do_ofP (fun a : Int64 × Int64 × Int64 => [.long a.1, .long a.2.1, .long a.2.2]) (fun _ _ => True) (fun a h rv h' => h' = h ∧ rv = some (.int (if a.2.1.toInt ≤ a.1.toInt ∧ a.1.toInt ≤ a.2.2.toInt then 1 else 0))) [] (fun _ _ => []) 40 fo_X12 no_sp k_X12_in (fun _ _ _ => no_hd) (fun a h0 _ => ?_)
  obtain ⟨x, lo, hi⟩ := a
  refine ⟨fun hc => ?_, fun hc => ⟨fun hd => ?_, fun hd => ?_⟩⟩
  · refine ⟨rfl, ?_⟩
    have hc : ck_cm .lt (lg_cmp x lo).toInt 0 := hc
    have hc : x.toInt < lo.toInt := ck_cm_lg.mp hc
    show some (Value.int 0) = some (.int (if lo.toInt ≤ x.toInt ∧ x.toInt ≤ hi.toInt then 1 else 0))
    rw [if_neg (by omega)]
  · refine ⟨rfl, ?_⟩
    have hd : ck_cm .gt (lg_cmp x hi).toInt 0 := hd
    have hd : hi.toInt < x.toInt := ck_cm_lg.mp hd
    show some (Value.int 0) = some (.int (if lo.toInt ≤ x.toInt ∧ x.toInt ≤ hi.toInt then 1 else 0))
    rw [if_neg (by omega)]
  · refine ⟨rfl, ?_⟩
    have hc : ¬ ck_cm .lt (lg_cmp x lo).toInt 0 := hc
    have hc : ¬ x.toInt < lo.toInt := fun z => hc (ck_cm_lg.mpr z)
    have hd : ¬ ck_cm .gt (lg_cmp x hi).toInt 0 := hd
    have hd : ¬ hi.toInt < x.toInt := fun z => hd (ck_cm_lg.mpr z)
    show some (Value.int 1) = some (.int (if lo.toInt ≤ x.toInt ∧ x.toInt ≤ hi.toInt then 1 else 0))
    rw [if_pos (by omega)]
theorem s_X12_noSheet : f_do r_X12_noSheet (fun As h rv h' => ∀ k : Int32, As = [.int k] → True → h' = h ∧ rv = some (.int (if 0 ≤ k.toInt ∧ k.toInt < 4 then 0 else 1))) := by
  refine do_ofP (fun k : Int32 => [.int k]) (fun _ _ => True) (fun k h rv h' => h' = h ∧ rv = some (.int (if 0 ≤ k.toInt ∧ k.toInt < 4 then 0 else 1))) [(457, 3, _)] (fun _ _ => []) 40 fo_X12 (List.forall_mem_cons.mpr ⟨sp_one rfl s_X12_in, no_sp⟩) k_X12_noSheet (fun _ _ _ => no_hd) (fun k h0 _ => ?_)
  intro rv h1 hc
  obtain ⟨rfl, rfl⟩ := hc (k.toInt64, 0, 3) rfl trivial
  have e1 : k.toInt64.toInt = k.toInt := Int32.toInt_toInt64 k
  have ez : (0 : Int64).toInt = 0 := by decide
  have e3 : (3 : Int64).toInt = 3 := by decide
  refine ⟨fun hc => ?_, fun hc => ?_⟩
  · refine ⟨rfl, ?_⟩
    have hc : ¬ (if (0 : Int64).toInt ≤ k.toInt64.toInt ∧ k.toInt64.toInt ≤ (3 : Int64).toInt then (1 : Int32) else 0).toInt = 0 := hc
    rw [e1, ez, e3] at hc
    by_cases hk : 0 ≤ k.toInt ∧ k.toInt < 4
    · rw [if_pos hk]
      rfl
    · rw [if_neg (by omega)] at hc
      exact absurd rfl hc
  · refine ⟨rfl, ?_⟩
    have hc : ¬ ¬ (if (0 : Int64).toInt ≤ k.toInt64.toInt ∧ k.toInt64.toInt ≤ (3 : Int64).toInt then (1 : Int32) else 0).toInt = 0 := hc
    rw [e1, ez, e3] at hc
    by_cases hk : 0 ≤ k.toInt ∧ k.toInt < 4
    · rw [if_pos (by omega)] at hc
      exact absurd (by decide) hc
    · rw [if_neg hk]
      rfl
theorem s_X12_lose : f_do r_X12_lose (fun As h rv h' => ∀ a : Nat × Int32 × List Value × Nat × ClassId × (Nat → Int32), As = [.ref a.1, .int a.2.1] → (h a.1 = some (.inr (12, a.2.2.1)) ∧ a.2.2.1.getD 64 .null = .ref a.2.2.2.1 ∧ h a.2.2.2.1 = some (.inl (a.2.2.2.2.1, 4, .inl a.2.2.2.2.2))) →
    if 0 ≤ a.2.1.toInt ∧ a.2.1.toInt < 4 then rv = some (.int (if (a.2.2.2.2.2 a.2.1.toInt.toNat).toInt < 0 then 0 else 1)) ∧ h' = hset h a.2.2.2.1 (.inl (a.2.2.2.2.1, 4, .inl (upd a.2.2.2.2.2 a.2.1.toInt.toNat (-1)))) else rv = some (.int (-1)) ∧ h' = h) := by
  refine do_ofP (fun a : Nat × Int32 × List Value × Nat × ClassId × (Nat → Int32) => [.ref a.1, .int a.2.1]) (fun a h => h a.1 = some (.inr (12, a.2.2.1)) ∧ a.2.2.1.getD 64 .null = .ref a.2.2.2.1 ∧ h a.2.2.2.1 = some (.inl (a.2.2.2.2.1, 4, .inl a.2.2.2.2.2)))
    (fun a h rv h' => if 0 ≤ a.2.1.toInt ∧ a.2.1.toInt < 4 then rv = some (.int (if (a.2.2.2.2.2 a.2.1.toInt.toNat).toInt < 0 then 0 else 1)) ∧ h' = hset h a.2.2.2.1 (.inl (a.2.2.2.2.1, 4, .inl (upd a.2.2.2.2.2 a.2.1.toInt.toNat (-1)))) else rv = some (.int (-1)) ∧ h' = h)
    [(604, 1, _)] (fun _ _ => []) 60 fo_X12 (List.forall_mem_cons.mpr ⟨sp_one rfl s_X12_noSheet, no_sp⟩) k_X12_lose (fun _ _ _ => no_hd) (fun a h0 hp => ?_)
  obtain ⟨p, k, fs, aL, cL, l⟩ := a
  obtain ⟨hp, hL, hl⟩ := hp
  dsimp only at hp hL hl
  intro rv h1 hc
  obtain ⟨rfl, rfl⟩ := hc k rfl trivial
  have g : eG fl_X12 124 (h1 p) = .ref aL := by rw [hp]; exact hL
  refine ⟨fun hc => ?_, fun hc => ?_⟩
  · have hk : 0 ≤ k.toInt ∧ k.toInt < 4 := by
      by_cases hk : 0 ≤ k.toInt ∧ k.toInt < 4
      · exact hk
      · have hc : (if 0 ≤ k.toInt ∧ k.toInt < 4 then (0 : Int32) else 1).toInt = 0 := hc
        rw [if_neg hk] at hc
        exact absurd hc (by decide)
    have gi : eI (h1 (rv_ (eG fl_X12 124 (h1 p)))) k.toNatClampNeg = l k.toInt.toNat := by
      rw [g]
      show eI (h1 aL) _ = _
      rw [hl]
      rfl
    have gs : hset h1 (rv_ (eG fl_X12 124 (h1 p))) (sI k.toNatClampNeg (Int32.ofInt (-1)) (h1 (rv_ (eG fl_X12 124 (h1 p))))) = hset h1 aL (.inl (cL, 4, .inl (upd l k.toInt.toNat (-1)))) := by
      rw [g]
      show hset h1 aL (sI k.toNatClampNeg (Int32.ofInt (-1)) (h1 aL)) = _
      rw [hl]
      rfl
    refine ⟨fun hd => ?_, fun hd => ?_⟩
    · have hd : 0 ≤ (eI (h1 (rv_ (eG fl_X12 124 (h1 p)))) k.toNatClampNeg).toInt := hd
      rw [gi] at hd
      show if 0 ≤ k.toInt ∧ k.toInt < 4 then _ else _
      rw [if_pos hk]
      refine ⟨?_, gs⟩
      dsimp only
      rw [if_neg (by omega)]
      rfl
    · have hd : ¬ 0 ≤ (eI (h1 (rv_ (eG fl_X12 124 (h1 p)))) k.toNatClampNeg).toInt := hd
      rw [gi] at hd
      show if 0 ≤ k.toInt ∧ k.toInt < 4 then _ else _
      rw [if_pos hk]
      refine ⟨?_, gs⟩
      dsimp only
      rw [if_pos (by omega)]
      rfl
  · have hk : ¬ (0 ≤ k.toInt ∧ k.toInt < 4) := by
      intro hk
      have hc : ¬ (if 0 ≤ k.toInt ∧ k.toInt < 4 then (0 : Int32) else 1).toInt = 0 := hc
      rw [if_pos hk] at hc
      exact hc (by decide)
    show if 0 ≤ k.toInt ∧ k.toInt < 4 then _ else _
    rw [if_neg hk]
    exact ⟨rfl, rfl⟩
end
section
/-! the class's sheets: sheet -/
abbrev dk_ : Type := Nat × List Value × Nat × ClassId × (Nat → Int32) × Nat × ClassId × (Nat → Int32) × Nat × ClassId × (Nat → Option Nat) × (Nat → Nat × ClassId × (Nat → Int32))
def dk_.p (d : dk_) : Nat := d.1
def dk_.fs (d : dk_) : List Value := d.2.1
def dk_.aL (d : dk_) : Nat := d.2.2.1
def dk_.cL (d : dk_) : ClassId := d.2.2.2.1
def dk_.l (d : dk_) : Nat → Int32 := d.2.2.2.2.1
def dk_.aS (d : dk_) : Nat := d.2.2.2.2.2.1
def dk_.cS (d : dk_) : ClassId := d.2.2.2.2.2.2.1
def dk_.z (d : dk_) : Nat → Int32 := d.2.2.2.2.2.2.2.1
def dk_.aC (d : dk_) : Nat := d.2.2.2.2.2.2.2.2.1
def dk_.cC (d : dk_) : ClassId := d.2.2.2.2.2.2.2.2.2.1
def dk_.g (d : dk_) : Nat → Option Nat := d.2.2.2.2.2.2.2.2.2.2.1
def dk_.R (d : dk_) : Nat → Nat × ClassId × (Nat → Int32) := d.2.2.2.2.2.2.2.2.2.2.2
def dk_at (d : dk_) (h : fH) : Prop := h d.p = some (.inr (11, d.fs)) ∧ (d.fs.getD 11 .null = .ref d.aL ∧ h d.aL = some (.inl (d.cL, 4, .inl d.l))) ∧ (d.fs.getD 12 .null = .ref d.aS ∧ h d.aS = some (.inl (d.cS, 4, .inl d.z))) ∧ (d.fs.getD 10 .null = .ref d.aC ∧ h d.aC = some (.inl (d.cC, 4, .inr (.inr (.inr (.inr d.g)))))) ∧ d.aL ≠ d.aS ∧ ∀ i, i < 4 → d.g i = some (d.R i).1 ∧ h (d.R i).1 = some (.inl ((d.R i).2.1, 60, .inl (d.R i).2.2)) ∧ (d.R i).1 ≠ d.aL ∧ (d.R i).1 ≠ d.aS
def dk_f (d : dk_) (v : Int32) : va_E := .inr (11, d.fs.set 14 (.int v))
def Q11_sheet (d : dk_) (k lane n : Int32) (h : fH) (rv : Option Value) (h' : fH) : Prop :=
  if 0 ≤ k.toInt ∧ k.toInt < 4 then
    if (0 ≤ lane.toInt ∧ lane.toInt < 3) ∧ n.toInt ≤ 60 then
      if 0 ≤ n.toInt then rv = some (.int 1) ∧ ∃ f : Nat → Int32, (∀ j, j < 60 → f j = 0) ∧ h' = hset (hset (hset (hset h d.p (dk_f d 0)) d.aL (.inl (d.cL, 4, .inl (upd d.l k.toInt.toNat lane)))) d.aS (.inl (d.cS, 4, .inl (upd d.z k.toInt.toNat n)))) (d.R k.toInt.toNat).1 (.inl ((d.R k.toInt.toNat).2.1, 60, .inl f))
      else rv = some (.int (-14)) ∧ h' = hset h d.p (dk_f d 4)
    else rv = some (.int (-2)) ∧ h' = hset h d.p (dk_f d 0)
  else rv = some (.int (-1)) ∧ h' = hset h d.p (dk_f d 0)
theorem ne_of_h {h : fH} {a b : Nat} {x : Nat × List Value} {y : ClassId × vp_A} (h1 : h a = some (.inr x)) (h2 : h b = some (.inl y)) : b ≠ a := fun e => by
  rw [e, h1] at h2
  cases h2
theorem ne_of_k {h : fH} {a b : Nat} {cA cB : ClassId} {n m : Nat} {f : Nat → Int32} {g : Nat → Option Nat} (h1 : h a = some (.inl (cA, n, .inl f))) (h2 : h b = some (.inl (cB, m, .inr (.inr (.inr (.inr g)))))) : b ≠ a := fun e => by
  rw [e, h1] at h2
  cases h2
set_option maxHeartbeats 4000000 in
theorem s_X11_sheet : f_do r_X11_sheet (fun As h rv h' => ∀ a : dk_ × Int32 × Int32 × Int32, As = [.ref a.1.p, .int a.2.1, .int a.2.2.1, .int a.2.2.2] → dk_at a.1 h → Q11_sheet a.1 a.2.1 a.2.2.1 a.2.2.2 h rv h') := by
  refine do_ofP (fun a : dk_ × Int32 × Int32 × Int32 => [.ref a.1.p, .int a.2.1, .int a.2.2.1, .int a.2.2.2]) (fun a h => dk_at a.1 h) (fun a h rv h' => Q11_sheet a.1 a.2.1 a.2.2.1 a.2.2.2 h rv h')
    [(244, 2, _), (292, 1, _), (304, 1, _), (312, 2, _)] (fun _ _ => []) 80 fo_X11 (List.forall_mem_cons.mpr ⟨sp_one rfl s_J7_fillI, List.forall_mem_cons.mpr ⟨sp_one rfl s_X11_isSheet, List.forall_mem_cons.mpr ⟨sp_one rfl s_X11_isLane, List.forall_mem_cons.mpr ⟨sp_one rfl s_X11_faulted, no_sp⟩⟩⟩⟩) k_X11_sheet (fun _ _ _ => no_hd) (fun a h0 hp => ?_)
  obtain ⟨d, k, lane, n⟩ := a
  obtain ⟨hp, ⟨hL, hl⟩, ⟨hS, hz⟩, ⟨hC, hg⟩, nLS, hR⟩ := (show dk_at d h0 from hp)
  have pL := ne_of_h hp hl
  have pS := ne_of_h hp hz
  have pC := ne_of_h hp hg
  have cL := ne_of_k hl hg
  have cS := ne_of_k hz hg
  intro rv h1 hc
  obtain ⟨e1, rfl⟩ := hc k rfl trivial
  have e1 : h1 = hset h0 d.p (sG pl_X11 93 (.int 0) (h0 d.p)) := e1
  have e1 : h1 = hset h0 d.p (dk_f d 0) := by
    rw [e1, hp]
    rfl
  have w1 : h1 d.p = some (dk_f d 0) := by rw [e1, hset_at]
  have w2 : h1 d.aL = some (.inl (d.cL, 4, .inl d.l)) := by rw [e1, hset_ne pL, hl]
  have w3 : h1 d.aS = some (.inl (d.cS, 4, .inl d.z)) := by rw [e1, hset_ne pS, hz]
  have w4 : h1 d.aC = some (.inl (d.cC, 4, .inr (.inr (.inr (.inr d.g))))) := by rw [e1, hset_ne pC, hg]
  refine ⟨fun hc => ?_, fun hc => ?_⟩
  rotate_left
  · have hk : ¬ (0 ≤ k.toInt ∧ k.toInt < 4) := by
      intro hk
      have hc : ¬ ¬ (if 0 ≤ k.toInt ∧ k.toInt < 4 then (1 : Int32) else 0).toInt = 0 := hc
      rw [if_pos hk] at hc
      exact hc (by decide)
    show Q11_sheet d k lane n h0 _ h1
    unfold Q11_sheet
    rw [if_neg hk]
    exact ⟨rfl, e1⟩
  have hk : 0 ≤ k.toInt ∧ k.toInt < 4 := by
    by_cases hk : 0 ≤ k.toInt ∧ k.toInt < 4
    · exact hk
    · have hc : ¬ (if 0 ≤ k.toInt ∧ k.toInt < 4 then (1 : Int32) else 0).toInt = 0 := hc
      rw [if_neg hk] at hc
      exact absurd rfl hc
  intro rv h2 hc
  obtain ⟨e2, rfl⟩ := hc lane rfl trivial
  have e2 : h2 = h1 := e2
  subst e2
  have out : ¬ ((0 ≤ lane.toInt ∧ lane.toInt < 3) ∧ n.toInt ≤ 60) → Q11_sheet d k lane n h0 (some (.int (-2))) h2 := by
    intro ho
    unfold Q11_sheet
    rw [if_pos hk, if_neg ho]
    exact ⟨rfl, e1⟩
  refine ⟨fun hc => ?_, fun hc => ?_⟩
  · have hl : ¬ (0 ≤ lane.toInt ∧ lane.toInt < 3) := by
      intro hl
      have hc : (if 0 ≤ lane.toInt ∧ lane.toInt < 3 then (1 : Int32) else 0).toInt = 0 := hc
      rw [if_pos hl] at hc
      exact absurd hc (by decide)
    exact out (fun z => hl z.1)
  have hla : 0 ≤ lane.toInt ∧ lane.toInt < 3 := by
    by_cases hl : 0 ≤ lane.toInt ∧ lane.toInt < 3
    · exact hl
    · have hc : ¬ (if 0 ≤ lane.toInt ∧ lane.toInt < 3 then (1 : Int32) else 0).toInt = 0 := hc
      rw [if_neg hl] at hc
      exact absurd rfl hc
  refine ⟨fun hn => ?_, fun hn => ?_⟩
  rotate_left
  · have hn : ¬ n.toInt ≤ (60 : Int32).toInt := hn
    have e6 : (60 : Int32).toInt = 60 := by decide
    exact out (fun z => by omega)
  have hn : n.toInt ≤ (60 : Int32).toInt := hn
  have e6 : (60 : Int32).toInt = 60 := by decide
  have hn : n.toInt ≤ 60 := by omega
  refine ⟨fun hm => ?_, fun hm => ?_⟩
  rotate_left
  · have hm : ¬ 0 ≤ n.toInt := hm
    intro rv h3 hc
    obtain ⟨e3, rfl⟩ := hc (d.p, 4, d.fs.set 14 (.int 0)) rfl w1
    have e3 : h3 = hset h2 d.p (.inr (11, (d.fs.set 14 (.int 0)).set 14 (.int 4))) := e3
    show Q11_sheet d k lane n h0 _ h3
    unfold Q11_sheet
    rw [if_pos hk, if_pos ⟨hla, hn⟩, if_neg hm]
    refine ⟨f10_4, ?_⟩
    rw [e3, e1, hset_hset, List.set_set]
    rfl
  have hm : 0 ≤ n.toInt := hm
  have key : ∀ (W1 W2 : fH), W1 = hset h2 (rv_ (eG fl_X11 77 (h2 d.p))) (sI k.toNatClampNeg lane (h2 (rv_ (eG fl_X11 77 (h2 d.p))))) → W2 = hset W1 (rv_ (eG fl_X11 87 (W1 d.p))) (sI k.toNatClampNeg n (W1 (rv_ (eG fl_X11 87 (W1 d.p))))) →
      ∀ (rv : Option Value) (h3 : fH), (∀ a : Nat × Int32 × ClassId × Nat × (Nat → Int32), [eR (W2 (rv_ (eG fl_X11 74 (W2 d.p)))) k.toNatClampNeg, Value.int 0] = [.ref a.1, .int a.2.1] → W2 a.1 = some (.inl (a.2.2.1, a.2.2.2.1, .inl a.2.2.2.2)) ∧ a.2.2.2.1 < 100000 → rv = none ∧ ∃ f : Nat → Int32, h3 = hset W2 a.1 (.inl (a.2.2.1, a.2.2.2.1, .inl f)) ∧ ∀ j, j < a.2.2.2.1 → f j = a.2.1) → rv = none ∧ Q11_sheet d k lane n h0 (some (.int 1)) h3 := by
    intro W1 W2 E1 E2 rv h3 hc
    have g1 : eG fl_X11 77 (h2 d.p) = .ref d.aL := by
      rw [w1, ← hL]
      exact getD_set_ne (by decide)
    have E1 : W1 = hset h2 d.aL (.inl (d.cL, 4, .inl (upd d.l k.toInt.toNat lane))) := by
      rw [E1, g1]
      show hset h2 d.aL (sI k.toNatClampNeg lane (h2 d.aL)) = _
      rw [w2]
      rfl
    have x1 : W1 d.p = some (dk_f d 0) := by rw [E1, hset_ne (Ne.symm pL), w1]
    have x3 : W1 d.aS = some (.inl (d.cS, 4, .inl d.z)) := by rw [E1, hset_ne (Ne.symm nLS), w3]
    have x4 : W1 d.aC = some (.inl (d.cC, 4, .inr (.inr (.inr (.inr d.g))))) := by rw [E1, hset_ne cL, w4]
    have g2 : eG fl_X11 87 (W1 d.p) = .ref d.aS := by
      rw [x1, ← hS]
      exact getD_set_ne (by decide)
    have E2 : W2 = hset W1 d.aS (.inl (d.cS, 4, .inl (upd d.z k.toInt.toNat n))) := by
      rw [E2, g2]
      show hset W1 d.aS (sI k.toNatClampNeg n (W1 d.aS)) = _
      rw [x3]
      rfl
    have y1 : W2 d.p = some (dk_f d 0) := by rw [E2, hset_ne (Ne.symm pS), x1]
    have y4 : W2 d.aC = some (.inl (d.cC, 4, .inr (.inr (.inr (.inr d.g))))) := by rw [E2, hset_ne cS, x4]
    have g3 : eG fl_X11 74 (W2 d.p) = .ref d.aC := by
      rw [y1, ← hC]
      exact getD_set_ne (by decide)
    obtain ⟨r1, r2, r3, r4⟩ := hR k.toInt.toNat (by omega)
    have rp := ne_of_h hp r2
    have y5 : W2 (d.R k.toInt.toNat).1 = some (.inl ((d.R k.toInt.toNat).2.1, 60, .inl (d.R k.toInt.toNat).2.2)) := by
      rw [E2, hset_ne r4, E1, hset_ne r3, e1, hset_ne rp, r2]
    have g4 : eR (W2 (rv_ (eG fl_X11 74 (W2 d.p)))) k.toNatClampNeg = .ref (d.R k.toInt.toNat).1 := by
      rw [g3]
      show eR (W2 d.aC) k.toInt.toNat = _
      rw [y4]
      show va_rf (d.g k.toInt.toNat) = _
      rw [r1]
      rfl
    obtain ⟨q1, f, q2, q3⟩ := hc ((d.R k.toInt.toNat).1, 0, (d.R k.toInt.toNat).2.1, 60, (d.R k.toInt.toNat).2.2) (by rw [g4]) ⟨y5, (show 60 < 100000 by decide)⟩
    refine ⟨q1, ?_⟩
    unfold Q11_sheet
    rw [if_pos hk, if_pos ⟨hla, hn⟩, if_pos hm]
    refine ⟨rfl, f, q3, ?_⟩
    rw [q2, E2, E1, e1]
  intro rv h3 hc
  obtain ⟨rfl, hq⟩ := key _ _ rfl rfl rv h3 hc
  exact hq
end
section
/-! the reference's sheets: sheet -/
theorem s_X12_refused : f_do r_X12_refused (fun As h rv h' => ∀ a : Nat × Int32 × List Value, As = [.ref a.1, .int a.2.1] → h a.1 = some (.inr (12, a.2.2)) → h' = hset h a.1 (.inr (12, a.2.2.set 0 (.int 0))) ∧ rv = some (.int a.2.1)) := by
  refine do_ofP (fun a : Nat × Int32 × List Value => [.ref a.1, .int a.2.1]) (fun a h => h a.1 = some (.inr (12, a.2.2))) (fun a h rv h' => h' = hset h a.1 (.inr (12, a.2.2.set 0 (.int 0))) ∧ rv = some (.int a.2.1)) [] (fun _ _ => []) 40 fo_X12 no_sp k_X12_refused (fun _ _ _ => no_hd) (fun a h0 hp => ?_)
  obtain ⟨p, k, fs⟩ := a
  have hp : h0 p = some (.inr (12, fs)) := hp
  refine ⟨?_, rfl⟩
  show hset h0 p (sG pl_X12 142 (.int 0) (h0 p)) = _
  rw [hp]
  rfl
theorem s_X12_failed : f_do r_X12_failed (fun As h rv h' => ∀ a : Nat × Int32 × List Value, As = [.ref a.1, .int a.2.1] → h a.1 = some (.inr (12, a.2.2)) → h' = hset h a.1 (.inr (12, a.2.2.set 0 (.int a.2.1))) ∧ rv = some (.int (Int32.ofInt (-10) - a.2.1))) := by
  refine do_ofP (fun a : Nat × Int32 × List Value => [.ref a.1, .int a.2.1]) (fun a h => h a.1 = some (.inr (12, a.2.2))) (fun a h rv h' => h' = hset h a.1 (.inr (12, a.2.2.set 0 (.int a.2.1))) ∧ rv = some (.int (Int32.ofInt (-10) - a.2.1))) [] (fun _ _ => []) 40 fo_X12 no_sp k_X12_failed (fun _ _ _ => no_hd) (fun a h0 hp => ?_)
  obtain ⟨p, k, fs⟩ := a
  have hp : h0 p = some (.inr (12, fs)) := hp
  refine ⟨?_, rfl⟩
  show hset h0 p (sG pl_X12 142 (.int k) (h0 p)) = _
  rw [hp]
  rfl
abbrev md_ : Type := Nat × List Value × Nat × ClassId × (Nat → Int32) × Nat × ClassId × (Nat → Int32) × Nat × ClassId × (Nat → Int32)
def md_.p (d : md_) : Nat := d.1
def md_.fs (d : md_) : List Value := d.2.1
def md_.aZ (d : md_) : Nat := d.2.2.1
def md_.cZ (d : md_) : ClassId := d.2.2.2.1
def md_.z (d : md_) : Nat → Int32 := d.2.2.2.2.1
def md_.aL (d : md_) : Nat := d.2.2.2.2.2.1
def md_.cL (d : md_) : ClassId := d.2.2.2.2.2.2.1
def md_.l (d : md_) : Nat → Int32 := d.2.2.2.2.2.2.2.1
def md_.aC (d : md_) : Nat := d.2.2.2.2.2.2.2.2.1
def md_.cC (d : md_) : ClassId := d.2.2.2.2.2.2.2.2.2.1
def md_.f (d : md_) : Nat → Int32 := d.2.2.2.2.2.2.2.2.2.2
def md_at (d : md_) (h : fH) : Prop := h d.p = some (.inr (12, d.fs)) ∧ (d.fs.getD 64 .null = .ref d.aZ ∧ h d.aZ = some (.inl (d.cZ, 4, .inl d.z))) ∧ (d.fs.getD 65 .null = .ref d.aL ∧ h d.aL = some (.inl (d.cL, 4, .inl d.l))) ∧ (d.fs.getD 66 .null = .ref d.aC ∧ h d.aC = some (.inl (d.cC, 240, .inl d.f))) ∧ d.aZ ≠ d.aL ∧ d.aZ ≠ d.aC ∧ d.aL ≠ d.aC
def md_f (d : md_) (v : Int32) : va_E := .inr (12, d.fs.set 0 (.int v))
def md_w (d : md_) (k lane n : Int32) (f : Nat → Int32) (h : fH) : fH := hset (hset (hset h d.aZ (.inl (d.cZ, 4, .inl (upd d.z k.toInt.toNat n)))) d.aL (.inl (d.cL, 4, .inl (upd d.l k.toInt.toNat lane)))) d.aC (.inl (d.cC, 240, .inl f))
def md_z (d : md_) (k : Int32) (i : Nat) (f : Nat → Int32) : Prop := ∀ j, f j = if 60 * k.toInt.toNat ≤ j ∧ j < 60 * k.toInt.toNat + i then 0 else d.f j
def Q12_sheet (d : md_) (k lane n : Int32) (h : fH) (rv : Option Value) (h' : fH) : Prop :=
  if 0 ≤ k.toInt ∧ k.toInt < 4 then
    if (0 ≤ lane.toInt ∧ lane.toInt < 3) ∧ n.toInt ≤ 60 then
      if 0 ≤ n.toInt then rv = some (.int 1) ∧ ∃ f : Nat → Int32, md_z d k n.toInt.toNat f ∧ h' = hset (md_w d k lane n f h) d.p (md_f d 0)
      else rv = some (.int (-14)) ∧ h' = hset h d.p (md_f d 4)
    else rv = some (.int (-2)) ∧ h' = hset h d.p (md_f d 0)
  else rv = some (.int (-1)) ∧ h' = hset h d.p (md_f d 0)
def in_sh (d : md_) (k lane n : Int32) (h0 : fH) : fL_ → List Value → fH → Prop := fun lg vs w => ∃ (i : Int32) (f : Nat → Int32), f_sub [(4, false, .int i), (0, false, .ref d.p), (1, false, .int k), (2, false, .int lane), (3, false, .int n)] lg ∧ vs = [] ∧ w = md_w d k lane n f h0 ∧ (0 ≤ k.toInt ∧ k.toInt < 4) ∧ ((0 ≤ lane.toInt ∧ lane.toInt < 3) ∧ n.toInt ≤ 60) ∧ 0 ≤ i.toInt ∧ i.toInt ≤ n.toInt ∧ md_z d k i.toInt.toNat f
set_option maxHeartbeats 4000000 in
theorem s_X12_sheet : f_do r_X12_sheet (fun As h rv h' => ∀ a : md_ × Int32 × Int32 × Int32, As = [.ref a.1.p, .int a.2.1, .int a.2.2.1, .int a.2.2.2] → md_at a.1 h → Q12_sheet a.1 a.2.1 a.2.2.1 a.2.2.2 h rv h') := by
  refine do_ofP (fun a : md_ × Int32 × Int32 × Int32 => [.ref a.1.p, .int a.2.1, .int a.2.2.1, .int a.2.2.2]) (fun a h => md_at a.1 h) (fun a h rv h' => Q12_sheet a.1 a.2.1 a.2.2.1 a.2.2.2 h rv h')
    [(457, 3, _), (604, 1, _), (615, 2, _), (630, 2, _)] (fun a h => [(65, in_sh a.1 a.2.1 a.2.2.1 a.2.2.2 h)]) 80 fo_X12 (List.forall_mem_cons.mpr ⟨sp_one rfl s_X12_in, List.forall_mem_cons.mpr ⟨sp_one rfl s_X12_noSheet, List.forall_mem_cons.mpr ⟨sp_one rfl s_X12_refused, List.forall_mem_cons.mpr ⟨sp_one rfl s_X12_failed, no_sp⟩⟩⟩⟩) k_X12_sheet (fun a h0 hp => ?_) (fun a h0 hp => ?_)
  · obtain ⟨d, k, lane, n⟩ := a
    obtain ⟨hp, ⟨hZ, hz⟩, ⟨hL, hl⟩, ⟨hC, hf⟩, nZL, nZC, nLC⟩ := (show md_at d h0 from hp)
    have pZ := ne_of_h hp hz
    have pL := ne_of_h hp hl
    have pC := ne_of_h hp hf
    refine List.forall_mem_cons.mpr ⟨?_, fun _ h => absurd h List.not_mem_nil⟩
    rintro lg vs w ⟨i, f, hs, rfl, ew, hk, hla, i0, i1, hfz⟩
    have ew : w = md_w d k lane n f h0 := ew
    have hk : 0 ≤ k.toInt ∧ k.toInt < 4 := hk
    have hla : (0 ≤ lane.toInt ∧ lane.toInt < 3) ∧ n.toInt ≤ 60 := hla
    have i1 : i.toInt ≤ n.toInt := i1
    have hfz : md_z d k i.toInt.toNat f := hfz
    have wp : w d.p = some (.inr (12, d.fs)) := by
      rw [ew]
      unfold md_w
      rw [hset_ne (Ne.symm pC), hset_ne (Ne.symm pL), hset_ne (Ne.symm pZ), hp]
    have wC : w d.aC = some (.inl (d.cC, 240, .inl f)) := by
      rw [ew]
      exact hset_at
    refine ⟨_, 60, hs, fun hc => ?_, fun hc => ?_⟩
    · have hc : n.toInt ≤ i.toInt := hc
      intro rv h3 hc3
      obtain ⟨e3, rfl⟩ := hc3 (d.p, 1, d.fs) rfl wp
      have e3 : h3 = hset w d.p (md_f d 0) := e3
      show Q12_sheet d k lane n h0 _ h3
      unfold Q12_sheet
      have ei : i.toInt = n.toInt := by omega
      rw [if_pos hk, if_pos hla, if_pos (by omega)]
      refine ⟨rfl, f, by rw [← ei]; exact hfz, ?_⟩
      rw [e3, ew]
    · have hc : ¬ n.toInt ≤ i.toInt := hc
      have e60 : (60 : Int32).toInt = 60 := by decide
      have m1 : (60 * k).toInt = 60 * k.toInt := by
        rw [i_mul (by rw [e60]; omega) (by rw [e60]; omega), e60]
      have m2 : (60 * k + i).toInt = 60 * k.toInt + i.toInt := by
        rw [i_add (by rw [m1]; omega) (by rw [m1]; omega), m1]
      have m3 : (i + 1).toInt = i.toInt + 1 := i_inc i0 (by omega)
      refine ⟨i + 1, upd f (60 * k + i).toInt.toNat 0, ⟨rfl, rfl, rfl, rfl, rfl, trivial⟩, rfl, ?_, hk, hla, (show 0 ≤ (i + 1).toInt by omega), (show (i + 1).toInt ≤ n.toInt by omega), fun j => ?_⟩
      · have g : eG fl_X12 130 (w d.p) = .ref d.aC := by
          rw [wp, ← hC]
          rfl
        show hset w (rv_ (eG fl_X12 130 (w d.p))) (sI (60 * k + i).toNatClampNeg 0 (w (rv_ (eG fl_X12 130 (w d.p))))) = _
        rw [g]
        show hset w d.aC (sI (60 * k + i).toNatClampNeg 0 (w d.aC)) = _
        rw [wC, ew]
        exact hset_hset
      · show upd f (60 * k + i).toInt.toNat 0 j = if 60 * k.toInt.toNat ≤ j ∧ j < 60 * k.toInt.toNat + (i + 1).toInt.toNat then 0 else d.f j
        rw [m2, m3]
        by_cases ej : j = (60 * k.toInt + i.toInt).toNat
        · rw [ej, upd_at, if_pos (by omega)]
        · rw [upd_ne ej, hfz j]
          by_cases hj : 60 * k.toInt.toNat ≤ j ∧ j < 60 * k.toInt.toNat + i.toInt.toNat
          · rw [if_pos hj, if_pos (by omega)]
          · rw [if_neg hj, if_neg (by omega)]
  · obtain ⟨d, k, lane, n⟩ := a
    obtain ⟨hp, ⟨hZ, hz⟩, ⟨hL, hl⟩, ⟨hC, hf⟩, nZL, nZC, nLC⟩ := (show md_at d h0 from hp)
    have pZ := ne_of_h hp hz
    have pL := ne_of_h hp hl
    have pC := ne_of_h hp hf
    intro rv h1 hc
    obtain ⟨e1, rfl⟩ := hc k rfl trivial
    have e1 : h1 = h0 := e1
    subst e1
    refine ⟨fun hc => ?_, fun hc => ?_⟩
    rotate_left
    · have hk : ¬ (0 ≤ k.toInt ∧ k.toInt < 4) := by
        intro hk
        have hc : ¬ (if 0 ≤ k.toInt ∧ k.toInt < 4 then (0 : Int32) else 1).toInt = 0 := hc
        rw [if_pos hk] at hc
        exact hc (by decide)
      intro rv h3 hc3
      obtain ⟨e3, rfl⟩ := hc3 (d.p, -1, d.fs) rfl hp
      show Q12_sheet d k lane n _ _ h3
      unfold Q12_sheet
      rw [if_neg hk]
      exact ⟨rfl, e3⟩
    have hk : 0 ≤ k.toInt ∧ k.toInt < 4 := by
      by_cases hk : 0 ≤ k.toInt ∧ k.toInt < 4
      · exact hk
      · have hc : (if 0 ≤ k.toInt ∧ k.toInt < 4 then (0 : Int32) else 1).toInt = 0 := hc
        rw [if_neg hk] at hc
        exact absurd hc (by decide)
    intro rv h2 hc
    obtain ⟨e2, rfl⟩ := hc (lane.toInt64, 0, 2) rfl trivial
    have e2 : h2 = h1 := e2
    subst e2
    have t1 : lane.toInt64.toInt = lane.toInt := Int32.toInt_toInt64 lane
    have tz : (0 : Int64).toInt = 0 := by decide
    have t2 : (2 : Int64).toInt = 2 := by decide
    have out : ∀ (rv : Option Value) (h3 : fH), (h3 = hset h2 d.p (.inr (12, d.fs.set 0 (.int 0))) ∧ rv = some (.int (-2))) → ¬ ((0 ≤ lane.toInt ∧ lane.toInt < 3) ∧ n.toInt ≤ 60) → Q12_sheet d k lane n h2 rv h3 := by
      rintro rv h3 ⟨e3, rfl⟩ ho
      unfold Q12_sheet
      rw [if_pos hk, if_neg ho]
      exact ⟨rfl, e3⟩
    refine ⟨fun hc => ?_, fun hc => ?_⟩
    · have hl : ¬ (0 ≤ lane.toInt ∧ lane.toInt < 3) := by
        intro hl
        have hc : (if (0 : Int64).toInt ≤ lane.toInt64.toInt ∧ lane.toInt64.toInt ≤ (2 : Int64).toInt then (1 : Int32) else 0).toInt = 0 := hc
        rw [t1, tz, t2, if_pos (by omega)] at hc
        exact absurd hc (by decide)
      intro rv h3 hc3
      obtain ⟨e3, rfl⟩ := hc3 (d.p, -2, d.fs) rfl hp
      exact out _ _ ⟨e3, rfl⟩ (fun z => hl z.1)
    have hla : 0 ≤ lane.toInt ∧ lane.toInt < 3 := by
      by_cases hl : 0 ≤ lane.toInt ∧ lane.toInt < 3
      · exact hl
      · have hc : ¬ (if (0 : Int64).toInt ≤ lane.toInt64.toInt ∧ lane.toInt64.toInt ≤ (2 : Int64).toInt then (1 : Int32) else 0).toInt = 0 := hc
        rw [t1, tz, t2, if_neg (by omega)] at hc
        exact absurd rfl hc
    refine ⟨fun hn => ?_, fun hn => ?_⟩
    rotate_left
    · have hn : ¬ n.toInt ≤ (60 : Int32).toInt := hn
      have e6 : (60 : Int32).toInt = 60 := by decide
      intro rv h3 hc3
      obtain ⟨e3, rfl⟩ := hc3 (d.p, -2, d.fs) rfl hp
      exact out _ _ ⟨e3, rfl⟩ (fun z => by omega)
    have hn : n.toInt ≤ (60 : Int32).toInt := hn
    have e6 : (60 : Int32).toInt = 60 := by decide
    have hn : n.toInt ≤ 60 := by omega
    refine ⟨fun hm => ?_, fun hm => ?_⟩
    rotate_left
    · have hm : ¬ 0 ≤ n.toInt := hm
      intro rv h3 hc3
      obtain ⟨e3, rfl⟩ := hc3 (d.p, 4, d.fs) rfl hp
      show Q12_sheet d k lane n h2 _ h3
      unfold Q12_sheet
      rw [if_pos hk, if_pos ⟨hla, hn⟩, if_neg hm]
      exact ⟨f10_4, e3⟩
    have hm : 0 ≤ n.toInt := hm
    have key : ∀ (W1 W2 : fH), W1 = hset h2 (rv_ (eG fl_X12 124 (h2 d.p))) (sI k.toNatClampNeg n (h2 (rv_ (eG fl_X12 124 (h2 d.p))))) → W2 = hset W1 (rv_ (eG fl_X12 127 (W1 d.p))) (sI k.toNatClampNeg lane (W1 (rv_ (eG fl_X12 127 (W1 d.p))))) → W2 = md_w d k lane n d.f h2 := by
      intro W1 W2 E1 E2
      have g1 : eG fl_X12 124 (h2 d.p) = .ref d.aZ := by
        rw [hp, ← hZ]
        rfl
      have E1 : W1 = hset h2 d.aZ (.inl (d.cZ, 4, .inl (upd d.z k.toInt.toNat n))) := by
        rw [E1, g1]
        show hset h2 d.aZ (sI k.toNatClampNeg n (h2 d.aZ)) = _
        rw [hz]
        rfl
      have x1 : W1 d.p = some (.inr (12, d.fs)) := by rw [E1, hset_ne (Ne.symm pZ), hp]
      have x3 : W1 d.aL = some (.inl (d.cL, 4, .inl d.l)) := by rw [E1, hset_ne (Ne.symm nZL), hl]
      have x4 : W1 d.aC = some (.inl (d.cC, 240, .inl d.f)) := by rw [E1, hset_ne (Ne.symm nZC), hf]
      have g2 : eG fl_X12 127 (W1 d.p) = .ref d.aL := by
        rw [x1, ← hL]
        rfl
      have E2 : W2 = hset W1 d.aL (.inl (d.cL, 4, .inl (upd d.l k.toInt.toNat lane))) := by
        rw [E2, g2]
        show hset W1 d.aL (sI k.toNatClampNeg lane (W1 d.aL)) = _
        rw [x3]
        rfl
      have y4 : W2 d.aC = some (.inl (d.cC, 240, .inl d.f)) := by rw [E2, hset_ne (Ne.symm nLC), x4]
      unfold md_w
      rw [← E1, ← E2]
      exact (hset_self y4).symm
    have e0 : (0 : Int32).toInt = 0 := by decide
    refine ⟨0, d.f, ⟨rfl, rfl, rfl, rfl, rfl, trivial⟩, rfl, key _ _ rfl rfl, hk, ⟨hla, hn⟩, by decide, by rw [e0]; exact hm, fun j => ?_⟩
    show d.f j = if 60 * k.toInt.toNat ≤ j ∧ j < 60 * k.toInt.toNat + (0 : Int32).toInt.toNat then 0 else d.f j
    rw [e0, if_neg (by omega)]
end
section
/-! the class's sheets: put -/
def cutv (v l : Int32) : Int32 := if l.toInt = 0 then v.toInt8.toInt32 else if l.toInt = 1 then v.toInt16.toInt32 else v
theorem s_X11_cut : f_do r_X11_cut (fun As h rv h' => ∀ a : Int32 × Int32, As = [.int a.1, .int a.2] → True → h' = h ∧ rv = some (.int (cutv a.1 a.2))) := by
  refine do_ofP (fun a : Int32 × Int32 => [.int a.1, .int a.2]) (fun _ _ => True) (fun a h rv h' => h' = h ∧ rv = some (.int (cutv a.1 a.2))) [] (fun _ _ => []) 40 fo_X11 no_sp k_X11_cut (fun _ _ _ => no_hd) (fun a h0 _ => ?_)
  obtain ⟨v, l⟩ := a
  have e1 : (1 : Int32).toInt = 1 := by decide
  refine ⟨fun hc => ⟨fun hd => ?_, fun hd => ?_⟩, fun hc => ?_⟩
  · have hc : ¬ l.toInt = 0 := hc
    have hd : ¬ l.toInt = (1 : Int32).toInt := hd
    rw [e1] at hd
    refine ⟨rfl, ?_⟩
    show some (Value.int v) = some (.int (cutv v l))
    unfold cutv
    rw [if_neg hc, if_neg hd]
  · have hc : ¬ l.toInt = 0 := hc
    have hd : ¬ ¬ l.toInt = (1 : Int32).toInt := hd
    rw [e1] at hd
    refine ⟨rfl, ?_⟩
    show some (Value.int v.toInt16.toInt32) = some (.int (cutv v l))
    unfold cutv
    rw [if_neg hc, if_pos (Classical.not_not.mp hd)]
  · have hc : ¬ ¬ l.toInt = 0 := hc
    refine ⟨rfl, ?_⟩
    show some (Value.int v.toInt8.toInt32) = some (.int (cutv v l))
    unfold cutv
    rw [if_pos (Classical.not_not.mp hc)]
def Q11_put (d : dk_) (k i v : Int32) (h : fH) (rv : Option Value) (h' : fH) : Prop :=
  if 0 ≤ k.toInt ∧ k.toInt < 4 then
    if (d.l k.toInt.toNat).toInt = -1 then rv = some (.int (-11)) ∧ h' = hset h d.p (dk_f d 1)
    else if 0 ≤ i.toInt ∧ i.toInt < (d.z k.toInt.toNat).toInt then rv = some (.int 1) ∧ h' = hset (hset h d.p (dk_f d 0)) (d.R k.toInt.toNat).1 (.inl ((d.R k.toInt.toNat).2.1, 60, .inl (upd (d.R k.toInt.toNat).2.2 i.toInt.toNat (cutv v (d.l k.toInt.toNat)))))
    else rv = some (.int (-13)) ∧ h' = hset h d.p (dk_f d 3)
  else rv = some (.int (-1)) ∧ h' = hset h d.p (dk_f d 0)
set_option maxHeartbeats 4000000 in
theorem s_X11_put : f_do r_X11_put (fun As h rv h' => ∀ a : dk_ × Int32 × Int32 × Int32, As = [.ref a.1.p, .int a.2.1, .int a.2.2.1, .int a.2.2.2] → dk_at a.1 h → Q11_put a.1 a.2.1 a.2.2.1 a.2.2.2 h rv h') := by
  refine do_ofP (fun a : dk_ × Int32 × Int32 × Int32 => [.ref a.1.p, .int a.2.1, .int a.2.2.1, .int a.2.2.2]) (fun a h => dk_at a.1 h) (fun a h rv h' => Q11_put a.1 a.2.1 a.2.2.1 a.2.2.2 h rv h')
    [(292, 1, _), (312, 2, _), (1255, 2, _)] (fun _ _ => []) 80 fo_X11 (List.forall_mem_cons.mpr ⟨sp_one rfl s_X11_isSheet, List.forall_mem_cons.mpr ⟨sp_one rfl s_X11_faulted, List.forall_mem_cons.mpr ⟨sp_one rfl s_X11_cut, no_sp⟩⟩⟩) k_X11_put (fun _ _ _ => no_hd) (fun a h0 hp => ?_)
  obtain ⟨d, k, i, v⟩ := a
  obtain ⟨hp, ⟨hL, hl⟩, ⟨hS, hz⟩, ⟨hC, hg⟩, nLS, hR⟩ := (show dk_at d h0 from hp)
  have pL := ne_of_h hp hl
  have pS := ne_of_h hp hz
  have pC := ne_of_h hp hg
  intro rv h1 hc
  obtain ⟨e1, rfl⟩ := hc k rfl trivial
  have e1 : h1 = hset h0 d.p (sG pl_X11 93 (.int 0) (h0 d.p)) := e1
  have e1 : h1 = hset h0 d.p (dk_f d 0) := by
    rw [e1, hp]
    rfl
  have w1 : h1 d.p = some (dk_f d 0) := by rw [e1, hset_at]
  have w2 : h1 d.aL = some (.inl (d.cL, 4, .inl d.l)) := by rw [e1, hset_ne pL, hl]
  have w3 : h1 d.aS = some (.inl (d.cS, 4, .inl d.z)) := by rw [e1, hset_ne pS, hz]
  have w4 : h1 d.aC = some (.inl (d.cC, 4, .inr (.inr (.inr (.inr d.g))))) := by rw [e1, hset_ne pC, hg]
  have g1 : eG fl_X11 77 (h1 d.p) = .ref d.aL := by
    rw [w1, ← hL]
    exact getD_set_ne (by decide)
  have g2 : eG fl_X11 87 (h1 d.p) = .ref d.aS := by
    rw [w1, ← hS]
    exact getD_set_ne (by decide)
  have g3 : eG fl_X11 74 (h1 d.p) = .ref d.aC := by
    rw [w1, ← hC]
    exact getD_set_ne (by decide)
  have iL : eI (h1 (rv_ (eG fl_X11 77 (h1 d.p)))) k.toNatClampNeg = d.l k.toInt.toNat := by
    rw [g1]
    show eI (h1 d.aL) _ = _
    rw [w2]
    rfl
  have iS : eI (h1 (rv_ (eG fl_X11 87 (h1 d.p)))) k.toNatClampNeg = d.z k.toInt.toNat := by
    rw [g2]
    show eI (h1 d.aS) _ = _
    rw [w3]
    rfl
  have flt : ∀ (x : Int32) (rv : Option Value) (h3 : fH), (∀ a : Nat × Int32 × List Value, [Value.ref d.p, .int x] = [.ref a.1, .int a.2.1] → h1 a.1 = some (.inr (11, a.2.2)) → h3 = hset h1 a.1 (.inr (11, a.2.2.set 14 (.int a.2.1))) ∧ rv = some (.int (Int32.ofInt (-10) - a.2.1))) → rv = some (.int (Int32.ofInt (-10) - x)) ∧ h3 = hset h0 d.p (dk_f d x) := by
    intro x rv h3 hc
    obtain ⟨e3, e4⟩ := hc (d.p, x, d.fs.set 14 (.int 0)) rfl w1
    refine ⟨e4, ?_⟩
    rw [e3, e1, hset_hset, List.set_set]
    rfl
  refine ⟨fun hc => ?_, fun hc => ?_⟩
  rotate_left
  · have hk : ¬ (0 ≤ k.toInt ∧ k.toInt < 4) := by
      intro hk
      have hc : ¬ ¬ (if 0 ≤ k.toInt ∧ k.toInt < 4 then (1 : Int32) else 0).toInt = 0 := hc
      rw [if_pos hk] at hc
      exact hc (by decide)
    show Q11_put d k i v h0 _ h1
    unfold Q11_put
    rw [if_neg hk]
    exact ⟨rfl, e1⟩
  have hk : 0 ≤ k.toInt ∧ k.toInt < 4 := by
    by_cases hk : 0 ≤ k.toInt ∧ k.toInt < 4
    · exact hk
    · have hc : ¬ (if 0 ≤ k.toInt ∧ k.toInt < 4 then (1 : Int32) else 0).toInt = 0 := hc
      rw [if_neg hk] at hc
      exact absurd rfl hc
  refine ⟨fun hn => ?_, fun hn => ?_⟩
  rotate_left
  · have hn : ¬ ¬ (eI (h1 (rv_ (eG fl_X11 77 (h1 d.p)))) k.toNatClampNeg).toInt = (Int32.ofInt (-1)).toInt := hn
    rw [iL] at hn
    have hn : (d.l k.toInt.toNat).toInt = -1 := Classical.not_not.mp hn
    intro rv h3 hc
    obtain ⟨rfl, e3⟩ := flt 1 rv h3 hc
    show Q11_put d k i v h0 _ h3
    unfold Q11_put
    rw [if_pos hk, if_pos hn]
    exact ⟨f10_1, e3⟩
  have hn : ¬ (eI (h1 (rv_ (eG fl_X11 77 (h1 d.p)))) k.toNatClampNeg).toInt = (Int32.ofInt (-1)).toInt := hn
  rw [iL] at hn
  have hn : ¬ (d.l k.toInt.toNat).toInt = -1 := hn
  have out : ¬ (0 ≤ i.toInt ∧ i.toInt < (d.z k.toInt.toNat).toInt) → ∀ (rv : Option Value) (h3 : fH), (∀ a : Nat × Int32 × List Value, [Value.ref d.p, .int 3] = [.ref a.1, .int a.2.1] → h1 a.1 = some (.inr (11, a.2.2)) → h3 = hset h1 a.1 (.inr (11, a.2.2.set 14 (.int a.2.1))) ∧ rv = some (.int (Int32.ofInt (-10) - a.2.1))) → Q11_put d k i v h0 rv h3 := by
    intro ho rv h3 hc
    obtain ⟨rfl, e3⟩ := flt 3 rv h3 hc
    unfold Q11_put
    rw [if_pos hk, if_neg hn, if_neg ho]
    exact ⟨f10_3, e3⟩
  refine ⟨fun hm => ?_, fun hm => ?_⟩
  · have hm : i.toInt < 0 := hm
    intro rv h3 hc
    obtain ⟨rfl, e3⟩ := flt 3 rv h3 hc
    show Q11_put d k i v h0 _ h3
    unfold Q11_put
    rw [if_pos hk, if_neg hn, if_neg (by omega)]
    exact ⟨f10_3, e3⟩
  have hm : ¬ i.toInt < 0 := hm
  refine ⟨fun hq => ?_, fun hq => ?_⟩
  rotate_left
  · have hq : ¬ i.toInt < (eI (h1 (rv_ (eG fl_X11 87 (h1 d.p)))) k.toNatClampNeg).toInt := hq
    rw [iS] at hq
    intro rv h3 hc
    obtain ⟨rfl, e3⟩ := flt 3 rv h3 hc
    show Q11_put d k i v h0 _ h3
    unfold Q11_put
    rw [if_pos hk, if_neg hn, if_neg (by omega)]
    exact ⟨f10_3, e3⟩
  have hq : i.toInt < (eI (h1 (rv_ (eG fl_X11 87 (h1 d.p)))) k.toNatClampNeg).toInt := hq
  rw [iS] at hq
  have hqq : 0 ≤ i.toInt ∧ i.toInt < (d.z k.toInt.toNat).toInt := ⟨by omega, hq⟩
  have hnn : ¬ (d.l k.toInt.toNat).toInt = -1 := hn
  intro rv h2 hc
  obtain ⟨e2, rfl⟩ := hc (v, eI (h1 (rv_ (eG fl_X11 77 (h1 d.p)))) k.toNatClampNeg) rfl trivial
  have e2 : h2 = h1 := e2
  subst e2
  show Q11_put d k i v h0 (some (.int 1)) (hset h2 (rv_ (eR (h2 (rv_ (eG fl_X11 74 (h2 d.p)))) k.toNatClampNeg)) (sI i.toNatClampNeg (cutv v (eI (h2 (rv_ (eG fl_X11 77 (h2 d.p)))) k.toNatClampNeg)) (h2 (rv_ (eR (h2 (rv_ (eG fl_X11 74 (h2 d.p)))) k.toNatClampNeg)))))
  obtain ⟨r1, r2, r3, r4⟩ := hR k.toInt.toNat (by omega)
  have rp := ne_of_h hp r2
  have y5 : h2 (d.R k.toInt.toNat).1 = some (.inl ((d.R k.toInt.toNat).2.1, 60, .inl (d.R k.toInt.toNat).2.2)) := by rw [e1, hset_ne rp, r2]
  have g4 : eR (h2 (rv_ (eG fl_X11 74 (h2 d.p)))) k.toNatClampNeg = .ref (d.R k.toInt.toNat).1 := by
    rw [g3]
    show eR (h2 d.aC) k.toInt.toNat = _
    rw [w4]
    show va_rf (d.g k.toInt.toNat) = _
    rw [r1]
    rfl
  rw [g4, iL]
  show Q11_put d k i v h0 (some (.int 1)) (hset h2 (d.R k.toInt.toNat).1 (sI i.toNatClampNeg (cutv v (d.l k.toInt.toNat)) (h2 (d.R k.toInt.toNat).1)))
  rw [y5]
  unfold Q11_put
  rw [if_pos hk, if_neg hnn, if_pos hqq]
  refine ⟨rfl, ?_⟩
  rw [e1]
  rfl
end
section
/-! the reference's sheets: put -/
def ncell (z i : Int32) : Int32 := if z.toInt < 0 then 1 else if 0 ≤ i.toInt ∧ i.toInt < z.toInt then 0 else 3
theorem l_sub1 {z : Int32} (h : 0 ≤ z.toInt) : (z.toInt64 - 1).toInt = z.toInt - 1 := by
  have e1 : (1 : Int64).toInt = 1 := by decide
  have h2 := Int32.toInt_lt z
  rw [Int64.toInt_sub, Int32.toInt_toInt64, e1]
  exact Int.bmod_eq_of_le (by omega) (by omega)
theorem s_X12_noCell : f_do r_X12_noCell (fun As h rv h' => ∀ a : md_ × Int32 × Int32, As = [.ref a.1.p, .int a.2.1, .int a.2.2] → md_at a.1 h → h' = h ∧ rv = some (.int (ncell (a.1.z a.2.1.toInt.toNat) a.2.2))) := by
  refine do_ofP (fun a : md_ × Int32 × Int32 => [.ref a.1.p, .int a.2.1, .int a.2.2]) (fun a h => md_at a.1 h) (fun a h rv h' => h' = h ∧ rv = some (.int (ncell (a.1.z a.2.1.toInt.toNat) a.2.2))) [(457, 3, _)] (fun _ _ => []) 60 fo_X12 (List.forall_mem_cons.mpr ⟨sp_one rfl s_X12_in, no_sp⟩) k_X12_noCell (fun _ _ _ => no_hd) (fun a h0 hp => ?_)
  obtain ⟨d, k, i⟩ := a
  obtain ⟨hp, ⟨hZ, hz⟩, ⟨hL, hl⟩, ⟨hC, hf⟩, nZL, nZC, nLC⟩ := (show md_at d h0 from hp)
  have g1 : eG fl_X12 124 (h0 d.p) = .ref d.aZ := by
    rw [hp, ← hZ]
    rfl
  have iZ : eI (h0 (rv_ (eG fl_X12 124 (h0 d.p)))) k.toNatClampNeg = d.z k.toInt.toNat := by
    rw [g1]
    show eI (h0 d.aZ) _ = _
    rw [hz]
    rfl
  refine ⟨fun hc => ?_, fun hc => ?_⟩
  · have hc : 0 ≤ (eI (h0 (rv_ (eG fl_X12 124 (h0 d.p)))) k.toNatClampNeg).toInt := hc
    rw [iZ] at hc
    have hcc : 0 ≤ (d.z k.toInt.toNat).toInt := hc
    intro rv h1 hc1
    obtain ⟨e1, rfl⟩ := hc1 (i.toInt64, 0, (eI (h0 (rv_ (eG fl_X12 124 (h0 d.p)))) k.toNatClampNeg).toInt64 - 1) rfl trivial
    have e1 : h1 = h0 := e1
    subst e1
    have t1 : i.toInt64.toInt = i.toInt := Int32.toInt_toInt64 i
    have tz : (0 : Int64).toInt = 0 := by decide
    have t2 : ((d.z k.toInt.toNat).toInt64 - 1).toInt = (d.z k.toInt.toNat).toInt - 1 := l_sub1 hcc
    refine ⟨fun hd => ?_, fun hd => ?_⟩
    · have hd : (if (0 : Int64).toInt ≤ i.toInt64.toInt ∧ i.toInt64.toInt ≤ ((eI (h1 (rv_ (eG fl_X12 124 (h1 d.p)))) k.toNatClampNeg).toInt64 - 1).toInt then (1 : Int32) else 0).toInt = 0 := hd
      rw [iZ, t1, tz, t2] at hd
      refine ⟨rfl, ?_⟩
      show some (Value.int 3) = some (.int (ncell (d.z k.toInt.toNat) i))
      unfold ncell
      by_cases hi : 0 ≤ i.toInt ∧ i.toInt ≤ (d.z k.toInt.toNat).toInt - 1
      · rw [if_pos hi] at hd
        exact absurd hd (by decide)
      · rw [if_neg (by omega), if_neg (by omega)]
    · have hd : ¬ (if (0 : Int64).toInt ≤ i.toInt64.toInt ∧ i.toInt64.toInt ≤ ((eI (h1 (rv_ (eG fl_X12 124 (h1 d.p)))) k.toNatClampNeg).toInt64 - 1).toInt then (1 : Int32) else 0).toInt = 0 := hd
      rw [iZ, t1, tz, t2] at hd
      refine ⟨rfl, ?_⟩
      show some (Value.int 0) = some (.int (ncell (d.z k.toInt.toNat) i))
      unfold ncell
      by_cases hi : 0 ≤ i.toInt ∧ i.toInt ≤ (d.z k.toInt.toNat).toInt - 1
      · rw [if_neg (by omega), if_pos (by omega)]
      · rw [if_neg hi] at hd
        exact absurd rfl hd
  · have hc : ¬ 0 ≤ (eI (h0 (rv_ (eG fl_X12 124 (h0 d.p)))) k.toNatClampNeg).toInt := hc
    rw [iZ] at hc
    refine ⟨rfl, ?_⟩
    show some (Value.int 1) = some (.int (ncell (d.z k.toInt.toNat) i))
    unfold ncell
    rw [if_pos (by omega)]
def Q12_put (d : md_) (k i v : Int32) (h : fH) (rv : Option Value) (h' : fH) : Prop :=
  if 0 ≤ k.toInt ∧ k.toInt < 4 then
    if 0 < (ncell (d.z k.toInt.toNat) i).toInt then rv = some (.int (Int32.ofInt (-10) - ncell (d.z k.toInt.toNat) i)) ∧ h' = hset h d.p (md_f d (ncell (d.z k.toInt.toNat) i))
    else rv = some (.int 1) ∧ h' = hset (hset h d.aC (.inl (d.cC, 240, .inl (upd d.f (60 * k + i).toInt.toNat (cutv v (d.l k.toInt.toNat)))))) d.p (md_f d 0)
  else rv = some (.int (-1)) ∧ h' = hset h d.p (md_f d 0)
set_option maxHeartbeats 4000000 in
theorem s_X12_put : f_do r_X12_put (fun As h rv h' => ∀ a : md_ × Int32 × Int32 × Int32, As = [.ref a.1.p, .int a.2.1, .int a.2.2.1, .int a.2.2.2] → md_at a.1 h → Q12_put a.1 a.2.1 a.2.2.1 a.2.2.2 h rv h') := by
  refine do_ofP (fun a : md_ × Int32 × Int32 × Int32 => [.ref a.1.p, .int a.2.1, .int a.2.2.1, .int a.2.2.2]) (fun a h => md_at a.1 h) (fun a h rv h' => Q12_put a.1 a.2.1 a.2.2.1 a.2.2.2 h rv h')
    [(604, 1, _), (615, 2, _), (630, 2, _), (1449, 3, _)] (fun _ _ => []) 80 fo_X12 (List.forall_mem_cons.mpr ⟨sp_one rfl s_X12_noSheet, List.forall_mem_cons.mpr ⟨sp_one rfl s_X12_refused, List.forall_mem_cons.mpr ⟨sp_one rfl s_X12_failed, List.forall_mem_cons.mpr ⟨sp_one rfl s_X12_noCell, no_sp⟩⟩⟩⟩) k_X12_put (fun _ _ _ => no_hd) (fun a h0 hp => ?_)
  obtain ⟨d, k, i, v⟩ := a
  have hmd : md_at d h0 := hp
  obtain ⟨hp, ⟨hZ, hz⟩, ⟨hL, hl⟩, ⟨hC, hf⟩, nZL, nZC, nLC⟩ := (show md_at d h0 from hp)
  have pC := ne_of_h hp hf
  intro rv h1 hc
  obtain ⟨e1, rfl⟩ := hc k rfl trivial
  have e1 : h1 = h0 := e1
  subst e1
  refine ⟨fun hc => ?_, fun hc => ?_⟩
  rotate_left
  · have hk : ¬ (0 ≤ k.toInt ∧ k.toInt < 4) := by
      intro hk
      have hc : ¬ (if 0 ≤ k.toInt ∧ k.toInt < 4 then (0 : Int32) else 1).toInt = 0 := hc
      rw [if_pos hk] at hc
      exact hc (by decide)
    intro rv h3 hc3
    obtain ⟨e3, rfl⟩ := hc3 (d.p, -1, d.fs) rfl hp
    show Q12_put d k i v _ _ h3
    unfold Q12_put
    rw [if_neg hk]
    exact ⟨rfl, e3⟩
  have hk : 0 ≤ k.toInt ∧ k.toInt < 4 := by
    by_cases hk : 0 ≤ k.toInt ∧ k.toInt < 4
    · exact hk
    · have hc : (if 0 ≤ k.toInt ∧ k.toInt < 4 then (0 : Int32) else 1).toInt = 0 := hc
      rw [if_neg hk] at hc
      exact absurd hc (by decide)
  intro rv h2 hc
  obtain ⟨e2, rfl⟩ := hc (d, k, i) rfl hmd
  have e2 : h2 = h1 := e2
  subst e2
  refine ⟨fun hn => ?_, fun hn => ?_⟩
  rotate_left
  · have hn : ¬ (ncell (d.z k.toInt.toNat) i).toInt ≤ 0 := hn
    intro rv h3 hc3
    obtain ⟨e3, rfl⟩ := hc3 (d, k, i) rfl hmd
    have e3 : h3 = h2 := e3
    subst e3
    intro rv h4 hc4
    obtain ⟨e4, rfl⟩ := hc4 (d.p, ncell (d.z k.toInt.toNat) i, d.fs) rfl hp
    show Q12_put d k i v _ _ h4
    unfold Q12_put
    rw [if_pos hk, if_pos (by omega)]
    exact ⟨rfl, e4⟩
  have hn : (ncell (d.z k.toInt.toNat) i).toInt ≤ 0 := hn
  have g1 : eG fl_X12 130 (h2 d.p) = .ref d.aC := by
    rw [hp, ← hC]
    rfl
  have g2 : eG fl_X12 127 (h2 d.p) = .ref d.aL := by
    rw [hp, ← hL]
    rfl
  have iL : eI (h2 (rv_ (eG fl_X12 127 (h2 d.p)))) k.toNatClampNeg = d.l k.toInt.toNat := by
    rw [g2]
    show eI (h2 d.aL) _ = _
    rw [hl]
    rfl
  have fin : ∀ (u : Int32) (W : fH), u = cutv v (d.l k.toInt.toNat) → W = hset h2 (rv_ (eG fl_X12 130 (h2 d.p))) (sI (60 * k + i).toNatClampNeg u (h2 (rv_ (eG fl_X12 130 (h2 d.p))))) → ∀ (rv : Option Value) (h3 : fH), (∀ a : Nat × Int32 × List Value, [Value.ref d.p, .int 1] = [.ref a.1, .int a.2.1] → W a.1 = some (.inr (12, a.2.2)) → h3 = hset W a.1 (.inr (12, a.2.2.set 0 (.int 0))) ∧ rv = some (.int a.2.1)) → rv = some (.int 1) ∧ Q12_put d k i v h2 (some (.int 1)) h3 := by
    intro u W hu hW rv h3 hc
    have hW : W = hset h2 d.aC (.inl (d.cC, 240, .inl (upd d.f (60 * k + i).toInt.toNat u))) := by
      rw [hW, g1]
      show hset h2 d.aC (sI (60 * k + i).toNatClampNeg u (h2 d.aC)) = _
      rw [hf]
      rfl
    have wp : W d.p = some (.inr (12, d.fs)) := by rw [hW, hset_ne (Ne.symm pC), hp]
    obtain ⟨e3, e4⟩ := hc (d.p, 1, d.fs) rfl wp
    refine ⟨e4, ?_⟩
    unfold Q12_put
    rw [if_pos hk, if_neg (by omega)]
    refine ⟨rfl, ?_⟩
    rw [e3, hW, hu]
    rfl
  have e1 : (1 : Int32).toInt = 1 := by decide
  refine ⟨fun ha => ⟨fun hb => ?_, fun hb => ?_⟩, fun ha => ?_⟩
  · have ha : ¬ (eI (h2 (rv_ (eG fl_X12 127 (h2 d.p)))) k.toNatClampNeg).toInt = 0 := ha
    have hb : ¬ (eI (h2 (rv_ (eG fl_X12 127 (h2 d.p)))) k.toNatClampNeg).toInt = (1 : Int32).toInt := hb
    rw [iL] at ha hb
    rw [e1] at hb
    intro rv h3 hc
    obtain ⟨rfl, hq⟩ := fin v _ (by unfold cutv; rw [if_neg ha, if_neg hb]) rfl rv h3 hc
    exact hq
  · have ha : ¬ (eI (h2 (rv_ (eG fl_X12 127 (h2 d.p)))) k.toNatClampNeg).toInt = 0 := ha
    have hb : ¬ ¬ (eI (h2 (rv_ (eG fl_X12 127 (h2 d.p)))) k.toNatClampNeg).toInt = (1 : Int32).toInt := hb
    rw [iL] at ha hb
    rw [e1] at hb
    intro rv h3 hc
    obtain ⟨rfl, hq⟩ := fin v.toInt16.toInt32 _ (by unfold cutv; rw [if_neg ha, if_pos (Classical.not_not.mp hb)]) rfl rv h3 hc
    exact hq
  · have ha : ¬ ¬ (eI (h2 (rv_ (eG fl_X12 127 (h2 d.p)))) k.toNatClampNeg).toInt = 0 := ha
    rw [iL] at ha
    intro rv h3 hc
    obtain ⟨rfl, hq⟩ := fin v.toInt8.toInt32 _ (by unfold cutv; rw [if_pos (Classical.not_not.mp ha)]) rfl rv h3 hc
    exact hq
end
section
/-! the class's sheets: cell -/
def lostL : Int64 := Int64.ofInt (-9223372036854775808)
def Q11_cell (d : dk_) (k i lane : Int32) (h : fH) (rv : Option Value) (h' : fH) : Prop :=
  if (0 ≤ k.toInt ∧ k.toInt < 4) ∧ (0 ≤ lane.toInt ∧ lane.toInt < 3) then
    if (d.l k.toInt.toNat).toInt = -1 then rv = some (.long lostL) ∧ h' = hset h d.p (dk_f d 1)
    else if (d.l k.toInt.toNat).toInt = lane.toInt then
      if 0 ≤ i.toInt ∧ i.toInt < (d.z k.toInt.toNat).toInt then rv = some (.long ((d.R k.toInt.toNat).2.2 i.toInt.toNat).toInt64) ∧ h' = hset h d.p (dk_f d 0)
      else rv = some (.long lostL) ∧ h' = hset h d.p (dk_f d 3)
    else rv = some (.long lostL) ∧ h' = hset h d.p (dk_f d 2)
  else rv = some (.long lostL) ∧ h' = hset h d.p (dk_f d 0)
set_option maxHeartbeats 4000000 in
theorem s_X11_cell : f_do r_X11_cell (fun As h rv h' => ∀ a : dk_ × Int32 × Int32 × Int32, As = [.ref a.1.p, .int a.2.1, .int a.2.2.1, .int a.2.2.2] → dk_at a.1 h → Q11_cell a.1 a.2.1 a.2.2.1 a.2.2.2 h rv h') := by
  refine do_ofP (fun a : dk_ × Int32 × Int32 × Int32 => [.ref a.1.p, .int a.2.1, .int a.2.2.1, .int a.2.2.2]) (fun a h => dk_at a.1 h) (fun a h rv h' => Q11_cell a.1 a.2.1 a.2.2.1 a.2.2.2 h rv h')
    [(292, 1, _), (304, 1, _)] (fun _ _ => []) 80 fo_X11 (List.forall_mem_cons.mpr ⟨sp_one rfl s_X11_isSheet, List.forall_mem_cons.mpr ⟨sp_one rfl s_X11_isLane, no_sp⟩⟩) k_X11_cell (fun _ _ _ => no_hd) (fun a h0 hp => ?_)
  obtain ⟨d, k, i, lane⟩ := a
  obtain ⟨hp, ⟨hL, hl⟩, ⟨hS, hz⟩, ⟨hC, hg⟩, nLS, hR⟩ := (show dk_at d h0 from hp)
  have pL := ne_of_h hp hl
  have pS := ne_of_h hp hz
  have pC := ne_of_h hp hg
  intro rv h1 hc
  obtain ⟨e1, rfl⟩ := hc k rfl trivial
  have e1 : h1 = hset h0 d.p (sG pl_X11 93 (.int 0) (h0 d.p)) := e1
  have e1 : h1 = hset h0 d.p (dk_f d 0) := by
    rw [e1, hp]
    rfl
  have w1 : h1 d.p = some (dk_f d 0) := by rw [e1, hset_at]
  have w2 : h1 d.aL = some (.inl (d.cL, 4, .inl d.l)) := by rw [e1, hset_ne pL, hl]
  have w3 : h1 d.aS = some (.inl (d.cS, 4, .inl d.z)) := by rw [e1, hset_ne pS, hz]
  have w4 : h1 d.aC = some (.inl (d.cC, 4, .inr (.inr (.inr (.inr d.g))))) := by rw [e1, hset_ne pC, hg]
  have g1 : eG fl_X11 77 (h1 d.p) = .ref d.aL := by
    rw [w1, ← hL]
    exact getD_set_ne (by decide)
  have g2 : eG fl_X11 87 (h1 d.p) = .ref d.aS := by
    rw [w1, ← hS]
    exact getD_set_ne (by decide)
  have g3 : eG fl_X11 74 (h1 d.p) = .ref d.aC := by
    rw [w1, ← hC]
    exact getD_set_ne (by decide)
  have iL : eI (h1 (rv_ (eG fl_X11 77 (h1 d.p)))) k.toNatClampNeg = d.l k.toInt.toNat := by
    rw [g1]
    show eI (h1 d.aL) _ = _
    rw [w2]
    rfl
  have iS : eI (h1 (rv_ (eG fl_X11 87 (h1 d.p)))) k.toNatClampNeg = d.z k.toInt.toNat := by
    rw [g2]
    show eI (h1 d.aS) _ = _
    rw [w3]
    rfl
  have flt : ∀ x : Int32, hset h1 d.p (sG pl_X11 93 (.int x) (h1 d.p)) = hset h0 d.p (dk_f d x) := by
    intro x
    rw [w1, e1, hset_hset]
    show hset h0 d.p (.inr (11, (d.fs.set 14 (.int 0)).set 14 (.int x))) = _
    rw [List.set_set]
    rfl
  have bad : ¬ ((0 ≤ k.toInt ∧ k.toInt < 4) ∧ (0 ≤ lane.toInt ∧ lane.toInt < 3)) → Q11_cell d k i lane h0 (some (.long lostL)) h1 := by
    intro hb
    unfold Q11_cell
    rw [if_neg hb]
    exact ⟨rfl, e1⟩
  refine ⟨fun hc => ?_, fun hc => ?_⟩
  · have hk : ¬ (0 ≤ k.toInt ∧ k.toInt < 4) := by
      intro hk
      have hc : (if 0 ≤ k.toInt ∧ k.toInt < 4 then (1 : Int32) else 0).toInt = 0 := hc
      rw [if_pos hk] at hc
      exact absurd hc (by decide)
    exact bad (fun z => hk z.1)
  have hk : 0 ≤ k.toInt ∧ k.toInt < 4 := by
    by_cases hk : 0 ≤ k.toInt ∧ k.toInt < 4
    · exact hk
    · have hc : ¬ (if 0 ≤ k.toInt ∧ k.toInt < 4 then (1 : Int32) else 0).toInt = 0 := hc
      rw [if_neg hk] at hc
      exact absurd rfl hc
  intro rv h2 hc
  obtain ⟨e2, rfl⟩ := hc lane rfl trivial
  have e2 : h2 = h1 := e2
  subst h2
  refine ⟨fun hc => ?_, fun hc => ?_⟩
  rotate_left
  · have hl : ¬ (0 ≤ lane.toInt ∧ lane.toInt < 3) := by
      intro hl
      have hc : ¬ ¬ (if 0 ≤ lane.toInt ∧ lane.toInt < 3 then (1 : Int32) else 0).toInt = 0 := hc
      rw [if_pos hl] at hc
      exact hc (by decide)
    exact bad (fun z => hl z.2)
  have hla : 0 ≤ lane.toInt ∧ lane.toInt < 3 := by
    by_cases hl : 0 ≤ lane.toInt ∧ lane.toInt < 3
    · exact hl
    · have hc : ¬ (if 0 ≤ lane.toInt ∧ lane.toInt < 3 then (1 : Int32) else 0).toInt = 0 := hc
      rw [if_neg hl] at hc
      exact absurd rfl hc
  refine ⟨fun hn => ?_, fun hn => ?_⟩
  rotate_left
  · have hn : ¬ ¬ (eI (h1 (rv_ (eG fl_X11 77 (h1 d.p)))) k.toNatClampNeg).toInt = (Int32.ofInt (-1)).toInt := hn
    rw [iL] at hn
    have hn : (d.l k.toInt.toNat).toInt = -1 := Classical.not_not.mp hn
    show Q11_cell d k i lane h0 (some (.long lostL)) (hset h1 d.p (sG pl_X11 93 (.int 1) (h1 d.p)))
    unfold Q11_cell
    rw [if_pos ⟨hk, hla⟩, if_pos hn]
    exact ⟨rfl, flt 1⟩
  have hn : ¬ (eI (h1 (rv_ (eG fl_X11 77 (h1 d.p)))) k.toNatClampNeg).toInt = (Int32.ofInt (-1)).toInt := hn
  rw [iL] at hn
  have hn : ¬ (d.l k.toInt.toNat).toInt = -1 := hn
  refine ⟨fun hm => ?_, fun hm => ?_⟩
  rotate_left
  · have hm : ¬ (eI (h1 (rv_ (eG fl_X11 77 (h1 d.p)))) k.toNatClampNeg).toInt = lane.toInt := hm
    rw [iL] at hm
    show Q11_cell d k i lane h0 (some (.long lostL)) (hset h1 d.p (sG pl_X11 93 (.int 2) (h1 d.p)))
    unfold Q11_cell
    rw [if_pos ⟨hk, hla⟩, if_neg hn, if_neg hm]
    exact ⟨rfl, flt 2⟩
  have hm : (eI (h1 (rv_ (eG fl_X11 77 (h1 d.p)))) k.toNatClampNeg).toInt = lane.toInt := hm
  rw [iL] at hm
  have out : ¬ (0 ≤ i.toInt ∧ i.toInt < (d.z k.toInt.toNat).toInt) → Q11_cell d k i lane h0 (some (.long lostL)) (hset h1 d.p (sG pl_X11 93 (.int 3) (h1 d.p))) := by
    intro ho
    unfold Q11_cell
    rw [if_pos ⟨hk, hla⟩, if_neg hn, if_pos hm, if_neg ho]
    exact ⟨rfl, flt 3⟩
  refine ⟨fun hi => ?_, fun hi => ?_⟩
  · have hi : i.toInt < 0 := hi
    exact out (by omega)
  have hi : ¬ i.toInt < 0 := hi
  refine ⟨fun hq => ?_, fun hq => ?_⟩
  rotate_left
  · have hq : ¬ i.toInt < (eI (h1 (rv_ (eG fl_X11 87 (h1 d.p)))) k.toNatClampNeg).toInt := hq
    rw [iS] at hq
    exact out (by omega)
  have hq : i.toInt < (eI (h1 (rv_ (eG fl_X11 87 (h1 d.p)))) k.toNatClampNeg).toInt := hq
  rw [iS] at hq
  obtain ⟨r1, r2, r3, r4⟩ := hR k.toInt.toNat (by omega)
  have rp := ne_of_h hp r2
  have y5 : h1 (d.R k.toInt.toNat).1 = some (.inl ((d.R k.toInt.toNat).2.1, 60, .inl (d.R k.toInt.toNat).2.2)) := by rw [e1, hset_ne rp, r2]
  have g4 : eR (h1 (rv_ (eG fl_X11 74 (h1 d.p)))) k.toNatClampNeg = .ref (d.R k.toInt.toNat).1 := by
    rw [g3]
    show eR (h1 d.aC) k.toInt.toNat = _
    rw [w4]
    show va_rf (d.g k.toInt.toNat) = _
    rw [r1]
    rfl
  show Q11_cell d k i lane h0 (some (.long (eI (h1 (rv_ (eR (h1 (rv_ (eG fl_X11 74 (h1 d.p)))) k.toNatClampNeg))) i.toNatClampNeg).toInt64)) h1
  rw [g4]
  show Q11_cell d k i lane h0 (some (.long (eI (h1 (d.R k.toInt.toNat).1) i.toNatClampNeg).toInt64)) h1
  rw [y5]
  unfold Q11_cell
  rw [if_pos ⟨hk, hla⟩, if_neg hn, if_pos hm, if_pos ⟨by omega, hq⟩]
  exact ⟨rfl, e1⟩
end
section
/-! the reference's sheets: cell -/
theorem s_X12_lost : f_do r_X12_lost (fun As h rv h' => ∀ _ : Unit, As = [] → True → h' = h ∧ rv = some (.long lostL)) := by
  refine do_ofP (fun _ : Unit => []) (fun _ _ => True) (fun _ h rv h' => h' = h ∧ rv = some (.long lostL)) [] (fun _ _ => []) 40 fo_X12 no_sp k_X12_lost (fun _ _ _ => no_hd) (fun _ h0 _ => ?_)
  exact ⟨rfl, rfl⟩
theorem s_X12_failedLong : f_do r_X12_failedLong (fun As h rv h' => ∀ a : Nat × Int32 × List Value, As = [.ref a.1, .int a.2.1] → h a.1 = some (.inr (12, a.2.2)) → h' = hset h a.1 (.inr (12, a.2.2.set 0 (.int a.2.1))) ∧ rv = some (.long lostL)) := by
  refine do_ofP (fun a : Nat × Int32 × List Value => [.ref a.1, .int a.2.1]) (fun a h => h a.1 = some (.inr (12, a.2.2))) (fun a h rv h' => h' = hset h a.1 (.inr (12, a.2.2.set 0 (.int a.2.1))) ∧ rv = some (.long lostL)) [(436, 0, _)] (fun _ _ => []) 40 fo_X12 (List.forall_mem_cons.mpr ⟨sp_one rfl s_X12_lost, no_sp⟩) k_X12_failedLong (fun _ _ _ => no_hd) (fun a h0 hp => ?_)
  obtain ⟨p, k, fs⟩ := a
  have hp : h0 p = some (.inr (12, fs)) := hp
  intro rv h1 hc
  obtain ⟨e1, rfl⟩ := hc () rfl trivial
  have e1 : h1 = hset h0 p (sG pl_X12 142 (.int k) (h0 p)) := e1
  refine ⟨?_, rfl⟩
  rw [e1, hp]
  rfl
def Q12_cell (d : md_) (k i lane : Int32) (h : fH) (rv : Option Value) (h' : fH) : Prop :=
  if (0 ≤ k.toInt ∧ k.toInt < 4) ∧ (0 ≤ lane.toInt ∧ lane.toInt < 3) then
    if 0 ≤ (d.z k.toInt.toNat).toInt ∧ ¬ (d.l k.toInt.toNat).toInt = lane.toInt then rv = some (.long lostL) ∧ h' = hset h d.p (md_f d 2)
    else if 0 < (ncell (d.z k.toInt.toNat) i).toInt then rv = some (.long lostL) ∧ h' = hset h d.p (md_f d (ncell (d.z k.toInt.toNat) i))
    else rv = some (.long (d.f (60 * k + i).toInt.toNat).toInt64) ∧ h' = hset h d.p (md_f d 0)
  else rv = some (.long lostL) ∧ h' = hset h d.p (md_f d 0)
/-- the same with the fault set -/
def md_0 (d : md_) : md_ := (d.1, d.2.1.set 0 (.int 0), d.2.2)
theorem md_0at {d : md_} {h : fH} (hd : md_at d h) : md_at (md_0 d) (hset h d.p (md_f d 0)) := by
  obtain ⟨hp, ⟨hZ, hz⟩, ⟨hL, hl⟩, ⟨hC, hf⟩, n⟩ := hd
  exact ⟨hset_at, ⟨(getD_set_ne (by decide)).trans hZ, (hset_ne (ne_of_h hp hz)).trans hz⟩, ⟨(getD_set_ne (by decide)).trans hL, (hset_ne (ne_of_h hp hl)).trans hl⟩, ⟨(getD_set_ne (by decide)).trans hC, (hset_ne (ne_of_h hp hf)).trans hf⟩, n⟩
set_option maxHeartbeats 4000000 in
theorem s_X12_cell : f_do r_X12_cell (fun As h rv h' => ∀ a : md_ × Int32 × Int32 × Int32, As = [.ref a.1.p, .int a.2.1, .int a.2.2.1, .int a.2.2.2] → md_at a.1 h → Q12_cell a.1 a.2.1 a.2.2.1 a.2.2.2 h rv h') := by
  refine do_ofP (fun a : md_ × Int32 × Int32 × Int32 => [.ref a.1.p, .int a.2.1, .int a.2.2.1, .int a.2.2.2]) (fun a h => md_at a.1 h) (fun a h rv h' => Q12_cell a.1 a.2.1 a.2.2.1 a.2.2.2 h rv h')
    [(436, 0, _), (457, 3, _), (604, 1, _), (1449, 3, _), (1458, 2, _)] (fun _ _ => []) 80 fo_X12 (List.forall_mem_cons.mpr ⟨sp_one rfl s_X12_lost, List.forall_mem_cons.mpr ⟨sp_one rfl s_X12_in, List.forall_mem_cons.mpr ⟨sp_one rfl s_X12_noSheet, List.forall_mem_cons.mpr ⟨sp_one rfl s_X12_noCell, List.forall_mem_cons.mpr ⟨sp_one rfl s_X12_failedLong, no_sp⟩⟩⟩⟩⟩) k_X12_cell (fun _ _ _ => no_hd) (fun a h0 hp => ?_)
  obtain ⟨d, k, i, lane⟩ := a
  have hmd := md_0at (show md_at d h0 from hp)
  have hp0 : h0 d.p = some (.inr (12, d.fs)) := (show md_at d h0 from hp).1
  intro rv h1 hc
  obtain ⟨e1, rfl⟩ := hc k rfl trivial
  have e1 : h1 = hset h0 d.p (sG pl_X12 142 (.int 0) (h0 d.p)) := e1
  have e1 : h1 = hset h0 d.p (md_f d 0) := by
    rw [e1, hp0]
    rfl
  rw [← e1] at hmd
  obtain ⟨w1, ⟨hZ, hz⟩, ⟨hL, hl⟩, ⟨hC, hf⟩, -⟩ := id hmd
  have w1 : h1 d.p = some (.inr (12, d.fs.set 0 (.int 0))) := w1
  have hZ : (d.fs.set 0 (.int 0)).getD 64 .null = .ref d.aZ := hZ
  have hz : h1 d.aZ = some (.inl (d.cZ, 4, .inl d.z)) := hz
  have hL : (d.fs.set 0 (.int 0)).getD 65 .null = .ref d.aL := hL
  have hl : h1 d.aL = some (.inl (d.cL, 4, .inl d.l)) := hl
  have hC : (d.fs.set 0 (.int 0)).getD 66 .null = .ref d.aC := hC
  have hf : h1 d.aC = some (.inl (d.cC, 240, .inl d.f)) := hf
  have g1 : eG fl_X12 124 (h1 d.p) = .ref d.aZ := by
    rw [w1, ← hZ]
    rfl
  have g2 : eG fl_X12 127 (h1 d.p) = .ref d.aL := by
    rw [w1, ← hL]
    rfl
  have g3 : eG fl_X12 130 (h1 d.p) = .ref d.aC := by
    rw [w1, ← hC]
    rfl
  have iZ : eI (h1 (rv_ (eG fl_X12 124 (h1 d.p)))) k.toNatClampNeg = d.z k.toInt.toNat := by
    rw [g1]
    show eI (h1 d.aZ) _ = _
    rw [hz]
    rfl
  have iL : eI (h1 (rv_ (eG fl_X12 127 (h1 d.p)))) k.toNatClampNeg = d.l k.toInt.toNat := by
    rw [g2]
    show eI (h1 d.aL) _ = _
    rw [hl]
    rfl
  have bad : ¬ ((0 ≤ k.toInt ∧ k.toInt < 4) ∧ (0 ≤ lane.toInt ∧ lane.toInt < 3)) → Q12_cell d k i lane h0 (some (.long lostL)) h1 := by
    intro hb
    unfold Q12_cell
    rw [if_neg hb]
    exact ⟨rfl, e1⟩
  have flt : ∀ x : Int32, hset h1 d.p (.inr (12, (d.fs.set 0 (.int 0)).set 0 (.int x))) = hset h0 d.p (md_f d x) := by
    intro x
    rw [e1, hset_hset, List.set_set]
    rfl
  refine ⟨fun hc => ?_, fun hc => ?_⟩
  · have hk : ¬ (0 ≤ k.toInt ∧ k.toInt < 4) := by
      intro hk
      have hc : ¬ (if 0 ≤ k.toInt ∧ k.toInt < 4 then (0 : Int32) else 1).toInt = 0 := hc
      rw [if_pos hk] at hc
      exact hc (by decide)
    intro rv h2 hc2
    obtain ⟨e2, rfl⟩ := hc2 () rfl trivial
    have e2 : h2 = h1 := e2
    rw [e2]
    exact bad (fun z => hk z.1)
  have hk : 0 ≤ k.toInt ∧ k.toInt < 4 := by
    by_cases hk : 0 ≤ k.toInt ∧ k.toInt < 4
    · exact hk
    · have hc : ¬ ¬ (if 0 ≤ k.toInt ∧ k.toInt < 4 then (0 : Int32) else 1).toInt = 0 := hc
      rw [if_neg hk] at hc
      exact absurd (by decide) hc
  intro rv h2 hc
  obtain ⟨e2, rfl⟩ := hc (lane.toInt64, 0, 2) rfl trivial
  have e2 : h2 = h1 := e2
  subst h2
  have t1 : lane.toInt64.toInt = lane.toInt := Int32.toInt_toInt64 lane
  have tz : (0 : Int64).toInt = 0 := by decide
  have t2 : (2 : Int64).toInt = 2 := by decide
  refine ⟨fun hc => ?_, fun hc => ?_⟩
  rotate_left
  · have hl : ¬ (0 ≤ lane.toInt ∧ lane.toInt < 3) := by
      intro hl
      have hc : ¬ ¬ (if (0 : Int64).toInt ≤ lane.toInt64.toInt ∧ lane.toInt64.toInt ≤ (2 : Int64).toInt then (1 : Int32) else 0).toInt = 0 := hc
      rw [t1, tz, t2, if_pos (by omega)] at hc
      exact hc (by decide)
    intro rv h2 hc2
    obtain ⟨e2, rfl⟩ := hc2 () rfl trivial
    have e2 : h2 = h1 := e2
    rw [e2]
    exact bad (fun z => hl z.2)
  have hla : 0 ≤ lane.toInt ∧ lane.toInt < 3 := by
    by_cases hl : 0 ≤ lane.toInt ∧ lane.toInt < 3
    · exact hl
    · have hc : ¬ (if (0 : Int64).toInt ≤ lane.toInt64.toInt ∧ lane.toInt64.toInt ≤ (2 : Int64).toInt then (1 : Int32) else 0).toInt = 0 := hc
      rw [t1, tz, t2, if_neg (by omega)] at hc
      exact absurd rfl hc
  have rest : ¬ (0 ≤ (d.z k.toInt.toNat).toInt ∧ ¬ (d.l k.toInt.toNat).toInt = lane.toInt) → Q12_cell d k i lane h0 (some (.long (d.f (60 * k + i).toInt.toNat).toInt64)) h1 ∨ 0 < (ncell (d.z k.toInt.toNat) i).toInt := by
    intro hr
    by_cases hn : 0 < (ncell (d.z k.toInt.toNat) i).toInt
    · exact Or.inr hn
    · refine Or.inl ?_
      unfold Q12_cell
      rw [if_pos ⟨hk, hla⟩, if_neg hr, if_neg hn]
      exact ⟨rfl, e1⟩
  have fail : ¬ (0 ≤ (d.z k.toInt.toNat).toInt ∧ ¬ (d.l k.toInt.toNat).toInt = lane.toInt) → 0 < (ncell (d.z k.toInt.toNat) i).toInt → Q12_cell d k i lane h0 (some (.long lostL)) (hset h1 d.p (.inr (12, (d.fs.set 0 (.int 0)).set 0 (.int (ncell (d.z k.toInt.toNat) i))))) := by
    intro hr hn
    unfold Q12_cell
    rw [if_pos ⟨hk, hla⟩, if_neg hr, if_pos hn]
    exact ⟨rfl, flt _⟩
  have iC : eI (h1 (rv_ (eG fl_X12 130 (h1 d.p)))) (60 * k + i).toNatClampNeg = d.f (60 * k + i).toInt.toNat := by
    rw [g3]
    show eI (h1 d.aC) _ = _
    rw [hf]
    rfl
  refine ⟨fun ha => ?_, fun ha => ⟨fun hb => ?_, fun hb => ?_⟩⟩
  · have ha : (eI (h1 (rv_ (eG fl_X12 124 (h1 d.p)))) k.toNatClampNeg).toInt < 0 := ha
    rw [iZ] at ha
    have hr : ¬ (0 ≤ (d.z k.toInt.toNat).toInt ∧ ¬ (d.l k.toInt.toNat).toInt = lane.toInt) := fun z => by omega
    intro rv h2 hc2
    obtain ⟨e2, rfl⟩ := hc2 (md_0 d, k, i) rfl hmd
    have e2 : h2 = h1 := e2
    subst h2
    refine ⟨fun hn => ?_, fun hn => ?_⟩
    · have hn : (ncell (d.z k.toInt.toNat) i).toInt ≤ 0 := hn
      show Q12_cell d k i lane h0 (some (.long (eI (h1 (rv_ (eG fl_X12 130 (h1 d.p)))) (60 * k + i).toNatClampNeg).toInt64)) h1
      rw [iC]
      exact (rest hr).resolve_right (by omega)
    · have hn : ¬ (ncell (d.z k.toInt.toNat) i).toInt ≤ 0 := hn
      intro rv h2 hc2
      obtain ⟨e2, rfl⟩ := hc2 (md_0 d, k, i) rfl hmd
      have e2 : h2 = h1 := e2
      subst h2
      intro rv h3 hc3
      obtain ⟨e3, rfl⟩ := hc3 (d.p, ncell (d.z k.toInt.toNat) i, d.fs.set 0 (.int 0)) rfl w1
      rw [e3]
      exact fail hr (by omega)
  · have ha : ¬ (eI (h1 (rv_ (eG fl_X12 124 (h1 d.p)))) k.toNatClampNeg).toInt < 0 := ha
    rw [iZ] at ha
    have hb : (eI (h1 (rv_ (eG fl_X12 127 (h1 d.p)))) k.toNatClampNeg).toInt = lane.toInt := hb
    rw [iL] at hb
    have hr : ¬ (0 ≤ (d.z k.toInt.toNat).toInt ∧ ¬ (d.l k.toInt.toNat).toInt = lane.toInt) := fun z => z.2 hb
    intro rv h2 hc2
    obtain ⟨e2, rfl⟩ := hc2 (md_0 d, k, i) rfl hmd
    have e2 : h2 = h1 := e2
    subst h2
    refine ⟨fun hn => ?_, fun hn => ?_⟩
    · have hn : (ncell (d.z k.toInt.toNat) i).toInt ≤ 0 := hn
      show Q12_cell d k i lane h0 (some (.long (eI (h1 (rv_ (eG fl_X12 130 (h1 d.p)))) (60 * k + i).toNatClampNeg).toInt64)) h1
      rw [iC]
      exact (rest hr).resolve_right (by omega)
    · have hn : ¬ (ncell (d.z k.toInt.toNat) i).toInt ≤ 0 := hn
      intro rv h2 hc2
      obtain ⟨e2, rfl⟩ := hc2 (md_0 d, k, i) rfl hmd
      have e2 : h2 = h1 := e2
      subst h2
      intro rv h3 hc3
      obtain ⟨e3, rfl⟩ := hc3 (d.p, ncell (d.z k.toInt.toNat) i, d.fs.set 0 (.int 0)) rfl w1
      rw [e3]
      exact fail hr (by omega)
  · have ha : ¬ (eI (h1 (rv_ (eG fl_X12 124 (h1 d.p)))) k.toNatClampNeg).toInt < 0 := ha
    rw [iZ] at ha
    have hb : ¬ (eI (h1 (rv_ (eG fl_X12 127 (h1 d.p)))) k.toNatClampNeg).toInt = lane.toInt := hb
    rw [iL] at hb
    intro rv h3 hc3
    obtain ⟨e3, rfl⟩ := hc3 (d.p, 2, d.fs.set 0 (.int 0)) rfl w1
    rw [e3]
    show Q12_cell d k i lane h0 (some (.long lostL)) (hset h1 d.p (.inr (12, (d.fs.set 0 (.int 0)).set 0 (.int 2))))
    unfold Q12_cell
    rw [if_pos ⟨hk, hla⟩, if_pos ⟨by omega, hb⟩]
    exact ⟨rfl, flt 2⟩
end
section
/-! the class's sheets: copy -/
abbrev cpA : Type := (Nat × Int32 × Nat × Int32 × Int32) × (ClassId × Nat × (Nat → Int32)) × (ClassId × Nat × (Nat → Int32))
def P_cpi : fPh := fun As h rv h' => ∀ a : cpA, As = [.ref a.1.1, .int a.1.2.1, .ref a.1.2.2.1, .int a.1.2.2.2.1, .int a.1.2.2.2.2] → h a.1.1 = some (.inl (a.2.1.1, a.2.1.2.1, .inl a.2.1.2.2)) → h a.1.2.2.1 = some (.inl (a.2.2.1, a.2.2.2.1, .inl a.2.2.2.2)) → rv = none ∧ h' = hset h a.1.2.2.1 (.inl (a.2.2.1, a.2.2.2.1, .inl (va_cpy a.2.1.2.2 a.2.2.2.2 a.1.2.1.toNatClampNeg a.1.2.2.2.1.toNatClampNeg a.1.2.2.2.2.toNatClampNeg)))
theorem sp_cpi {T : fT} {key : Nat} (hT : T.2.2.2.2.2.1 key = (5, f_cpi)) : (T.2.2.2.2.2.1 (key, 5, P_cpi).1).1 = (key, 5, P_cpi).2.1 ∧ ∀ (As : List Value) (w : fH) (ws : va_W) (sh : List Nat) (rv : Option Value) (ws' : va_W) (sh' : List Nat), wH w ws sh → (T.2.2.2.2.2.1 (key, 5, P_cpi).1).2 As ws sh rv ws' sh' → ∃ w', wH w' ws' sh' ∧ (key, 5, P_cpi).2.2 As w rv w' := by
  refine ⟨by show (T.2.2.2.2.2.1 key).1 = 5; rw [hT], fun As w ws sh rv ws' sh' hw hx => ?_⟩
  have hx : (T.2.2.2.2.2.1 key).2 As ws sh rv ws' sh' := hx
  rw [hT] at hx
  obtain ⟨a0, a1, sp, dp, n, q0, q1, n0, n1, c0, c1, f, g, rfl, h0, h1, rfl, rfl, rfl⟩ := (show f_cpi As ws sh rv ws' sh' from hx)
  obtain ⟨rfl, hd⟩ := hw
  refine ⟨_, ⟨rfl, hd.set h1⟩, fun a e x0 x1 => ⟨rfl, ?_⟩⟩
  obtain ⟨⟨b0, sp', b1, dp', n'⟩, ⟨d0, m0, f'⟩, ⟨d1, m1, g'⟩⟩ := a
  have e : [Value.ref a0, .int sp, .ref a1, .int dp, .int n] = [.ref b0, .int sp', .ref b1, .int dp', .int n'] := e
  simp only [List.cons.injEq, Value.ref.injEq, Value.int.injEq, and_true] at e
  obtain ⟨rfl, rfl, rfl, rfl, rfl⟩ := e
  have y0 : hof ws a0 = some (.inl (d0, m0, .inl f')) := x0
  have y1 : hof ws a1 = some (.inl (d1, m1, .inl g')) := x1
  rw [hof_at hd h0] at y0
  rw [hof_at hd h1] at y1
  clear x0 x1
  cases y0
  cases y1
  exact hof_set hd h1
def Q11_copy (d : dk_) (k i o j n : Int32) (h : fH) (rv : Option Value) (h' : fH) : Prop :=
  if (0 ≤ k.toInt ∧ k.toInt < 4) ∧ (0 ≤ o.toInt ∧ o.toInt < 4) then
    if (d.l k.toInt.toNat).toInt = -1 ∨ (d.l o.toInt.toNat).toInt = -1 then rv = some (.int (-11)) ∧ h' = hset h d.p (dk_f d 1)
    else if (d.l k.toInt.toNat).toInt = (d.l o.toInt.toNat).toInt then
      if (0 ≤ i.toInt ∧ 0 ≤ j.toInt ∧ 0 ≤ n.toInt) ∧ (i.toInt ≤ (d.z k.toInt.toNat - n).toInt ∧ j.toInt ≤ (d.z o.toInt.toNat - n).toInt) then rv = some (.int n) ∧ h' = hset (hset h d.p (dk_f d 0)) (d.R o.toInt.toNat).1 (.inl ((d.R o.toInt.toNat).2.1, 60, .inl (va_cpy (d.R k.toInt.toNat).2.2 (d.R o.toInt.toNat).2.2 i.toInt.toNat j.toInt.toNat n.toInt.toNat)))
      else rv = some (.int (-13)) ∧ h' = hset h d.p (dk_f d 3)
    else rv = some (.int (-12)) ∧ h' = hset h d.p (dk_f d 2)
  else rv = some (.int (-1)) ∧ h' = hset h d.p (dk_f d 0)
set_option maxHeartbeats 4000000 in
theorem s_X11_copy : f_do r_X11_copy (fun As h rv h' => ∀ a : dk_ × Int32 × Int32 × Int32 × Int32 × Int32, As = [.ref a.1.p, .int a.2.1, .int a.2.2.1, .int a.2.2.2.1, .int a.2.2.2.2.1, .int a.2.2.2.2.2] → dk_at a.1 h → Q11_copy a.1 a.2.1 a.2.2.1 a.2.2.2.1 a.2.2.2.2.1 a.2.2.2.2.2 h rv h') := by
  refine do_ofP (fun a : dk_ × Int32 × Int32 × Int32 × Int32 × Int32 => [.ref a.1.p, .int a.2.1, .int a.2.2.1, .int a.2.2.2.1, .int a.2.2.2.2.1, .int a.2.2.2.2.2]) (fun a h => dk_at a.1 h) (fun a h rv h' => Q11_copy a.1 a.2.1 a.2.2.1 a.2.2.2.1 a.2.2.2.2.1 a.2.2.2.2.2 h rv h')
    [(292, 1, _), (312, 2, _), (1273, 5, P_cpi)] (fun _ _ => []) 100 fo_X11 (List.forall_mem_cons.mpr ⟨sp_one rfl s_X11_isSheet, List.forall_mem_cons.mpr ⟨sp_one rfl s_X11_faulted, List.forall_mem_cons.mpr ⟨sp_cpi rfl, no_sp⟩⟩⟩) k_X11_copy (fun _ _ _ => no_hd) (fun a h0 hp => ?_)
  obtain ⟨d, k, i, o, j, n⟩ := a
  obtain ⟨hp, ⟨hL, hl⟩, ⟨hS, hz⟩, ⟨hC, hg⟩, nLS, hR⟩ := (show dk_at d h0 from hp)
  have pL := ne_of_h hp hl
  have pS := ne_of_h hp hz
  have pC := ne_of_h hp hg
  intro rv h1 hc
  obtain ⟨e1, rfl⟩ := hc k rfl trivial
  have e1 : h1 = hset h0 d.p (sG pl_X11 93 (.int 0) (h0 d.p)) := e1
  have e1 : h1 = hset h0 d.p (dk_f d 0) := by
    rw [e1, hp]
    rfl
  have w1 : h1 d.p = some (dk_f d 0) := by rw [e1, hset_at]
  have w2 : h1 d.aL = some (.inl (d.cL, 4, .inl d.l)) := by rw [e1, hset_ne pL, hl]
  have w3 : h1 d.aS = some (.inl (d.cS, 4, .inl d.z)) := by rw [e1, hset_ne pS, hz]
  have w4 : h1 d.aC = some (.inl (d.cC, 4, .inr (.inr (.inr (.inr d.g))))) := by rw [e1, hset_ne pC, hg]
  have g1 : eG fl_X11 77 (h1 d.p) = .ref d.aL := by
    rw [w1, ← hL]
    exact getD_set_ne (by decide)
  have g2 : eG fl_X11 87 (h1 d.p) = .ref d.aS := by
    rw [w1, ← hS]
    exact getD_set_ne (by decide)
  have g3 : eG fl_X11 74 (h1 d.p) = .ref d.aC := by
    rw [w1, ← hC]
    exact getD_set_ne (by decide)
  have iL : ∀ k : Int32, eI (h1 (rv_ (eG fl_X11 77 (h1 d.p)))) k.toNatClampNeg = d.l k.toInt.toNat := by
    intro k
    rw [g1]
    show eI (h1 d.aL) _ = _
    rw [w2]
    rfl
  have iS : ∀ k : Int32, eI (h1 (rv_ (eG fl_X11 87 (h1 d.p)))) k.toNatClampNeg = d.z k.toInt.toNat := by
    intro k
    rw [g2]
    show eI (h1 d.aS) _ = _
    rw [w3]
    rfl
  have flt : ∀ (x : Int32) (rv : Option Value) (h3 : fH), (∀ a : Nat × Int32 × List Value, [Value.ref d.p, .int x] = [.ref a.1, .int a.2.1] → h1 a.1 = some (.inr (11, a.2.2)) → h3 = hset h1 a.1 (.inr (11, a.2.2.set 14 (.int a.2.1))) ∧ rv = some (.int (Int32.ofInt (-10) - a.2.1))) → rv = some (.int (Int32.ofInt (-10) - x)) ∧ h3 = hset h0 d.p (dk_f d x) := by
    intro x rv h3 hc
    obtain ⟨e3, e4⟩ := hc (d.p, x, d.fs.set 14 (.int 0)) rfl w1
    refine ⟨e4, ?_⟩
    rw [e3, e1, hset_hset, List.set_set]
    rfl
  have bad : ¬ ((0 ≤ k.toInt ∧ k.toInt < 4) ∧ (0 ≤ o.toInt ∧ o.toInt < 4)) → Q11_copy d k i o j n h0 (some (.int (-1))) h1 := by
    intro hb
    unfold Q11_copy
    rw [if_neg hb]
    exact ⟨rfl, e1⟩
  refine ⟨fun hc => ?_, fun hc => ?_⟩
  · have hk : ¬ (0 ≤ k.toInt ∧ k.toInt < 4) := by
      intro hk
      have hc : (if 0 ≤ k.toInt ∧ k.toInt < 4 then (1 : Int32) else 0).toInt = 0 := hc
      rw [if_pos hk] at hc
      exact absurd hc (by decide)
    exact bad (fun z => hk z.1)
  have hk : 0 ≤ k.toInt ∧ k.toInt < 4 := by
    by_cases hk : 0 ≤ k.toInt ∧ k.toInt < 4
    · exact hk
    · have hc : ¬ (if 0 ≤ k.toInt ∧ k.toInt < 4 then (1 : Int32) else 0).toInt = 0 := hc
      rw [if_neg hk] at hc
      exact absurd rfl hc
  intro rv h2 hc
  obtain ⟨e2, rfl⟩ := hc o rfl trivial
  have e2 : h2 = h1 := e2
  subst h2
  refine ⟨fun hc => ?_, fun hc => ?_⟩
  rotate_left
  · have ho : ¬ (0 ≤ o.toInt ∧ o.toInt < 4) := by
      intro ho
      have hc : ¬ ¬ (if 0 ≤ o.toInt ∧ o.toInt < 4 then (1 : Int32) else 0).toInt = 0 := hc
      rw [if_pos ho] at hc
      exact hc (by decide)
    exact bad (fun z => ho z.2)
  have ho : 0 ≤ o.toInt ∧ o.toInt < 4 := by
    by_cases ho : 0 ≤ o.toInt ∧ o.toInt < 4
    · exact ho
    · have hc : ¬ (if 0 ≤ o.toInt ∧ o.toInt < 4 then (1 : Int32) else 0).toInt = 0 := hc
      rw [if_neg ho] at hc
      exact absurd rfl hc
  have nul : ((d.l k.toInt.toNat).toInt = -1 ∨ (d.l o.toInt.toNat).toInt = -1) → ∀ h3 : fH, h3 = hset h0 d.p (dk_f d 1) → Q11_copy d k i o j n h0 (some (.int (Int32.ofInt (-10) - 1))) h3 := by
    intro hx h3 e3
    unfold Q11_copy
    rw [if_pos ⟨hk, ho⟩, if_pos hx]
    exact ⟨f10_1, e3⟩
  refine ⟨fun ha => ?_, fun ha => ?_⟩
  · have ha : (eI (h1 (rv_ (eG fl_X11 77 (h1 d.p)))) k.toNatClampNeg).toInt = (Int32.ofInt (-1)).toInt := ha
    rw [iL] at ha
    intro rv h3 hc
    obtain ⟨rfl, e3⟩ := flt 1 rv h3 hc
    exact nul (Or.inl ha) h3 e3
  have ha : ¬ (eI (h1 (rv_ (eG fl_X11 77 (h1 d.p)))) k.toNatClampNeg).toInt = (Int32.ofInt (-1)).toInt := ha
  rw [iL] at ha
  have ha : ¬ (d.l k.toInt.toNat).toInt = -1 := ha
  refine ⟨fun hb => ?_, fun hb => ?_⟩
  rotate_left
  · have hb : ¬ ¬ (eI (h1 (rv_ (eG fl_X11 77 (h1 d.p)))) o.toNatClampNeg).toInt = (Int32.ofInt (-1)).toInt := hb
    rw [iL] at hb
    intro rv h3 hc
    obtain ⟨rfl, e3⟩ := flt 1 rv h3 hc
    exact nul (Or.inr (Classical.not_not.mp hb)) h3 e3
  have hb : ¬ (eI (h1 (rv_ (eG fl_X11 77 (h1 d.p)))) o.toNatClampNeg).toInt = (Int32.ofInt (-1)).toInt := hb
  rw [iL] at hb
  have hb : ¬ (d.l o.toInt.toNat).toInt = -1 := hb
  have nn : ¬ ((d.l k.toInt.toNat).toInt = -1 ∨ (d.l o.toInt.toNat).toInt = -1) := fun z => z.elim ha hb
  refine ⟨fun hm => ?_, fun hm => ?_⟩
  rotate_left
  · have hm : ¬ (eI (h1 (rv_ (eG fl_X11 77 (h1 d.p)))) k.toNatClampNeg).toInt = (eI (h1 (rv_ (eG fl_X11 77 (h1 d.p)))) o.toNatClampNeg).toInt := hm
    rw [iL, iL] at hm
    intro rv h3 hc
    obtain ⟨rfl, e3⟩ := flt 2 rv h3 hc
    show Q11_copy d k i o j n h0 _ h3
    unfold Q11_copy
    rw [if_pos ⟨hk, ho⟩, if_neg nn, if_neg hm]
    exact ⟨f10_2, e3⟩
  have hm : (eI (h1 (rv_ (eG fl_X11 77 (h1 d.p)))) k.toNatClampNeg).toInt = (eI (h1 (rv_ (eG fl_X11 77 (h1 d.p)))) o.toNatClampNeg).toInt := hm
  rw [iL, iL] at hm
  have out : ¬ ((0 ≤ i.toInt ∧ 0 ≤ j.toInt ∧ 0 ≤ n.toInt) ∧ (i.toInt ≤ (d.z k.toInt.toNat - n).toInt ∧ j.toInt ≤ (d.z o.toInt.toNat - n).toInt)) → ∀ h3 : fH, h3 = hset h0 d.p (dk_f d 3) → Q11_copy d k i o j n h0 (some (.int (Int32.ofInt (-10) - 3))) h3 := by
    intro hx h3 e3
    unfold Q11_copy
    rw [if_pos ⟨hk, ho⟩, if_neg nn, if_pos hm, if_neg hx]
    exact ⟨f10_3, e3⟩
  refine ⟨fun hi => ?_, fun hi => ?_⟩
  · have hi : i.toInt < 0 := hi
    intro rv h3 hc
    obtain ⟨rfl, e3⟩ := flt 3 rv h3 hc
    exact out (fun z => by omega) h3 e3
  have hi : ¬ i.toInt < 0 := hi
  refine ⟨fun hj => ?_, fun hj => ?_⟩
  · have hj : j.toInt < 0 := hj
    intro rv h3 hc
    obtain ⟨rfl, e3⟩ := flt 3 rv h3 hc
    exact out (fun z => by omega) h3 e3
  have hj : ¬ j.toInt < 0 := hj
  refine ⟨fun hn => ?_, fun hn => ?_⟩
  rotate_left
  · have hn : ¬ 0 ≤ n.toInt := hn
    intro rv h3 hc
    obtain ⟨rfl, e3⟩ := flt 3 rv h3 hc
    exact out (fun z => hn z.1.2.2) h3 e3
  have hn : 0 ≤ n.toInt := hn
  refine ⟨fun hs => ?_, fun hs => ?_⟩
  · have hs : (eI (h1 (rv_ (eG fl_X11 87 (h1 d.p)))) k.toNatClampNeg - n).toInt < i.toInt := hs
    rw [iS] at hs
    intro rv h3 hc
    obtain ⟨rfl, e3⟩ := flt 3 rv h3 hc
    exact out (fun z => by omega) h3 e3
  have hs : ¬ (eI (h1 (rv_ (eG fl_X11 87 (h1 d.p)))) k.toNatClampNeg - n).toInt < i.toInt := hs
  rw [iS] at hs
  refine ⟨fun ht => ?_, fun ht => ?_⟩
  rotate_left
  · have ht : ¬ j.toInt ≤ (eI (h1 (rv_ (eG fl_X11 87 (h1 d.p)))) o.toNatClampNeg - n).toInt := ht
    rw [iS] at ht
    intro rv h3 hc
    obtain ⟨rfl, e3⟩ := flt 3 rv h3 hc
    exact out (fun z => ht z.2.2) h3 e3
  have ht : j.toInt ≤ (eI (h1 (rv_ (eG fl_X11 87 (h1 d.p)))) o.toNatClampNeg - n).toInt := ht
  rw [iS] at ht
  have hR1 : ∀ k : Int32, 0 ≤ k.toInt ∧ k.toInt < 4 → eR (h1 (rv_ (eG fl_X11 74 (h1 d.p)))) k.toNatClampNeg = .ref (d.R k.toInt.toNat).1 ∧ h1 (d.R k.toInt.toNat).1 = some (.inl ((d.R k.toInt.toNat).2.1, 60, .inl (d.R k.toInt.toNat).2.2)) := by
    intro k hk
    obtain ⟨r1, r2, r3, r4⟩ := hR k.toInt.toNat (by omega)
    have rp := ne_of_h hp r2
    refine ⟨?_, by rw [e1, hset_ne rp, r2]⟩
    rw [g3]
    show eR (h1 d.aC) k.toInt.toNat = _
    rw [w4]
    show va_rf (d.g k.toInt.toNat) = _
    rw [r1]
    rfl
  obtain ⟨k1, k2⟩ := hR1 k hk
  obtain ⟨o1, o2⟩ := hR1 o ho
  intro rv h3 hc
  have hc : P_cpi [eR (h1 (rv_ (eG fl_X11 74 (h1 d.p)))) k.toNatClampNeg, .int i, eR (h1 (rv_ (eG fl_X11 74 (h1 d.p)))) o.toNatClampNeg, .int j, .int n] h1 rv h3 := hc
  rw [k1, o1] at hc
  obtain ⟨rfl, e3⟩ := hc (((d.R k.toInt.toNat).1, i, (d.R o.toInt.toNat).1, j, n), ((d.R k.toInt.toNat).2.1, 60, (d.R k.toInt.toNat).2.2), ((d.R o.toInt.toNat).2.1, 60, (d.R o.toInt.toNat).2.2)) rfl k2 o2
  show Q11_copy d k i o j n h0 (some (.int n)) h3
  unfold Q11_copy
  rw [if_pos ⟨hk, ho⟩, if_neg nn, if_pos hm, if_pos ⟨⟨by omega, by omega, hn⟩, by omega, ht⟩]
  refine ⟨rfl, ?_⟩
  rw [e3, e1]
  rfl
end
section
/-! the reference's sheets: copy -/
theorem s_X12_isBeyond : f_do r_X12_isBeyond (fun As h rv h' => ∀ a : Int32 × Int32 × Int32, As = [.int a.1, .long a.2.1.toInt64, .int a.2.2] → True → h' = h ∧ rv = some (.int (if (0 ≤ a.1.toInt ∧ 0 ≤ a.2.1.toInt) ∧ a.1.toInt + a.2.1.toInt ≤ a.2.2.toInt then 0 else 1))) := by
  refine do_ofP (fun a : Int32 × Int32 × Int32 => [.int a.1, .long a.2.1.toInt64, .int a.2.2]) (fun _ _ => True) (fun a h rv h' => h' = h ∧ rv = some (.int (if (0 ≤ a.1.toInt ∧ 0 ≤ a.2.1.toInt) ∧ a.1.toInt + a.2.1.toInt ≤ a.2.2.toInt then 0 else 1))) [] (fun _ _ => []) 40 fo_X12 no_sp k_X12_isBeyond (fun _ _ _ => no_hd) (fun a h0 _ => ?_)
  obtain ⟨i, n, s⟩ := a
  have tn : n.toInt64.toInt = n.toInt := Int32.toInt_toInt64 n
  have tz : (0 : Int64).toInt = 0 := by decide
  have ts : (i.toInt64 + n.toInt64).toInt = i.toInt + n.toInt := by
    have a1 := Int32.toInt_lt i
    have a2 := Int32.le_toInt i
    have a3 := Int32.toInt_lt n
    have a4 := Int32.le_toInt n
    rw [Int64.toInt_add, Int32.toInt_toInt64, Int32.toInt_toInt64]
    exact Int.bmod_eq_of_le (by omega) (by omega)
  have yes : ¬ ((0 ≤ i.toInt ∧ 0 ≤ n.toInt) ∧ i.toInt + n.toInt ≤ s.toInt) → h0 = h0 ∧ some (Value.int 1) = some (Value.int (if (0 ≤ i.toInt ∧ 0 ≤ n.toInt) ∧ i.toInt + n.toInt ≤ s.toInt then 0 else 1)) := by
    intro hx
    rw [if_neg hx]
    exact ⟨rfl, rfl⟩
  refine ⟨fun hc => ?_, fun hc => ⟨fun hd => ?_, fun hd => ⟨fun he => ?_, fun he => ?_⟩⟩⟩
  · have hc : i.toInt < 0 := hc
    exact yes (by omega)
  · have hd : ck_cm .lt (lg_cmp n.toInt64 0).toInt 0 := hd
    have hd : n.toInt64.toInt < (0 : Int64).toInt := ck_cm_lg.mp hd
    exact yes (by omega)
  · have hc : ¬ i.toInt < 0 := hc
    have hd : ¬ ck_cm .lt (lg_cmp n.toInt64 0).toInt 0 := hd
    have hd : ¬ n.toInt64.toInt < (0 : Int64).toInt := fun z => hd (ck_cm_lg.mpr z)
    have he : ck_cm .le (lg_cmp (i.toInt64 + n.toInt64) s.toInt64).toInt 0 := he
    have he : (i.toInt64 + n.toInt64).toInt ≤ s.toInt64.toInt := ck_cm_lg.mp he
    rw [ts, Int32.toInt_toInt64] at he
    refine ⟨rfl, ?_⟩
    show some (Value.int 0) = some (Value.int (if (0 ≤ i.toInt ∧ 0 ≤ n.toInt) ∧ i.toInt + n.toInt ≤ s.toInt then 0 else 1))
    rw [if_pos (by omega)]
  · have he : ¬ ck_cm .le (lg_cmp (i.toInt64 + n.toInt64) s.toInt64).toInt 0 := he
    have he : ¬ (i.toInt64 + n.toInt64).toInt ≤ s.toInt64.toInt := fun z => he (ck_cm_lg.mpr z)
    rw [ts, Int32.toInt_toInt64] at he
    exact yes (by omega)
def mh_at (d : md_) (q : Nat × ClassId × (Nat → Int32)) (h : fH) : Prop := d.fs.getD 67 .null = .ref q.1 ∧ h q.1 = some (.inl (q.2.1, 60, .inl q.2.2)) ∧ q.1 ≠ d.aC
def cp_ok (d : md_) (k i o j n : Int32) : Prop := ((0 ≤ k.toInt ∧ k.toInt < 4) ∧ (0 ≤ o.toInt ∧ o.toInt < 4)) ∧ ((0 ≤ i.toInt ∧ 0 ≤ j.toInt ∧ 0 ≤ n.toInt) ∧ (i.toInt + n.toInt ≤ (d.z k.toInt.toNat).toInt ∧ j.toInt + n.toInt ≤ (d.z o.toInt.toNat).toInt)) ∧ ((d.z k.toInt.toNat).toInt ≤ 60 ∧ (d.z o.toInt.toNat).toInt ≤ 60) ∧ (d.l k.toInt.toNat).toInt = (d.l o.toInt.toNat).toInt
def cp_g (d : md_) (k i : Int32) (t : Nat) (g : Nat → Int32) : Prop := ∀ u, u < t → g u = d.f (60 * k.toInt.toNat + i.toInt.toNat + u)
def cp_f (d : md_) (k i o j : Int32) (t : Nat) (f : Nat → Int32) : Prop := ∀ x, f x = if 60 * o.toInt.toNat + j.toInt.toNat ≤ x ∧ x < 60 * o.toInt.toNat + j.toInt.toNat + t then d.f (60 * k.toInt.toNat + i.toInt.toNat + (x - (60 * o.toInt.toNat + j.toInt.toNat))) else d.f x
def cp_w (d : md_) (q : Nat × ClassId × (Nat → Int32)) (g f : Nat → Int32) (h : fH) : fH := hset (hset h q.1 (.inl (q.2.1, 60, .inl g))) d.aC (.inl (d.cC, 240, .inl f))
def Q12_copy (d : md_) (q : Nat × ClassId × (Nat → Int32)) (k i o j n : Int32) (h : fH) (rv : Option Value) (h' : fH) : Prop :=
  if (0 ≤ k.toInt ∧ k.toInt < 4) ∧ (0 ≤ o.toInt ∧ o.toInt < 4) then
    if (d.z k.toInt.toNat).toInt < 0 ∨ (d.z o.toInt.toNat).toInt < 0 then rv = some (.int (-11)) ∧ h' = hset h d.p (md_f d 1)
    else if (d.l k.toInt.toNat).toInt = (d.l o.toInt.toNat).toInt then
      if (0 ≤ i.toInt ∧ 0 ≤ j.toInt ∧ 0 ≤ n.toInt) ∧ (i.toInt + n.toInt ≤ (d.z k.toInt.toNat).toInt ∧ j.toInt + n.toInt ≤ (d.z o.toInt.toNat).toInt) then rv = some (.int n) ∧ ∃ g f : Nat → Int32, cp_f d k i o j n.toInt.toNat f ∧ h' = hset (cp_w d q g f h) d.p (md_f d 0)
      else rv = some (.int (-13)) ∧ h' = hset h d.p (md_f d 3)
    else rv = some (.int (-12)) ∧ h' = hset h d.p (md_f d 2)
  else rv = some (.int (-1)) ∧ h' = hset h d.p (md_f d 0)
def in_c1 (d : md_) (q : Nat × ClassId × (Nat → Int32)) (k i o j n : Int32) (h0 : fH) : fL_ → List Value → fH → Prop := fun lg vs w => ∃ (t : Int32) (g : Nat → Int32), f_sub [(6, false, .int t), (0, false, .ref d.p), (1, false, .int k), (2, false, .int i), (3, false, .int o), (4, false, .int j), (5, false, .int n)] lg ∧ vs = [] ∧ w = cp_w d q g d.f h0 ∧ cp_ok d k i o j n ∧ 0 ≤ t.toInt ∧ t.toInt ≤ n.toInt ∧ cp_g d k i t.toInt.toNat g
def in_c2 (d : md_) (q : Nat × ClassId × (Nat → Int32)) (k i o j n : Int32) (h0 : fH) : fL_ → List Value → fH → Prop := fun lg vs w => ∃ (t : Int32) (g f : Nat → Int32), f_sub [(6, false, .int t), (0, false, .ref d.p), (1, false, .int k), (2, false, .int i), (3, false, .int o), (4, false, .int j), (5, false, .int n)] lg ∧ vs = [] ∧ w = cp_w d q g f h0 ∧ cp_ok d k i o j n ∧ 0 ≤ t.toInt ∧ t.toInt ≤ n.toInt ∧ cp_g d k i n.toInt.toNat g ∧ cp_f d k i o j t.toInt.toNat f
def in_c0 (d : md_) (k i o j n : Int32) (h0 : fH) : fL_ → List Value → fH → Prop := fun lg vs w => f_sub [(0, false, .ref d.p), (1, false, .int k), (2, false, .int i), (3, false, .int o), (4, false, .int j), (5, false, .int n)] lg ∧ vs = [] ∧ w = h0 ∧ ((0 ≤ k.toInt ∧ k.toInt < 4) ∧ (0 ≤ o.toInt ∧ o.toInt < 4)) ∧ ¬ ((d.z k.toInt.toNat).toInt < 0 ∨ (d.z o.toInt.toNat).toInt < 0) ∧ (d.l k.toInt.toNat).toInt = (d.l o.toInt.toNat).toInt
def in_c8 (d : md_) (k i o j n : Int32) (h0 : fH) : fL_ → List Value → fH → Prop := fun lg vs w => in_c0 d k i o j n h0 lg vs w ∧ ((0 ≤ i.toInt ∧ 0 ≤ n.toInt) ∧ i.toInt + n.toInt ≤ (d.z k.toInt.toNat).toInt)
abbrev cpM : Type := (md_ × (Nat × ClassId × (Nat → Int32))) × Int32 × Int32 × Int32 × Int32 × Int32
def cp_F (a : cpM) : List Value := [.ref a.1.1.p, .int a.2.1, .int a.2.2.1, .int a.2.2.2.1, .int a.2.2.2.2.1, .int a.2.2.2.2.2]
def cp_P (a : cpM) (h : fH) : Prop := md_at a.1.1 h ∧ mh_at a.1.1 a.1.2 h ∧ ∀ x, x < 4 → (a.1.1.z x).toInt ≤ 60
def cp_Q (a : cpM) (h : fH) (rv : Option Value) (h' : fH) : Prop := Q12_copy a.1.1 a.1.2 a.2.1 a.2.2.1 a.2.2.2.1 a.2.2.2.2.1 a.2.2.2.2.2 h rv h'
/-- what the loops see -/
theorem cp_see {d : md_} {q : Nat × ClassId × (Nat → Int32)} {h0 : fH} (hd : md_at d h0) (hq : mh_at d q h0) (g f : Nat → Int32) : cp_w d q g f h0 d.p = some (.inr (12, d.fs)) ∧ cp_w d q g f h0 q.1 = some (.inl (q.2.1, 60, .inl g)) ∧ cp_w d q g f h0 d.aC = some (.inl (d.cC, 240, .inl f)) ∧ eG fl_X12 130 (cp_w d q g f h0 d.p) = .ref d.aC ∧ eG fl_X12 133 (cp_w d q g f h0 d.p) = .ref q.1 := by
  obtain ⟨hp, -, -, ⟨hC, hf⟩, -⟩ := hd
  obtain ⟨hH, hh, nC⟩ := hq
  have pC := ne_of_h hp hf
  have pH := ne_of_h hp hh
  have e1 : cp_w d q g f h0 d.p = some (.inr (12, d.fs)) := by
    unfold cp_w
    rw [hset_ne (Ne.symm pC), hset_ne (Ne.symm pH), hp]
  refine ⟨e1, ?_, hset_at, ?_, ?_⟩
  · unfold cp_w
    rw [hset_ne nC, hset_at]
  · rw [e1, ← hC]
    rfl
  · rw [e1, ← hH]
    rfl
theorem cp_ix {k i t : Int32} (h1 : 0 ≤ k.toInt ∧ k.toInt < 4) (h2 : 0 ≤ i.toInt) (h3 : 0 ≤ t.toInt) (h4 : i.toInt + t.toInt ≤ 60) : (60 * k + i + t).toInt = 60 * k.toInt + i.toInt + t.toInt := by
  have e60 : (60 : Int32).toInt = 60 := by decide
  have m1 : (60 * k).toInt = 60 * k.toInt := by
    rw [i_mul (by rw [e60]; omega) (by rw [e60]; omega), e60]
  have m2 : (60 * k + i).toInt = 60 * k.toInt + i.toInt := by
    rw [i_add (by rw [m1]; omega) (by rw [m1]; omega), m1]
  rw [i_add (by rw [m2]; omega) (by rw [m2]; omega), m2]
def Pi_noSheet : fPh := fun As h rv h' => ∀ k : Int32, As = [.int k] → True → h' = h ∧ rv = some (.int (if 0 ≤ k.toInt ∧ k.toInt < 4 then 0 else 1))
def Pi_refused : fPh := fun As h rv h' => ∀ a : Nat × Int32 × List Value, As = [.ref a.1, .int a.2.1] → h a.1 = some (.inr (12, a.2.2)) → h' = hset h a.1 (.inr (12, a.2.2.set 0 (.int 0))) ∧ rv = some (.int a.2.1)
def Pi_failed : fPh := fun As h rv h' => ∀ a : Nat × Int32 × List Value, As = [.ref a.1, .int a.2.1] → h a.1 = some (.inr (12, a.2.2)) → h' = hset h a.1 (.inr (12, a.2.2.set 0 (.int a.2.1))) ∧ rv = some (.int (Int32.ofInt (-10) - a.2.1))
def Pi_isBeyond : fPh := fun As h rv h' => ∀ a : Int32 × Int32 × Int32, As = [.int a.1, .long a.2.1.toInt64, .int a.2.2] → True → h' = h ∧ rv = some (.int (if (0 ≤ a.1.toInt ∧ 0 ≤ a.2.1.toInt) ∧ a.1.toInt + a.2.1.toInt ≤ a.2.2.toInt then 0 else 1))
def SpC : fP fH := [(604, 1, Pi_noSheet), (615, 2, Pi_refused), (630, 2, Pi_failed), (640, 3, Pi_isBeyond)]
theorem SpC_ok : f_sp T_X12_copy SpC wH := List.forall_mem_cons.mpr ⟨sp_one rfl (show f_do r_X12_noSheet Pi_noSheet from s_X12_noSheet), List.forall_mem_cons.mpr ⟨sp_one rfl (show f_do r_X12_refused Pi_refused from s_X12_refused), List.forall_mem_cons.mpr ⟨sp_one rfl (show f_do r_X12_failed Pi_failed from s_X12_failed), List.forall_mem_cons.mpr ⟨sp_one rfl (show f_do r_X12_isBeyond Pi_isBeyond from s_X12_isBeyond), no_sp⟩⟩⟩⟩
def hdC (a : cpM) (h : fH) : fI fH := [(65, in_c0 a.1.1 a.2.1 a.2.2.1 a.2.2.2.1 a.2.2.2.2.1 a.2.2.2.2.2 h), (81, in_c8 a.1.1 a.2.1 a.2.2.1 a.2.2.2.1 a.2.2.2.2.1 a.2.2.2.2.2 h), (107, in_c1 a.1.1 a.1.2 a.2.1 a.2.2.1 a.2.2.2.1 a.2.2.2.2.1 a.2.2.2.2.2 h), (144, in_c2 a.1.1 a.1.2 a.2.1 a.2.2.1 a.2.2.2.1 a.2.2.2.2.1 a.2.2.2.2.2 h)]
set_option maxHeartbeats 4000000 in
theorem cp_h1 {d : md_} {q : Nat × ClassId × (Nat → Int32)} {k i o j n : Int32} {h0 : fH} (hd : md_at d h0) (hq : mh_at d q h0) : ∀ (lg : fL_) (vs : List Value) (w : fH), in_c1 d q k i o j n h0 lg vs w → ∃ (L : fL_) (f : Nat), f_sub L lg ∧ wh oH T_X12_copy SpC (cp_Q ((d, q), k, i, o, j, n) h0) K_X12_copy (hdC ((d, q), k, i, o, j, n) h0) f 107 L vs w := by
  rintro lg vs w ⟨t, g, hs, rfl, ew, hok, t0, t1, hg⟩
  have ew : w = cp_w d q g d.f h0 := ew
  have hok : cp_ok d k i o j n := hok
  have t1 : t.toInt ≤ n.toInt := t1
  have hg : cp_g d k i t.toInt.toNat g := hg
  obtain ⟨⟨hk, ho⟩, ⟨⟨i0, j0, n0⟩, b1, b2⟩, ⟨c1, c2⟩, hl⟩ := id hok
  obtain ⟨s1, s2, s3, s4, s5⟩ := cp_see hd hq g d.f
  rw [← ew] at s1 s2 s3 s4 s5
  have e0 : (0 : Int32).toInt = 0 := by decide
  refine ⟨_, 60, hs, fun hc => ?_, fun hc => ?_⟩
  · have hc : n.toInt ≤ t.toInt := hc
    have et : t.toInt = n.toInt := by omega
    rw [et] at hg
    refine ⟨0, g, d.f, ⟨rfl, rfl, rfl, rfl, rfl, rfl, rfl, trivial⟩, rfl, ew, hok, by decide, (show (0 : Int32).toInt ≤ n.toInt by rw [e0]; exact n0), hg, fun x => ?_⟩
    rw [e0, if_neg (by omega)]
  · have hc : ¬ n.toInt ≤ t.toInt := hc
    have m3 : (t + 1).toInt = t.toInt + 1 := i_inc t0 (by omega)
    have m4 := cp_ix (t := t) hk i0 t0 (by omega)
    refine ⟨t + 1, upd g t.toInt.toNat (d.f (60 * k + i + t).toInt.toNat), ⟨rfl, rfl, rfl, rfl, rfl, rfl, rfl, trivial⟩, rfl, ?_, hok, (show 0 ≤ (t + 1).toInt by omega), (show (t + 1).toInt ≤ n.toInt by omega), fun u hu => ?_⟩
    · show hset w (rv_ (eG fl_X12 133 (w d.p))) (sI t.toNatClampNeg (eI (w (rv_ (eG fl_X12 130 (w d.p)))) (60 * k + i + t).toNatClampNeg) (w (rv_ (eG fl_X12 133 (w d.p))))) = cp_w d q (upd g t.toInt.toNat (d.f (60 * k + i + t).toInt.toNat)) d.f h0
      rw [s4, s5]
      show hset w q.1 (sI t.toNatClampNeg (eI (w d.aC) (60 * k + i + t).toNatClampNeg) (w q.1)) = _
      rw [s2, s3, ew]
      have nC : q.1 ≠ d.aC := hq.2.2
      funext x
      unfold cp_w hset
      by_cases x1 : x = q.1
      · subst x1
        rw [if_pos rfl, if_neg nC, if_pos rfl]
        rfl
      · rw [if_neg x1]
        by_cases x2 : x = d.aC
        · rw [if_pos x2, if_pos x2]
        · rw [if_neg x2, if_neg x2, if_neg x1, if_neg x1]
    · have hu : u < (t + 1).toInt.toNat := hu
      show upd g t.toInt.toNat (d.f (60 * k + i + t).toInt.toNat) u = d.f (60 * k.toInt.toNat + i.toInt.toNat + u)
      by_cases eu : u = t.toInt.toNat
      · rw [eu, upd_at, m4]
        congr 1
        omega
      · rw [upd_ne eu]
        exact hg u (by omega)
set_option maxHeartbeats 4000000 in
theorem cp_h2 {d : md_} {q : Nat × ClassId × (Nat → Int32)} {k i o j n : Int32} {h0 : fH} (hd : md_at d h0) (hq : mh_at d q h0) : ∀ (lg : fL_) (vs : List Value) (w : fH), in_c2 d q k i o j n h0 lg vs w → ∃ (L : fL_) (f : Nat), f_sub L lg ∧ wh oH T_X12_copy SpC (cp_Q ((d, q), k, i, o, j, n) h0) K_X12_copy (hdC ((d, q), k, i, o, j, n) h0) f 144 L vs w := by
  rintro lg vs w ⟨t, g, f, hs, rfl, ew, hok, t0, t1, hg, hf⟩
  have ew : w = cp_w d q g f h0 := ew
  have hok : cp_ok d k i o j n := hok
  have t1 : t.toInt ≤ n.toInt := t1
  have hg : cp_g d k i n.toInt.toNat g := hg
  have hf : cp_f d k i o j t.toInt.toNat f := hf
  obtain ⟨⟨hk, ho⟩, ⟨⟨i0, j0, n0⟩, b1, b2⟩, ⟨c1, c2⟩, hl⟩ := id hok
  obtain ⟨s1, s2, s3, s4, s5⟩ := cp_see hd hq g f
  rw [← ew] at s1 s2 s3 s4 s5
  refine ⟨_, 60, hs, fun hc => ?_, fun hc => ?_⟩
  · have hc : n.toInt ≤ t.toInt := hc
    have et : t.toInt = n.toInt := by omega
    rw [et] at hf
    intro rv h3 hc3
    obtain ⟨e3, rfl⟩ := hc3 (d.p, n, d.fs) rfl s1
    have e3 : h3 = hset w d.p (md_f d 0) := e3
    show Q12_copy d q k i o j n h0 _ h3
    unfold Q12_copy
    rw [if_pos ⟨hk, ho⟩, if_neg (by omega), if_pos hl, if_pos ⟨⟨i0, j0, n0⟩, b1, b2⟩]
    refine ⟨rfl, g, f, hf, ?_⟩
    rw [e3, ew]
  · have hc : ¬ n.toInt ≤ t.toInt := hc
    have m3 : (t + 1).toInt = t.toInt + 1 := i_inc t0 (by omega)
    have m4 := cp_ix (t := t) ho j0 t0 (by omega)
    refine ⟨t + 1, g, upd f (60 * o + j + t).toInt.toNat (g t.toInt.toNat), ⟨rfl, rfl, rfl, rfl, rfl, rfl, rfl, trivial⟩, rfl, ?_, hok, (show 0 ≤ (t + 1).toInt by omega), (show (t + 1).toInt ≤ n.toInt by omega), hg, fun x => ?_⟩
    · show hset w (rv_ (eG fl_X12 130 (w d.p))) (sI (60 * o + j + t).toNatClampNeg (eI (w (rv_ (eG fl_X12 133 (w d.p)))) t.toNatClampNeg) (w (rv_ (eG fl_X12 130 (w d.p))))) = cp_w d q g (upd f (60 * o + j + t).toInt.toNat (g t.toInt.toNat)) h0
      rw [s4, s5]
      show hset w d.aC (sI (60 * o + j + t).toNatClampNeg (eI (w q.1) t.toNatClampNeg) (w d.aC)) = _
      rw [s2, s3, ew]
      exact hset_hset
    · show upd f (60 * o + j + t).toInt.toNat (g t.toInt.toNat) x = if 60 * o.toInt.toNat + j.toInt.toNat ≤ x ∧ x < 60 * o.toInt.toNat + j.toInt.toNat + (t + 1).toInt.toNat then d.f (60 * k.toInt.toNat + i.toInt.toNat + (x - (60 * o.toInt.toNat + j.toInt.toNat))) else d.f x
      rw [m3, m4]
      by_cases ex : x = (60 * o.toInt + j.toInt + t.toInt).toNat
      · rw [if_pos (by omega), ex, upd_at, hg t.toInt.toNat (by omega)]
        congr 1
        omega
      · rw [upd_ne ex, hf x]
        by_cases hx : 60 * o.toInt.toNat + j.toInt.toNat ≤ x ∧ x < 60 * o.toInt.toNat + j.toInt.toNat + t.toInt.toNat
        · rw [if_pos hx, if_pos (by omega)]
        · rw [if_neg hx, if_neg (by omega)]
set_option maxHeartbeats 4000000 in
set_option maxRecDepth 100000 in
theorem cp_en (a : cpM) (h0 : fH) (hp : cp_P a h0) : wl oH T_X12_copy SpC (cp_Q a h0) K_X12_copy (hdC a h0) 66 K_X12_copy 0 (la 0 (cp_F a)) [] h0 := by
  obtain ⟨⟨d, q⟩, k, i, o, j, n⟩ := a
  obtain ⟨hd, hq, h60⟩ := hp
  have hd : md_at d h0 := hd
  have hq : mh_at d q h0 := hq
  have h60 : ∀ x, x < 4 → (d.z x).toInt ≤ 60 := h60
  rw [show la 0 (cp_F ((d, q), k, i, o, j, n)) = [(0, false, .ref d.p), (1, false, .int k), (2, false, .int i), (3, false, .int o), (4, false, .int j), (5, false, .int n)] from rfl]
  obtain ⟨hp, ⟨hZ, hz⟩, ⟨hL, hl⟩, ⟨hC, hf⟩, -⟩ := id hd
  have g1 : eG fl_X12 124 (h0 d.p) = .ref d.aZ := by
    rw [hp, ← hZ]
    rfl
  have g2 : eG fl_X12 127 (h0 d.p) = .ref d.aL := by
    rw [hp, ← hL]
    rfl
  have iZ : ∀ k : Int32, eI (h0 (rv_ (eG fl_X12 124 (h0 d.p)))) k.toNatClampNeg = d.z k.toInt.toNat := by
    intro k
    rw [g1]
    show eI (h0 d.aZ) _ = _
    rw [hz]
    rfl
  have iL : ∀ k : Int32, eI (h0 (rv_ (eG fl_X12 127 (h0 d.p)))) k.toNatClampNeg = d.l k.toInt.toNat := by
    intro k
    rw [g2]
    show eI (h0 d.aL) _ = _
    rw [hl]
    rfl
  have bad : ¬ ((0 ≤ k.toInt ∧ k.toInt < 4) ∧ (0 ≤ o.toInt ∧ o.toInt < 4)) → ∀ (rv : Option Value) (h3 : fH), (∀ a : Nat × Int32 × List Value, [Value.ref d.p, .int (Int32.ofInt (-1))] = [.ref a.1, .int a.2.1] → h0 a.1 = some (.inr (12, a.2.2)) → h3 = hset h0 a.1 (.inr (12, a.2.2.set 0 (.int 0))) ∧ rv = some (.int a.2.1)) → rv = some (.int (-1)) ∧ Q12_copy d q k i o j n h0 (some (.int (-1))) h3 := by
    intro hb rv h3 hc
    obtain ⟨e3, rfl⟩ := hc (d.p, -1, d.fs) rfl hp
    refine ⟨rfl, ?_⟩
    unfold Q12_copy
    rw [if_neg hb]
    exact ⟨rfl, e3⟩
  intro rv h1 hc
  obtain ⟨e1, rfl⟩ := hc k rfl trivial
  have e1 : h1 = h0 := e1
  subst h1
  refine ⟨fun hc => ?_, fun hc => ?_⟩
  · have hk : ¬ (0 ≤ k.toInt ∧ k.toInt < 4) := by
      intro hk
      have hc : ¬ (if 0 ≤ k.toInt ∧ k.toInt < 4 then (0 : Int32) else 1).toInt = 0 := hc
      rw [if_pos hk] at hc
      exact hc (by decide)
    intro rv h3 hc3
    obtain ⟨rfl, hx⟩ := bad (fun z => hk z.1) rv h3 hc3
    exact hx
  have hk : 0 ≤ k.toInt ∧ k.toInt < 4 := by
    by_cases hk : 0 ≤ k.toInt ∧ k.toInt < 4
    · exact hk
    · have hc : ¬ ¬ (if 0 ≤ k.toInt ∧ k.toInt < 4 then (0 : Int32) else 1).toInt = 0 := hc
      rw [if_neg hk] at hc
      exact absurd (by decide) hc
  intro rv h2 hc
  obtain ⟨e2, rfl⟩ := hc o rfl trivial
  have e2 : h2 = h0 := e2
  subst h2
  refine ⟨fun hc => ?_, fun hc => ?_⟩
  rotate_left
  · have ho : ¬ (0 ≤ o.toInt ∧ o.toInt < 4) := by
      intro ho
      have hc : ¬ (if 0 ≤ o.toInt ∧ o.toInt < 4 then (0 : Int32) else 1).toInt = 0 := hc
      rw [if_pos ho] at hc
      exact hc (by decide)
    intro rv h3 hc3
    obtain ⟨rfl, hx⟩ := bad (fun z => ho z.2) rv h3 hc3
    exact hx
  have ho : 0 ≤ o.toInt ∧ o.toInt < 4 := by
    by_cases ho : 0 ≤ o.toInt ∧ o.toInt < 4
    · exact ho
    · have hc : (if 0 ≤ o.toInt ∧ o.toInt < 4 then (0 : Int32) else 1).toInt = 0 := hc
      rw [if_neg ho] at hc
      exact absurd hc (by decide)
  have flt : ∀ (x : Int32) (rv : Option Value) (h3 : fH), (∀ a : Nat × Int32 × List Value, [Value.ref d.p, .int x] = [.ref a.1, .int a.2.1] → h0 a.1 = some (.inr (12, a.2.2)) → h3 = hset h0 a.1 (.inr (12, a.2.2.set 0 (.int a.2.1))) ∧ rv = some (.int (Int32.ofInt (-10) - a.2.1))) → rv = some (.int (Int32.ofInt (-10) - x)) ∧ h3 = hset h0 d.p (md_f d x) := by
    intro x rv h3 hc
    obtain ⟨e3, e4⟩ := hc (d.p, x, d.fs) rfl hp
    exact ⟨e4, e3⟩
  have nul : ((d.z k.toInt.toNat).toInt < 0 ∨ (d.z o.toInt.toNat).toInt < 0) → ∀ h3 : fH, h3 = hset h0 d.p (md_f d 1) → Q12_copy d q k i o j n h0 (some (.int (Int32.ofInt (-10) - 1))) h3 := by
    intro hx h3 e3
    unfold Q12_copy
    rw [if_pos ⟨hk, ho⟩, if_pos hx]
    exact ⟨f10_1, e3⟩
  refine ⟨fun ha => ?_, fun ha => ?_⟩
  · have ha : (eI (h0 (rv_ (eG fl_X12 124 (h0 d.p)))) k.toNatClampNeg).toInt < 0 := ha
    rw [iZ] at ha
    intro rv h3 hc
    obtain ⟨rfl, e3⟩ := flt 1 rv h3 hc
    exact nul (Or.inl ha) h3 e3
  have ha : ¬ (eI (h0 (rv_ (eG fl_X12 124 (h0 d.p)))) k.toNatClampNeg).toInt < 0 := ha
  rw [iZ] at ha
  refine ⟨fun hb => ?_, fun hb => ?_⟩
  rotate_left
  · have hb : ¬ 0 ≤ (eI (h0 (rv_ (eG fl_X12 124 (h0 d.p)))) o.toNatClampNeg).toInt := hb
    rw [iZ] at hb
    intro rv h3 hc
    obtain ⟨rfl, e3⟩ := flt 1 rv h3 hc
    exact nul (Or.inr (by omega)) h3 e3
  have hb : 0 ≤ (eI (h0 (rv_ (eG fl_X12 124 (h0 d.p)))) o.toNatClampNeg).toInt := hb
  rw [iZ] at hb
  have nn : ¬ ((d.z k.toInt.toNat).toInt < 0 ∨ (d.z o.toInt.toNat).toInt < 0) := by omega
  refine ⟨fun hm => ?_, fun hm => ?_⟩
  rotate_left
  · have hm : ¬ (eI (h0 (rv_ (eG fl_X12 127 (h0 d.p)))) k.toNatClampNeg).toInt = (eI (h0 (rv_ (eG fl_X12 127 (h0 d.p)))) o.toNatClampNeg).toInt := hm
    rw [iL, iL] at hm
    intro rv h3 hc
    obtain ⟨rfl, e3⟩ := flt 2 rv h3 hc
    show Q12_copy d q k i o j n h0 _ h3
    unfold Q12_copy
    rw [if_pos ⟨hk, ho⟩, if_neg nn, if_neg hm]
    exact ⟨f10_2, e3⟩
  have hm : (eI (h0 (rv_ (eG fl_X12 127 (h0 d.p)))) k.toNatClampNeg).toInt = (eI (h0 (rv_ (eG fl_X12 127 (h0 d.p)))) o.toNatClampNeg).toInt := hm
  rw [iL, iL] at hm
  exact ⟨⟨rfl, rfl, rfl, rfl, rfl, rfl, trivial⟩, rfl, rfl, ⟨hk, ho⟩, nn, hm⟩
set_option maxHeartbeats 4000000 in
set_option maxRecDepth 100000 in
theorem cp_h0 {d : md_} {q : Nat × ClassId × (Nat → Int32)} {k i o j n : Int32} {h0 : fH} (hd : md_at d h0) : ∀ (lg : fL_) (vs : List Value) (w : fH), in_c0 d k i o j n h0 lg vs w → ∃ (L : fL_) (f : Nat), f_sub L lg ∧ wh oH T_X12_copy SpC (cp_Q ((d, q), k, i, o, j, n) h0) K_X12_copy (hdC ((d, q), k, i, o, j, n) h0) f 65 L vs w := by
  rintro lg vs w ⟨hs0, rfl, ew, ⟨hk, ho⟩, nn, hm⟩
  have ew : w = h0 := ew
  subst w
  obtain ⟨hp, ⟨hZ, hz⟩, -, ⟨hC, hf⟩, -⟩ := id hd
  have g1 : eG fl_X12 124 (h0 d.p) = .ref d.aZ := by
    rw [hp, ← hZ]
    rfl
  have iZ : ∀ k : Int32, eI (h0 (rv_ (eG fl_X12 124 (h0 d.p)))) k.toNatClampNeg = d.z k.toInt.toNat := by
    intro k
    rw [g1]
    show eI (h0 d.aZ) _ = _
    rw [hz]
    rfl
  have flt : ∀ (x : Int32) (rv : Option Value) (h3 : fH), (∀ a : Nat × Int32 × List Value, [Value.ref d.p, .int x] = [.ref a.1, .int a.2.1] → h0 a.1 = some (.inr (12, a.2.2)) → h3 = hset h0 a.1 (.inr (12, a.2.2.set 0 (.int a.2.1))) ∧ rv = some (.int (Int32.ofInt (-10) - a.2.1))) → rv = some (.int (Int32.ofInt (-10) - x)) ∧ h3 = hset h0 d.p (md_f d x) := by
    intro x rv h3 hc
    obtain ⟨e3, e4⟩ := hc (d.p, x, d.fs) rfl hp
    exact ⟨e4, e3⟩
  have out : ¬ ((0 ≤ i.toInt ∧ 0 ≤ j.toInt ∧ 0 ≤ n.toInt) ∧ (i.toInt + n.toInt ≤ (d.z k.toInt.toNat).toInt ∧ j.toInt + n.toInt ≤ (d.z o.toInt.toNat).toInt)) → ∀ h3 : fH, h3 = hset h0 d.p (md_f d 3) → Q12_copy d q k i o j n h0 (some (.int (Int32.ofInt (-10) - 3))) h3 := by
    intro hx h3 e3
    unfold Q12_copy
    rw [if_pos ⟨hk, ho⟩, if_neg nn, if_pos hm, if_neg hx]
    exact ⟨f10_3, e3⟩
  refine ⟨_, 60, hs0, ?_⟩
  intro rv h2 hc
  obtain ⟨e2, rfl⟩ := hc (i, n, eI (h0 (rv_ (eG fl_X12 124 (h0 d.p)))) k.toNatClampNeg) rfl trivial
  have e2 : h2 = h0 := e2
  subst h2
  refine ⟨fun hs => ?_, fun hs => ?_⟩
  · have hs : ¬ (if (0 ≤ i.toInt ∧ 0 ≤ n.toInt) ∧ i.toInt + n.toInt ≤ (eI (h0 (rv_ (eG fl_X12 124 (h0 d.p)))) k.toNatClampNeg).toInt then (0 : Int32) else 1).toInt = 0 := hs
    rw [iZ] at hs
    have hs : ¬ ((0 ≤ i.toInt ∧ 0 ≤ n.toInt) ∧ i.toInt + n.toInt ≤ (d.z k.toInt.toNat).toInt) := by
      intro hx
      rw [if_pos hx] at hs
      exact hs (by decide)
    intro rv h3 hc
    obtain ⟨rfl, e3⟩ := flt 3 rv h3 hc
    exact out (fun z => by omega) h3 e3
  have hs : ¬ ¬ (if (0 ≤ i.toInt ∧ 0 ≤ n.toInt) ∧ i.toInt + n.toInt ≤ (eI (h0 (rv_ (eG fl_X12 124 (h0 d.p)))) k.toNatClampNeg).toInt then (0 : Int32) else 1).toInt = 0 := hs
  rw [iZ] at hs
  have hs : (0 ≤ i.toInt ∧ 0 ≤ n.toInt) ∧ i.toInt + n.toInt ≤ (d.z k.toInt.toNat).toInt := by
    by_cases hx : (0 ≤ i.toInt ∧ 0 ≤ n.toInt) ∧ i.toInt + n.toInt ≤ (d.z k.toInt.toNat).toInt
    · exact hx
    · rw [if_neg hx] at hs
      exact absurd (by decide) hs
  exact ⟨⟨⟨rfl, rfl, rfl, rfl, rfl, rfl, trivial⟩, rfl, rfl, ⟨hk, ho⟩, nn, hm⟩, hs⟩
set_option maxHeartbeats 4000000 in
set_option maxRecDepth 100000 in
theorem cp_h8 {d : md_} {q : Nat × ClassId × (Nat → Int32)} {k i o j n : Int32} {h0 : fH} (hd : md_at d h0) (hq : mh_at d q h0) (h60 : ∀ x, x < 4 → (d.z x).toInt ≤ 60) : ∀ (lg : fL_) (vs : List Value) (w : fH), in_c8 d k i o j n h0 lg vs w → ∃ (L : fL_) (f : Nat), f_sub L lg ∧ wh oH T_X12_copy SpC (cp_Q ((d, q), k, i, o, j, n) h0) K_X12_copy (hdC ((d, q), k, i, o, j, n) h0) f 81 L vs w := by
  rintro lg vs w ⟨⟨hs0, rfl, ew, ⟨hk, ho⟩, nn, hm⟩, hs⟩
  have ew : w = h0 := ew
  subst w
  obtain ⟨hp, ⟨hZ, hz⟩, -, ⟨hC, hf⟩, -⟩ := id hd
  have g1 : eG fl_X12 124 (h0 d.p) = .ref d.aZ := by
    rw [hp, ← hZ]
    rfl
  have iZ : ∀ k : Int32, eI (h0 (rv_ (eG fl_X12 124 (h0 d.p)))) k.toNatClampNeg = d.z k.toInt.toNat := by
    intro k
    rw [g1]
    show eI (h0 d.aZ) _ = _
    rw [hz]
    rfl
  have flt : ∀ (x : Int32) (rv : Option Value) (h3 : fH), (∀ a : Nat × Int32 × List Value, [Value.ref d.p, .int x] = [.ref a.1, .int a.2.1] → h0 a.1 = some (.inr (12, a.2.2)) → h3 = hset h0 a.1 (.inr (12, a.2.2.set 0 (.int a.2.1))) ∧ rv = some (.int (Int32.ofInt (-10) - a.2.1))) → rv = some (.int (Int32.ofInt (-10) - x)) ∧ h3 = hset h0 d.p (md_f d x) := by
    intro x rv h3 hc
    obtain ⟨e3, e4⟩ := hc (d.p, x, d.fs) rfl hp
    exact ⟨e4, e3⟩
  have out : ¬ ((0 ≤ i.toInt ∧ 0 ≤ j.toInt ∧ 0 ≤ n.toInt) ∧ (i.toInt + n.toInt ≤ (d.z k.toInt.toNat).toInt ∧ j.toInt + n.toInt ≤ (d.z o.toInt.toNat).toInt)) → ∀ h3 : fH, h3 = hset h0 d.p (md_f d 3) → Q12_copy d q k i o j n h0 (some (.int (Int32.ofInt (-10) - 3))) h3 := by
    intro hx h3 e3
    unfold Q12_copy
    rw [if_pos ⟨hk, ho⟩, if_neg nn, if_pos hm, if_neg hx]
    exact ⟨f10_3, e3⟩
  refine ⟨_, 60, hs0, ?_⟩
  intro rv h2 hc
  obtain ⟨e2, rfl⟩ := hc (j, n, eI (h0 (rv_ (eG fl_X12 124 (h0 d.p)))) o.toNatClampNeg) rfl trivial
  have e2 : h2 = h0 := e2
  subst h2
  refine ⟨fun ht => ?_, fun ht => ?_⟩
  rotate_left
  · have ht : ¬ (if (0 ≤ j.toInt ∧ 0 ≤ n.toInt) ∧ j.toInt + n.toInt ≤ (eI (h0 (rv_ (eG fl_X12 124 (h0 d.p)))) o.toNatClampNeg).toInt then (0 : Int32) else 1).toInt = 0 := ht
    rw [iZ] at ht
    have ht : ¬ ((0 ≤ j.toInt ∧ 0 ≤ n.toInt) ∧ j.toInt + n.toInt ≤ (d.z o.toInt.toNat).toInt) := by
      intro hx
      rw [if_pos hx] at ht
      exact ht (by decide)
    intro rv h3 hc
    obtain ⟨rfl, e3⟩ := flt 3 rv h3 hc
    exact out (fun z => by omega) h3 e3
  have ht : (if (0 ≤ j.toInt ∧ 0 ≤ n.toInt) ∧ j.toInt + n.toInt ≤ (eI (h0 (rv_ (eG fl_X12 124 (h0 d.p)))) o.toNatClampNeg).toInt then (0 : Int32) else 1).toInt = 0 := ht
  rw [iZ] at ht
  have ht : (0 ≤ j.toInt ∧ 0 ≤ n.toInt) ∧ j.toInt + n.toInt ≤ (d.z o.toInt.toNat).toInt := by
    by_cases hx : (0 ≤ j.toInt ∧ 0 ≤ n.toInt) ∧ j.toInt + n.toInt ≤ (d.z o.toInt.toNat).toInt
    · exact hx
    · rw [if_neg hx] at ht
      exact absurd ht (by decide)
  have e0 : (0 : Int32).toInt = 0 := by decide
  have hself : cp_w d q q.2.2 d.f h0 = h0 := by
    unfold cp_w
    rw [hset_self (show h0 q.1 = some (.inl (q.2.1, 60, .inl q.2.2)) from hq.2.1), hset_self hf]
  have hok : cp_ok d k i o j n := ⟨⟨hk, ho⟩, ⟨⟨hs.1.1, ht.1.1, hs.1.2⟩, hs.2, ht.2⟩, ⟨h60 k.toInt.toNat (by omega), h60 o.toInt.toNat (by omega)⟩, hm⟩
  have hle : (0 : Int32).toInt ≤ n.toInt := by rw [e0]; exact hs.1.2
  have hgg : cp_g d k i (0 : Int32).toInt.toNat q.2.2 := fun u hu => by
    rw [e0] at hu
    exact absurd hu (Nat.not_lt_zero _)
  have hfin : in_c1 d q k i o j n h0 [(6, false, .int 0), (0, false, .ref d.p), (1, false, .int k), (2, false, .int i), (3, false, .int o), (4, false, .int j), (5, false, .int n)] [] h0 := ⟨0, q.2.2, ⟨rfl, rfl, rfl, rfl, rfl, rfl, rfl, trivial⟩, rfl, hself.symm, hok, by decide, hle, hgg⟩
  exact hfin
theorem s_X12_copy : f_do r_X12_copy (fun As h rv h' => ∀ a : cpM, As = cp_F a → cp_P a h → cp_Q a h rv h') := by
  refine do_ofP cp_F cp_P cp_Q SpC hdC 66 fo_X12 SpC_ok k_X12_copy (fun a h0 hp => ?_) cp_en
  obtain ⟨⟨d, q⟩, k, i, o, j, n⟩ := a
  obtain ⟨hd, hq, h60⟩ := hp
  exact List.forall_mem_cons.mpr ⟨cp_h0 hd, List.forall_mem_cons.mpr ⟨cp_h8 hd hq h60, List.forall_mem_cons.mpr ⟨cp_h1 hd hq, List.forall_mem_cons.mpr ⟨cp_h2 hd hq, fun _ h => absurd h List.not_mem_nil⟩⟩⟩⟩
end
