/-! specs: tools -/
theorem hset_at {h : fH} {a : Nat} {e : va_E} : hset h a e a = some e := if_pos rfl
theorem hset_ne {h : fH} {a b : Nat} {e : va_E} (hb : b ≠ a) : hset h a e b = h b := if_neg hb
theorem hset_self {h : fH} {a : Nat} {e : va_E} (he : h a = some e) : hset h a e = h := by
  funext b
  unfold hset
  split
  · rename_i eb
    rw [eb, he]
  · rfl
theorem hset_hset {h : fH} {a : Nat} {e e' : va_E} : hset (hset h a e) a e' = hset h a e' := by
  funext b
  unfold hset
  split <;> rfl
theorem do_ofP {α : Type} {TT : List ck_D} {SG : List Nat} {rt : Nat} {Wr : List (Nat × Nat)} {T : fT} {cc : ByteArray} {code : ck_cd} (F : α → List Value) (Pre : α → fH → Prop) (Q : α → fH → Option Value → fH → Prop) (Sp : fP fH) (hd : α → fH → fI fH) (f : Nat) (hT : f_ok T = true) (hS : f_sp T Sp wH) (hcode : ∀ x ∈ code, decode cc x.1 = .ok (x.2.1, x.2.2))
    (hh : ∀ (a : α) (h0 : fH), Pre a h0 → ∀ x ∈ hd a h0, ∀ (lg : fL_) (vs : List Value) (w : fH), x.2 lg vs w → ∃ (L : fL_) (f : Nat), f_sub L lg ∧ wh oH T Sp (Q a h0) code (hd a h0) f x.1 L vs w)
    (h : ∀ (a : α) (h0 : fH), Pre a h0 → wl oH T Sp (Q a h0) code (hd a h0) f code 0 (la 0 (F a)) [] h0) : f_do (fq TT SG rt Wr T cc) (fun As h rv h' => ∀ a : α, As = F a → Pre a h → Q a h rv h') := by
  intro As ws sh rv ws' sh' hx
  refine ⟨hx.2.2.1, fun a e hp => ?_⟩
  subst e
  obtain ⟨wF, h1, h2⟩ := fr_ok oH_ok hT hS hcode (hh a _ hp) hx.1 (la_ok 0 (F a)) ⟨rfl, hx.2.1⟩ (h a _ hp)
  rw [← h1.1]
  exact h2
theorem no_sp {W : Type} {Q : (Nat × Nat × (List Value → W → Option Value → W → Prop)) → Prop} : ∀ x ∈ ([] : fP W), Q x := fun _ h => absurd h List.not_mem_nil
theorem fo_X11 : f_ok5 fl_X11 pl_X11 nw_X11 kl_X11 il_X11 = true := by decide +kernel
theorem fo_X12 : f_ok5 fl_X12 pl_X12 nw_X12 kl_X12 il_X12 = true := by decide +kernel
theorem fo_J7 : f_ok5 fl_J7 pl_J7 nw_J7 kl_J7 il_J7 = true := by decide +kernel
theorem i_add {a b : Int32} (h1 : -2147483648 ≤ a.toInt + b.toInt) (h2 : a.toInt + b.toInt ≤ 2147483647) : (a + b).toInt = a.toInt + b.toInt := by
  rw [Int32.toInt_add]
  exact Int.bmod_eq_of_le (by omega) (by omega)
theorem i_mul {a b : Int32} (h1 : -2147483648 ≤ a.toInt * b.toInt) (h2 : a.toInt * b.toInt ≤ 2147483647) : (a * b).toInt = a.toInt * b.toInt := by
  rw [Int32.toInt_mul]
  exact Int.bmod_eq_of_le (by omega) (by omega)
theorem i_inc {i : Int32} (h0 : 0 ≤ i.toInt) (h : i.toInt < 2147483647) : (i + 1).toInt = i.toInt + 1 := by
  have e : (1 : Int32).toInt = 1 := by decide
  rw [i_add (by rw [e]; omega) (by rw [e]; omega), e]
theorem getD_set_ne {l : List Value} {i j : Nat} {v : Value} (h : i ≠ j) : (l.set i v).getD j .null = l.getD j .null := by
  rw [List.getD_eq_getElem?_getD, List.getD_eq_getElem?_getD, List.getElem?_set_ne h]
theorem upd_at {f : Nat → Int32} {i : Nat} {v : Int32} : upd f i v i = v := if_pos rfl
theorem upd_ne {f : Nat → Int32} {i j : Nat} {v : Int32} (h : j ≠ i) : upd f i v j = f j := if_neg h
theorem f10_1 : some (Value.int (Int32.ofInt (-10) - 1)) = some (Value.int (-11)) := congrArg (fun x => some (Value.int x)) (by decide)
theorem f10_2 : some (Value.int (Int32.ofInt (-10) - 2)) = some (Value.int (-12)) := congrArg (fun x => some (Value.int x)) (by decide)
theorem f10_3 : some (Value.int (Int32.ofInt (-10) - 3)) = some (Value.int (-13)) := congrArg (fun x => some (Value.int x)) (by decide)
theorem f10_4 : some (Value.int (Int32.ofInt (-10) - 4)) = some (Value.int (-14)) := congrArg (fun x => some (Value.int x)) (by decide)
