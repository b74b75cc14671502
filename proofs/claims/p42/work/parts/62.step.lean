noncomputable section
/-- the end's instruction: 0 void 1 int 2 long 3 reference -/
def ck_ri (kd : Nat) : Instr := match kd with
  | 0 => .return_
  | 1 => .ireturn
  | 2 => .lreturn
  | _ => .areturn
def ck_rst (kd : Nat) (S : ck_S) : Prop := match kd with
  | 0 => S.2.1 = []
  | 1 => ∃ v, S.2.1 = [v] ∧ v.1 = 0
  | 2 => ∃ v, S.2.1 = [v] ∧ v.1 = 1
  | _ => ∃ v, S.2.1 = [v] ∧ (v.1 = 2 ∨ (v.1 = 3 ∨ v.1 = 4))
def ck_hk (s : State) (args : Array Value) (own : String) (x : Nat × Nat × Int) : Prop := (x.2.1 = 0 → ∃ v : Int32, v.toInt = x.2.2 ∧ (Cond.constant own x.1 v).before args s = true) ∧ (x.2.1 = 1 → ∃ v : Int64, v.toInt = x.2.2 ∧ (Cond.constantLong own x.1 v).before args s = true)
theorem ck_ik0 (i : Nat) : ck_ik (3 * i) = .invokevirtual i := by
  have h1 : 3 * i % 3 = 0 := by omega
  have h2 : 3 * i / 3 = i := by omega
  unfold ck_ik
  rw [h1, h2]
  rfl
theorem ck_ik1 (i : Nat) : ck_ik (3 * i + 1) = .invokestatic i := by
  have h1 : (3 * i + 1) % 3 = 1 := by omega
  have h2 : (3 * i + 1) / 3 = i := by omega
  unfold ck_ik
  rw [h1, h2]
  rfl
theorem ck_ik2 (i : Nat) : ck_ik (3 * i + 2) = .invokespecial i := by
  have h1 : (3 * i + 2) % 3 = 2 := by omega
  have h2 : (3 * i + 2) / 3 = i := by omega
  unfold ck_ik
  rw [h1, h2]
  rfl
section
variable {p : Program} {l : Launch} {e : Env} {R : Room} {s : State} {m : MethodId} {args : Array Value} {below : List Frame} {meth : Method} {c : Code} {Q : State → Prop} {cc : ByteArray} {own : String} {D : va_G} {cl : List vw_C} {tys : List (ClassId × FieldType)} {M : ck_Me} {sc : ck_sc} {A : Nat → Prop} {ws0 : va_W} {sh0 : List Nat} {Fc : Nat → Nat × fR} {s0 : fS} {kr : Nat → ck_S → Bool} {k : ck_cont} {S : ck_S} {pc : Nat}
theorem ck_step_ok (X : ck_cx p l e R s m args below meth c cc own D cl tys M sc A) (hfl : ∀ x ∈ mfl M, ck_hg s args own cl x) (hpl : ∀ x ∈ mpl M, ck_hp s args own cl (meth.name = "<init>") x) (hnl : ∀ x ∈ mnw M, ck_hn s args own cl (mTT M) x) (hkl : ∀ x ∈ mkl M, ck_hk s args own x) (hil : ∀ x ∈ mil M, ck_hi s args own cl x) (hxl : ∀ x ∈ mxl M, ck_hx s args own cl x) (hal : ∀ x ∈ mal M, ck_ha s tys cl x)
    (hgl : ∀ i ∈ mgl M, ck_hs s args own sc i) (hvl : ∀ x ∈ mvl M, ck_cs Fc s0 p l e R s m args below meth c Q cc D cl tys M sc A x) (hk : ∀ (S : ck_S) (pc : Nat), k S pc = true → ck_g Fc s0 p l e R s m args below meth c Q D cl tys M sc A ws0 sh0 S pc) (hret : ∀ (kd : Nat) (S : ck_S), kr kd S = true → ck_rst kd S → ∀ pc, decode cc pc = .ok (ck_ri kd, 1) → ck_g Fc s0 p l e R s m args below meth c Q D cl tys M sc A ws0 sh0 S pc)
    {ins : Instr} {len : Nat} (h : ck_step M kr k S pc ins len = true) (hdg : decode cc pc = .ok (ins, len)) : ck_g Fc s0 p l e R s m args below meth c Q D cl tys M sc A ws0 sh0 S pc := by
  unfold ck_step at h
  split at h
  · rename_i v
    rw [Bool.and_eq_true] at h
    have el := eq_of_beq h.1
    subst el
    have h := h.2
    rw [Bool.and_eq_true, decide_eq_true_eq] at h
    exact ck_cstI (x := Int32.ofInt v) (Int32.toInt_ofInt_of_le h.1.1 h.1.2) (hk _ _ h.2) (fun ws sh H locs ls vs hW => WG.up (fun hh => lv_iconst X.1 X.2.1 hdg rfl hh) X.2.1 hdg (fun lg => rfl) hW)
  · rename_i v
    rw [Bool.and_eq_true] at h
    have el := eq_of_beq h.1
    subst el
    have h := h.2
    rw [Bool.and_eq_true, decide_eq_true_eq] at h
    exact ck_cstI (x := (Int8.ofInt v).toInt32) (by rw [Int8.toInt_toInt32]; exact Int8.toInt_ofInt_of_le h.1.1 h.1.2) (hk _ _ h.2) (fun ws sh H locs ls vs hW => WG.up (fun hh => lv_bipush X.1 X.2.1 hdg rfl hh) X.2.1 hdg (fun lg => rfl) hW)
  · rename_i v
    rw [Bool.and_eq_true] at h
    have el := eq_of_beq h.1
    subst el
    have h := h.2
    rw [Bool.and_eq_true, decide_eq_true_eq] at h
    exact ck_cstI (x := (Int16.ofInt v).toInt32) (by rw [Int16.toInt_toInt32]; exact Int16.toInt_ofInt_of_le h.1.1 h.1.2) (hk _ _ h.2) (fun ws sh H locs ls vs hW => WG.up (fun hh => lv_sipush X.1 X.2.1 hdg rfl hh) X.2.1 hdg (fun lg => rfl) hW)
  · rename_i v
    rw [Bool.and_eq_true] at h
    have el := eq_of_beq h.1
    subst el
    have h := h.2
    exact ck_cstL (x := Int64.ofNat (v : Nat)) (Int64.toInt_ofNat_of_lt (by have := v.isLt; omega)) (hk _ _ h) (fun ws sh H locs ls vs hW => WG.up (fun hh => lv_lconst X.1 X.2.1 hdg rfl hh) X.2.1 hdg (fun lg => rfl) hW)
  · rw [Bool.and_eq_true] at h
    have el := eq_of_beq h.1
    subst el
    have h := h.2
    split at h
    · rename_i x hfx
      have hm := List.mem_of_find?_eq_some hfx
      have hp := List.find?_some hfx
      rw [Bool.and_eq_true] at hp
      obtain ⟨v, v1, v2⟩ := (hkl x hm).1 (eq_of_beq hp.2)
      rw [eq_of_beq hp.1] at v2
      exact ck_cstI (x := v) v1 (hk _ _ h) (fun ws sh H locs ls vs hW => WG.up (fun hh => lv_ldc X.1 X.2.1 X.2.2.1 v2 hdg hh) X.2.1 hdg (fun lg => ⟨v, by rw [v1, ← eq_of_beq hp.1]; have z : x.2.1 = 0 := eq_of_beq hp.2; rw [← z]; exact hm, rfl⟩) hW)
    · cases h
  · rw [Bool.and_eq_true] at h
    have el := eq_of_beq h.1
    subst el
    have h := h.2
    split at h
    · rename_i x hfx
      have hm := List.mem_of_find?_eq_some hfx
      have hp := List.find?_some hfx
      rw [Bool.and_eq_true] at hp
      obtain ⟨v, v1, v2⟩ := (hkl x hm).1 (eq_of_beq hp.2)
      rw [eq_of_beq hp.1] at v2
      exact ck_cstI (x := v) v1 (hk _ _ h) (fun ws sh H locs ls vs hW => WG.up (fun hh => lv_ldcw X.1 X.2.1 X.2.2.1 v2 hdg hh) X.2.1 hdg (fun lg => ⟨v, by rw [v1, ← eq_of_beq hp.1]; have z : x.2.1 = 0 := eq_of_beq hp.2; rw [← z]; exact hm, rfl⟩) hW)
    · cases h
  · rw [Bool.and_eq_true] at h
    have el := eq_of_beq h.1
    subst el
    have h := h.2
    split at h
    · rename_i x hfx
      have hm := List.mem_of_find?_eq_some hfx
      have hp := List.find?_some hfx
      rw [Bool.and_eq_true] at hp
      obtain ⟨v, v1, v2⟩ := (hkl x hm).2 (eq_of_beq hp.2)
      rw [eq_of_beq hp.1] at v2
      exact ck_cstL (x := v) v1 (hk _ _ h) (fun ws sh H locs ls vs hW => WG.up (fun hh => lv_ldc2 X.1 X.2.1 X.2.2.1 v2 hdg hh) X.2.1 hdg (fun lg => ⟨v, by rw [v1, ← eq_of_beq hp.1]; have z : x.2.1 = 1 := eq_of_beq hp.2; rw [← z]; exact hm, rfl⟩) hW)
    · cases h
  · rw [Bool.and_eq_true] at h
    have el := eq_of_beq h.1
    subst el
    have h := h.2
    exact ck_ld_ok h (fun S hS => hk S _ hS) (fun H locs ls vs av ws sh n N v hok hvo hv hW => by
      obtain ⟨-, x, rfl, -⟩ := hvo.i (eq_of_beq hok)
      exact WG.ld (fun h => lv_iload_n X.1 X.2.1 hdg rfl hv h) hv X.2.1 hdg (fun _ _ h => h) hW)
  · rw [Bool.and_eq_true] at h
    have el := eq_of_beq h.1
    subst el
    have h := h.2
    exact ck_ld_ok h (fun S hS => hk S _ hS) (fun H locs ls vs av ws sh n N v hok hvo hv hW => by
      obtain ⟨-, x, rfl, -⟩ := hvo.i (eq_of_beq hok)
      exact WG.ld (fun h => lv_iload X.1 X.2.1 hdg hv h) hv X.2.1 hdg (fun _ _ h => h) hW)
  · rw [Bool.and_eq_true] at h
    have el := eq_of_beq h.1
    subst el
    have h := h.2
    exact ck_ld_ok h (fun S hS => hk S _ hS) (fun H locs ls vs av ws sh n N v hok hvo hv hW => by
      obtain ⟨-, x, rfl, -⟩ := hvo.j (eq_of_beq hok)
      exact WG.ld (fun h => lv_lload_n X.1 X.2.1 hdg rfl hv h) hv X.2.1 hdg (fun _ _ h => h) hW)
  · rw [Bool.and_eq_true] at h
    have el := eq_of_beq h.1
    subst el
    have h := h.2
    exact ck_ld_ok h (fun S hS => hk S _ hS) (fun H locs ls vs av ws sh n N v hok hvo hv hW => by
      obtain ⟨-, x, rfl, -⟩ := hvo.j (eq_of_beq hok)
      exact WG.ld (fun h => lv_lload X.1 X.2.1 hdg hv h) hv X.2.1 hdg (fun _ _ h => h) hW)
  · rw [Bool.and_eq_true] at h
    have el := eq_of_beq h.1
    subst el
    have h := h.2
    exact ck_ld_ok h (fun S hS => hk S _ hS) (fun H locs ls vs av ws sh n N v hok hvo hv hW => by
      rcases ck_isr_ok hok hvo with rfl | ⟨x, rfl⟩
      · exact WG.ld (fun h => lv_aload_nN X.1 X.2.1 hdg rfl hv h) hv X.2.1 hdg (fun _ _ h => h) hW
      · exact WG.ld (fun h => lv_aload_n X.1 X.2.1 hdg rfl hv h) hv X.2.1 hdg (fun _ _ h => h) hW)
  · rw [Bool.and_eq_true] at h
    have el := eq_of_beq h.1
    subst el
    have h := h.2
    exact ck_ld_ok h (fun S hS => hk S _ hS) (fun H locs ls vs av ws sh n N v hok hvo hv hW => by
      rcases ck_isr_ok hok hvo with rfl | ⟨x, rfl⟩
      · exact WG.ld (fun h => lv_aloadN X.1 X.2.1 hdg hv h) hv X.2.1 hdg (fun _ _ h => h) hW
      · exact WG.ld (fun h => lv_aload X.1 X.2.1 hdg hv h) hv X.2.1 hdg (fun _ _ h => h) hW)
  · rw [Bool.and_eq_true] at h
    have el := eq_of_beq h.1
    subst el
    have h := h.2
    exact ck_sto_ok h (fun v hv => by rw [eq_of_beq hv]; decide) (fun S hS => hk S _ hS) (fun H locs ls vs av ws sh n N v lv hok hvo hl hi kk => by
      obtain ⟨-, x, rfl, -⟩ := hvo.i (eq_of_beq hok)
      exact WG.st hl (fun lv0 h0 _ kk0 => lv_istore_n X.1 X.2.1 hdg rfl h0 hi rfl kk0) X.2.1 hdg (fun _ _ => ⟨_, _, rfl, rfl, rfl⟩) kk)
  · rw [Bool.and_eq_true] at h
    have el := eq_of_beq h.1
    subst el
    have h := h.2
    exact ck_sto_ok h (fun v hv => by rw [eq_of_beq hv]; decide) (fun S hS => hk S _ hS) (fun H locs ls vs av ws sh n N v lv hok hvo hl hi kk => by
      obtain ⟨-, x, rfl, -⟩ := hvo.i (eq_of_beq hok)
      exact WG.st hl (fun lv0 h0 _ kk0 => lv_istore X.1 X.2.1 hdg h0 hi rfl kk0) X.2.1 hdg (fun _ _ => ⟨_, _, rfl, rfl, rfl⟩) kk)
  · rw [Bool.and_eq_true] at h
    have el := eq_of_beq h.1
    subst el
    have h := h.2
    exact ck_sto_ok h (fun v hv => ck_isr_ne hv) (fun S hS => hk S _ hS) (fun H locs ls vs av ws sh n N v lv hok hvo hl hi kk => by
      rcases ck_isr_ok hok hvo with rfl | ⟨x, rfl⟩
      · exact WG.st hl (fun lv0 h0 _ kk0 => lv_astore_nN X.1 X.2.1 hdg rfl h0 hi rfl kk0) X.2.1 hdg (fun _ _ => ⟨_, _, rfl, rfl, rfl⟩) kk
      · exact WG.st hl (fun lv0 h0 _ kk0 => lv_astore_n X.1 X.2.1 hdg rfl h0 hi rfl kk0) X.2.1 hdg (fun _ _ => ⟨_, _, rfl, rfl, rfl⟩) kk)
  · rw [Bool.and_eq_true] at h
    have el := eq_of_beq h.1
    subst el
    have h := h.2
    exact ck_sto_ok h (fun v hv => ck_isr_ne hv) (fun S hS => hk S _ hS) (fun H locs ls vs av ws sh n N v lv hok hvo hl hi kk => by
      rcases ck_isr_ok hok hvo with rfl | ⟨x, rfl⟩
      · exact WG.st hl (fun lv0 h0 _ kk0 => lv_astoreN X.1 X.2.1 hdg h0 hi rfl kk0) X.2.1 hdg (fun _ _ => ⟨_, _, rfl, rfl, rfl⟩) kk
      · exact WG.st hl (fun lv0 h0 _ kk0 => lv_astore X.1 X.2.1 hdg h0 hi rfl kk0) X.2.1 hdg (fun _ _ => ⟨_, _, rfl, rfl, rfl⟩) kk)
  · rw [Bool.and_eq_true] at h
    have el := eq_of_beq h.1
    subst el
    have h := h.2
    exact ck_sto2_ok h (fun S hS => hk S _ hS) (fun ws sh H locs ls vs v lv hl hi kk => WG.st hl (fun lv0 h0 _ kk0 => lv_lstore_n X.1 X.2.1 hdg rfl h0 hi rfl kk0) X.2.1 hdg (fun _ _ => ⟨_, _, rfl, rfl, rfl⟩) kk)
  · rw [Bool.and_eq_true] at h
    have el := eq_of_beq h.1
    subst el
    have h := h.2
    exact ck_sto2_ok h (fun S hS => hk S _ hS) (fun ws sh H locs ls vs v lv hl hi kk => WG.st hl (fun lv0 h0 _ kk0 => lv_lstore X.1 X.2.1 hdg h0 hi rfl kk0) X.2.1 hdg (fun _ _ => ⟨_, _, rfl, rfl, rfl⟩) kk)
  · rw [Bool.and_eq_true] at h
    have el := eq_of_beq h.1
    subst el
    have h := h.2
    exact ck_iinc_ok X h (fun S hS => hk S _ hS) hdg
  · rw [Bool.and_eq_true] at h
    have el := eq_of_beq h.1
    subst el
    have h := h.2
    exact ck_b2i h (fun S hS => hk S _ hS) (fun ws sh H locs ls vs x y _ hW => WG.up (fun hh => lv_iadd X.1 X.2.1 hdg hh) X.2.1 hdg (fun lg => ⟨x, y, _, rfl, rfl⟩) hW)
  · rw [Bool.and_eq_true] at h
    have el := eq_of_beq h.1
    subst el
    have h := h.2
    exact ck_b2i h (fun S hS => hk S _ hS) (fun ws sh H locs ls vs x y _ hW => WG.up (fun hh => lv_isub X.1 X.2.1 hdg hh) X.2.1 hdg (fun lg => ⟨x, y, _, rfl, rfl⟩) hW)
  · rw [Bool.and_eq_true] at h
    have el := eq_of_beq h.1
    subst el
    have h := h.2
    exact ck_b2i h (fun S hS => hk S _ hS) (fun ws sh H locs ls vs x y _ hW => WG.up (fun hh => lv_imul X.1 X.2.1 hdg hh) X.2.1 hdg (fun lg => ⟨x, y, _, rfl, rfl⟩) hW)
  · rw [Bool.and_eq_true] at h
    have el := eq_of_beq h.1
    subst el
    have h := h.2
    exact ck_b2i h (fun S hS => hk S _ hS) (fun ws sh H locs ls vs x y _ hW => WG.up (fun hh => lv_iand X.1 X.2.1 hdg hh) X.2.1 hdg (fun lg => ⟨x, y, _, rfl, rfl⟩) hW)
  · rw [Bool.and_eq_true] at h
    have el := eq_of_beq h.1
    subst el
    have h := h.2
    exact ck_b2i h (fun S hS => hk S _ hS) (fun ws sh H locs ls vs x y _ hW => WG.up (fun hh => lv_ior X.1 X.2.1 hdg hh) X.2.1 hdg (fun lg => ⟨x, y, _, rfl, rfl⟩) hW)
  · rw [Bool.and_eq_true] at h
    have el := eq_of_beq h.1
    subst el
    have h := h.2
    exact ck_b2i h (fun S hS => hk S _ hS) (fun ws sh H locs ls vs x y _ hW => WG.up (fun hh => lv_ixor X.1 X.2.1 hdg hh) X.2.1 hdg (fun lg => ⟨x, y, _, rfl, rfl⟩) hW)
  · rw [Bool.and_eq_true] at h
    have el := eq_of_beq h.1
    subst el
    have h := h.2
    exact ck_b2i h (fun S hS => hk S _ hS) (fun ws sh H locs ls vs x y _ hW => WG.up (fun hh => lv_ishl X.1 X.2.1 hdg hh) X.2.1 hdg (fun lg => ⟨x, y, _, rfl, rfl⟩) hW)
  · rw [Bool.and_eq_true] at h
    have el := eq_of_beq h.1
    subst el
    have h := h.2
    exact ck_b2i h (fun S hS => hk S _ hS) (fun ws sh H locs ls vs x y _ hW => WG.up (fun hh => lv_ishr X.1 X.2.1 hdg hh) X.2.1 hdg (fun lg => ⟨x, y, _, rfl, rfl⟩) hW)
  · rw [Bool.and_eq_true] at h
    have el := eq_of_beq h.1
    subst el
    have h := h.2
    exact ck_b2l (by decide) h (fun S hS => hk S _ hS) (fun ws sh H locs ls vs x y hW => WG.up (fun hh => lv_ladd X.1 X.2.1 hdg hh) X.2.1 hdg (fun lg => ⟨x, y, _, rfl, rfl⟩) hW)
  · rw [Bool.and_eq_true] at h
    have el := eq_of_beq h.1
    subst el
    have h := h.2
    exact ck_b2l (by decide) h (fun S hS => hk S _ hS) (fun ws sh H locs ls vs x y hW => WG.up (fun hh => lv_lsub X.1 X.2.1 hdg hh) X.2.1 hdg (fun lg => ⟨x, y, _, rfl, rfl⟩) hW)
  · rw [Bool.and_eq_true] at h
    have el := eq_of_beq h.1
    subst el
    have h := h.2
    exact ck_b2l (by decide) h (fun S hS => hk S _ hS) (fun ws sh H locs ls vs x y hW => WG.up (fun hh => lv_lmul X.1 X.2.1 hdg hh) X.2.1 hdg (fun lg => ⟨x, y, _, rfl, rfl⟩) hW)
  · rw [Bool.and_eq_true] at h
    have el := eq_of_beq h.1
    subst el
    have h := h.2
    exact ck_b2l (by decide) h (fun S hS => hk S _ hS) (fun ws sh H locs ls vs x y hW => WG.up (fun hh => lv_land X.1 X.2.1 hdg hh) X.2.1 hdg (fun lg => ⟨x, y, _, rfl, rfl⟩) hW)
  · rw [Bool.and_eq_true] at h
    have el := eq_of_beq h.1
    subst el
    have h := h.2
    exact ck_b2l (by decide) h (fun S hS => hk S _ hS) (fun ws sh H locs ls vs x y hW => WG.up (fun hh => lv_lor X.1 X.2.1 hdg hh) X.2.1 hdg (fun lg => ⟨x, y, _, rfl, rfl⟩) hW)
  · rw [Bool.and_eq_true] at h
    have el := eq_of_beq h.1
    subst el
    have h := h.2
    exact ck_b2l (by decide) h (fun S hS => hk S _ hS) (fun ws sh H locs ls vs x y hW => WG.up (fun hh => lv_lxor X.1 X.2.1 hdg hh) X.2.1 hdg (fun lg => ⟨x, y, _, rfl, rfl⟩) hW)
  · rw [Bool.and_eq_true] at h
    have el := eq_of_beq h.1
    subst el
    have h := h.2
    unfold ck_un at h
    split at h
    · rename_i b st hst
      dsimp only at h
      split at h
      · rename_i iv hiv
        rw [Bool.and_eq_true, Bool.and_eq_true, decide_eq_true_eq, decide_eq_true_eq] at h
        refine ck_b2i h.2 (fun S hS => hk S _ hS) (fun ws sh H locs ls vs x y hy hW => WG.up (fun hh => lv_idiv X.1 X.2.1 hdg (fun z => ?_) hh) X.2.1 hdg (fun lg => ⟨x, y, _, rfl, rfl⟩) hW)
        have := hy b st hst iv hiv h.1.2
        rw [z, Int32.toInt_zero] at this
        have h1 := this.1
        have h2 := h.1.1
        omega
      · cases h
    · cases h
  · rw [Bool.and_eq_true] at h
    have el := eq_of_beq h.1
    subst el
    have h := h.2
    unfold ck_un at h
    split at h
    · rename_i b st hst
      dsimp only at h
      split at h
      · rename_i iv hiv
        rw [Bool.and_eq_true, Bool.and_eq_true, decide_eq_true_eq, decide_eq_true_eq] at h
        refine ck_b2i h.2 (fun S hS => hk S _ hS) (fun ws sh H locs ls vs x y hy hW => WG.up (fun hh => lv_irem X.1 X.2.1 hdg (fun z => ?_) (by rw [ck_rem]; exact hh)) X.2.1 hdg (fun lg => ⟨x, y, _, rfl, rfl⟩) hW)
        have := hy b st hst iv hiv h.1.2
        rw [z, Int32.toInt_zero] at this
        have h1 := this.1
        have h2 := h.1.1
        omega
      · cases h
    · cases h
  · rw [Bool.and_eq_true] at h
    have el := eq_of_beq h.1
    subst el
    have h := h.2
    exact ck_sh_ok (tag := 0) (fun n ws sh N av v z hvo => by
        obtain ⟨-, x, rfl, -⟩ := hvo.i z
        exact ⟨x, rfl⟩) h (fun S hS => hk S _ hS) (fun ws sh H locs ls vs x y kk => WG.up (fun hh => lv_iushr X.1 X.2.1 hdg rfl hh) X.2.1 hdg (fun lg => ⟨x, y, _, rfl, rfl⟩) (kk _ _ (ck_r32 _) (fun _ _ _ _ _ g1 g2 => .mi g1 (by rw [g2]))))
  · rw [Bool.and_eq_true] at h
    have el := eq_of_beq h.1
    subst el
    have h := h.2
    exact ck_sh_ok (tag := 1) (fun n ws sh N av v z hvo => by
        obtain ⟨-, x, rfl, -⟩ := hvo.j z
        exact ⟨x, rfl⟩) h (fun S hS => hk S _ hS) (fun ws sh H locs ls vs x y kk => WG.up (fun hh => lv_lushr X.1 X.2.1 hdg rfl hh) X.2.1 hdg (fun lg => ⟨x, y, _, rfl, rfl⟩) (kk _ _ (ck_r64 _) (fun _ _ _ _ _ g1 g2 => .ml g1 (by rw [g2]))))
  · rw [Bool.and_eq_true] at h
    have el := eq_of_beq h.1
    subst el
    have h := h.2
    exact ck_sh_ok (tag := 1) (fun n ws sh N av v z hvo => by
        obtain ⟨-, x, rfl, -⟩ := hvo.j z
        exact ⟨x, rfl⟩) h (fun S hS => hk S _ hS) (fun ws sh H locs ls vs x y kk => WG.up (fun hh => lv_lshr X.1 X.2.1 hdg rfl hh) X.2.1 hdg (fun lg => ⟨x, y, _, rfl, rfl⟩) (kk _ _ (ck_r64 _) (fun _ _ _ _ _ g1 g2 => .ml g1 (by rw [g2]))))
  · rw [Bool.and_eq_true] at h
    have el := eq_of_beq h.1
    subst el
    have h := h.2
    exact ck_lshl_ok X h (fun S hS => hk S _ hS) hdg
  · rw [Bool.and_eq_true] at h
    have el := eq_of_beq h.1
    subst el
    have h := h.2
    exact ck_ineg_ok X h (fun S hS => hk S _ hS) hdg
  · rw [Bool.and_eq_true] at h
    have el := eq_of_beq h.1
    subst el
    have h := h.2
    exact ck_i2l_ok X h (fun S hS => hk S _ hS) hdg
  · rw [Bool.and_eq_true] at h
    have el := eq_of_beq h.1
    subst el
    have h := h.2
    exact ck_l2i_ok X h (fun S hS => hk S _ hS) hdg
  · rw [Bool.and_eq_true] at h
    have el := eq_of_beq h.1
    subst el
    have h := h.2
    exact ck_i2b_ok X h (fun S hS => hk S _ hS) hdg
  · rw [Bool.and_eq_true] at h
    have el := eq_of_beq h.1
    subst el
    have h := h.2
    exact ck_i2s_ok X h (fun S hS => hk S _ hS) hdg
  · rw [Bool.and_eq_true] at h
    have el := eq_of_beq h.1
    subst el
    have h := h.2
    exact ck_lcmp_ok X h (fun S hS => hk S _ hS) hdg
  · rw [Bool.and_eq_true] at h
    have el := eq_of_beq h.1
    subst el
    have h := h.2
    exact ck_anull_ok X (hk _ _ h) hdg
  · rw [Bool.and_eq_true] at h
    have el := eq_of_beq h.1
    subst el
    have h := h.2
    exact ck_dup_ok X h (fun S hS => hk S _ hS) hdg
  · rw [Bool.and_eq_true] at h
    have el := eq_of_beq h.1
    subst el
    have h := h.2
    exact ck_pop_ok X h (fun S hS => hk S _ hS) hdg
  · rw [Bool.and_eq_true] at h
    have el := eq_of_beq h.1
    subst el
    have h := h.2
    exact ck_pop2_ok X h (fun S hS => hk S _ hS) hdg
  · rw [Bool.and_eq_true] at h
    have el := eq_of_beq h.1
    subst el
    have h := h.2
    exact ck_dup2_ok X h (fun S hS => hk S _ hS) hdg
  · rw [Bool.and_eq_true] at h
    have el := eq_of_beq h.1
    subst el
    have h := h.2
    exact ck_goto_ok X h hk hdg
  · rw [Bool.and_eq_true, Bool.and_eq_true, decide_eq_true_eq] at h
    have el := eq_of_beq h.1.1
    subst el
    exact ck_if_ok X h.1.2 h.2 hk hdg
  · rw [Bool.and_eq_true, Bool.and_eq_true, decide_eq_true_eq] at h
    have el := eq_of_beq h.1.1
    subst el
    exact ck_icmp_ok X h.1.2 h.2 hk hdg
  · rw [Bool.and_eq_true] at h
    have el := eq_of_beq h.1
    subst el
    have h := h.2
    exact ck_ifnull_ok X h hk hdg
  · rw [Bool.and_eq_true] at h
    have el := eq_of_beq h.1
    subst el
    have h := h.2
    exact ck_ifnon_ok X h hk hdg
  · exact ck_tsw_ok X h hk hdg
  · rw [Bool.and_eq_true] at h
    have el := eq_of_beq h.1
    subst el
    have h := h.2
    exact ck_get_ok X hfl h (fun S hS => hk S _ hS) hdg
  · rw [Bool.and_eq_true] at h
    have el := eq_of_beq h.1
    subst el
    have h := h.2
    exact ck_put_ok X hpl h (fun S hS => hk S _ hS) hdg
  · rw [Bool.and_eq_true] at h
    have el := eq_of_beq h.1
    subst el
    have h := h.2
    rw [Bool.and_eq_true] at h
    exact ck_gst_ok X (hgl _ (List.contains_iff_mem.mp h.1)) (hk _ _ h.2) hdg
  · rw [Bool.and_eq_true] at h
    have el := eq_of_beq h.1
    subst el
    have h := h.2
    split at h
    · split at h
      · exact ck_sld_ok X h (fun S hS => hk S _ hS) hdg
      · exact ck_iald_ok X h (fun S hS => hk S _ hS) hdg
    · cases h
  · rw [Bool.and_eq_true] at h
    have el := eq_of_beq h.1
    subst el
    have h := h.2
    split at h
    · split at h
      · exact ck_wld_ok X h (fun S hS => hk S _ hS) hdg
      · exact ck_lald_ok X h (fun S hS => hk S _ hS) hdg
    · cases h
  · rw [Bool.and_eq_true] at h
    have el := eq_of_beq h.1
    subst el
    have h := h.2
    exact ck_zald_ok X h (fun S hS => hk S _ hS) hdg
  · rw [Bool.and_eq_true] at h
    have el := eq_of_beq h.1
    subst el
    have h := h.2
    split at h
    · split at h
      · split at h
        · split at h
          · exact ck_aald_ok X h (fun S hS => hk S _ hS) hdg
          · exact ck_aald5_ok X h (fun S hS => hk S _ hS) hdg
        · cases h
      · cases h
    · cases h
  · rw [Bool.and_eq_true] at h
    have el := eq_of_beq h.1
    subst el
    have h := h.2
    exact ck_iast_ok X h (fun S hS => hk S _ hS) hdg
  · rw [Bool.and_eq_true] at h
    have el := eq_of_beq h.1
    subst el
    have h := h.2
    exact ck_last_ok X h (fun S hS => hk S _ hS) hdg
  · rw [Bool.and_eq_true] at h
    have el := eq_of_beq h.1
    subst el
    have h := h.2
    exact ck_zast_ok X h (fun S hS => hk S _ hS) hdg
  · rw [Bool.and_eq_true] at h
    have el := eq_of_beq h.1
    subst el
    have h := h.2
    exact ck_aast_ok X hal h (fun S hS => hk S _ hS) hdg
  · rw [Bool.and_eq_true] at h
    have el := eq_of_beq h.1
    subst el
    have h := h.2
    exact ck_len_ok X h (fun S hS => hk S _ hS) hdg
  · rw [Bool.and_eq_true] at h
    have el := eq_of_beq h.1
    subst el
    have h := h.2
    exact ck_mk_ok X hnl h (fun S hS => hk S _ hS) hdg
  · rw [Bool.and_eq_true] at h
    have el := eq_of_beq h.1
    subst el
    have h := h.2
    exact ck_ins_ok X hil h (fun S hS => hk S _ hS) hdg
  · rw [Bool.and_eq_true] at h
    have el := eq_of_beq h.1
    subst el
    have h := h.2
    exact ck_cas_ok X hxl h (fun S hS => hk S _ hS) hdg
  · rw [Bool.and_eq_true] at h
    have el := eq_of_beq h.1
    subst el
    have h := h.2
    exact ck_inv_ok X hvl h (fun S hS => hk S _ hS) (by rw [ck_ik0]; exact hdg)
  · rw [Bool.and_eq_true] at h
    have el := eq_of_beq h.1
    subst el
    have h := h.2
    exact ck_inv_ok X hvl h (fun S hS => hk S _ hS) (by rw [ck_ik1]; exact hdg)
  · rw [Bool.and_eq_true] at h
    have el := eq_of_beq h.1
    subst el
    have h := h.2
    exact ck_inv_ok X hvl h (fun S hS => hk S _ hS) (by rw [ck_ik2]; exact hdg)
  · rw [Bool.and_eq_true] at h
    have el := eq_of_beq h.1
    subst el
    have h := h.2
    split at h
    · rename_i hst
      exact hret 0 S h hst pc hdg
    · cases h
  · rw [Bool.and_eq_true] at h
    have el := eq_of_beq h.1
    subst el
    have h := h.2
    split at h
    · rename_i v hst
      rw [Bool.and_eq_true] at h
      exact hret 1 S h.2 ⟨v, hst, eq_of_beq h.1⟩ pc hdg
    · cases h
  · rw [Bool.and_eq_true] at h
    have el := eq_of_beq h.1
    subst el
    have h := h.2
    split at h
    · rename_i v hst
      rw [Bool.and_eq_true] at h
      exact hret 2 S h.2 ⟨v, hst, eq_of_beq h.1⟩ pc hdg
    · cases h
  · rw [Bool.and_eq_true] at h
    have el := eq_of_beq h.1
    subst el
    have h := h.2
    split at h
    · rename_i v hst
      rw [Bool.and_eq_true, Bool.or_eq_true, Bool.or_eq_true] at h
      exact hret 3 S h.2 ⟨v, hst, h.1.imp eq_of_beq (fun z => z.imp eq_of_beq eq_of_beq)⟩ pc hdg
    · cases h
  · cases h
end
end
