noncomputable section
/-! layWorlds: the least bit of a set -/
def ck_tb1 (A e : Int) : Bool := A.toNat.testBit e.toNat
theorem ck_hb_v {x : Int64} {k : Int32} (h0 : 0 ≤ x.toInt) (hk0 : 0 ≤ k.toInt) (hk1 : k.toInt ≤ 11) : (((x.toUInt64 >>> (k.toInt64.toUInt64 &&& Int64.toUInt64 63)).toInt64 &&& Int64.ofNat 1).toInt = (Int64.ofNat 1).toInt) ↔ ck_tb1 x.toInt k.toInt = true := by
  obtain ⟨K, hK⟩ : ∃ K : Nat, k.toInt = (K : Int) := ⟨k.toInt.toNat, by omega⟩
  have hK11 : K ≤ 11 := by omega
  have hk : k = Int32.ofNat K := by
    have := ck_i32 (b := k) hk0
    rw [hK] at this
    exact this
  have hsh : ∀ j, j < 12 → ((Int32.ofNat j).toInt64.toUInt64 &&& Int64.toUInt64 63).toNat % 64 = j := by decide +kernel
  have hs := hsh K (by omega)
  rw [← hk] at hs
  have hx : x.toInt = (x.toUInt64.toNat : Int) := by
    have h1 : x.toInt = x.toBitVec.toInt := rfl
    have h2 : x.toUInt64.toNat = x.toBitVec.toNat := rfl
    rw [h1] at h0 ⊢
    rw [h2]
    rw [BitVec.toInt_eq_toNat_cond] at h0 ⊢
    split
    · rfl
    · rename_i hn
      rw [if_neg hn] at h0
      have := x.toBitVec.isLt
      omega
  have e1 : ((x.toUInt64 >>> (k.toInt64.toUInt64 &&& Int64.toUInt64 63)).toInt64 &&& Int64.ofNat 1).toInt = ((x.toUInt64.toNat >>> K % 2 : Nat) : Int) := by
    have hb : ((x.toUInt64 >>> (k.toInt64.toUInt64 &&& Int64.toUInt64 63)).toInt64 &&& Int64.ofNat 1).toBitVec.toNat = x.toUInt64.toNat >>> K % 2 := by
      show ((x.toUInt64 >>> (k.toInt64.toUInt64 &&& Int64.toUInt64 63)).toBitVec &&& (Int64.ofNat 1).toBitVec).toNat = _
      rw [BitVec.toNat_and]
      show (x.toUInt64 >>> (k.toInt64.toUInt64 &&& Int64.toUInt64 63)).toNat &&& 1 = _
      rw [UInt64.toNat_shiftRight, hs, Nat.and_one_is_mod]
    show BitVec.toInt _ = _
    rw [BitVec.toInt_eq_toNat_cond, if_pos (by omega), hb]
  rw [e1]
  unfold ck_tb1
  rw [hx, hK, Int.toNat_natCast, Int.toNat_natCast, Nat.testBit, Nat.one_and_eq_mod_two]
  have h2 : (Int64.ofNat 1).toInt = 1 := by decide
  rw [h2]
  have h3 := Nat.mod_two_eq_zero_or_one (x.toUInt64.toNat >>> K)
  rcases h3 with h3 | h3 <;> rw [h3] <;> decide
/-- hasBit says whether the bit is there -/
theorem ck_hb_met {T : fT} {ws' : va_W} {sh' : List Nat} {l : Launch} {V : ck_Wd} {D : va_G} {tys : List (ClassId × FieldType)} {ws : va_W} {sz : Nat} {sw : Option Nat} {x : Int64} {k : Int32} (h0 : 0 ≤ x.toInt) (hk0 : 0 ≤ k.toInt) (hk1 : k.toInt ≤ 11) :
    Met l yX12_hasBit (.code yX12_hasBit cX12_hasBit 3 (some .boolean) :: V.2.2.2.2.1) ⟨0, 0, 0, 0⟩ (va_Pc [.long x, .int k] (ck_st V D tys ws sz sw))
      (fun _ st oc t => ∃ b : Int32, oc = .returned (some (.int b)) ∧ (¬ b.toInt = 0 ↔ ck_tb1 x.toInt k.toInt = true) ∧ t.heap = st.heap ∧ fr T cX12_hasBit [.long x, .int k] ws' sh' (some (.int b)) ws' sh' ∧ f_rk 2 (some (.int b))) 0 0 (va_A ws sz) := by
  refine ck_ofW (cc := cX12_hasBit) (maxL := 3) (ret := some .boolean) (by decide +kernel) rfl ?_
  intro p e s m args below meth c s₁ B hml hv
  obtain ⟨rfl, -⟩ := hv
  have hx := B.exec
  have hb := B.bytes
  have hr := B.returns
  have hlocks := B.notSynchronized
  have hl := lv_entry [Value.long x, Value.int k] (n := 3) (show 3 ≤ 3 from Nat.le_refl 3)
  rw [lg_entry_eq]
  generalize (lg_sl [Value.long x, Value.int k] ++ List.replicate (3 - (lg_sl [Value.long x, Value.int k]).length) Slot.unset).toArray = ls at hl ⊢
  have hl1 : lv_has ls 3 [(0, .long x), (2, .int k)] := hl
  suffices key : WG T (0, lv_args 0 [.long x, .int k], [], ws', sh') p l e (headSpec (.code yX12_hasBit cX12_hasBit 3 (some .boolean) :: V.2.2.2.2.1) ⟨0, 0, 0, 0⟩).room s m [Value.long x, Value.int k].toArray below meth c ws' sh' s.heap [] 0 0 (MQ below (fun _ st oc t => ∃ b : Int32, oc = .returned (some (.int b)) ∧ (¬ b.toInt = 0 ↔ ck_tb1 x.toInt k.toInt = true) ∧ t.heap = st.heap ∧ fr T cX12_hasBit [.long x, .int k] ws' sh' (some (.int b)) ws' sh' ∧ f_rk 2 (some (.int b))) [Value.long x, Value.int k].toArray s 0 0 (va_A ws sz)) (0, ls, []) from key _ (by rw [hml]; exact hl) gr.rf
  have d0 : decode cX12_hasBit 0 = .ok (.lload_n 0, 1) := by decide +kernel
  have d1 : decode cX12_hasBit 1 = .ok (.iload_n 2, 1) := by decide +kernel
  have d2 : decode cX12_hasBit 2 = .ok (.lushr, 1) := by decide +kernel
  have d3 : decode cX12_hasBit 3 = .ok (.lconst 1, 1) := by decide +kernel
  have d4 : decode cX12_hasBit 4 = .ok (.land, 1) := by decide +kernel
  have d5 : decode cX12_hasBit 5 = .ok (.lconst 1, 1) := by decide +kernel
  have d6 : decode cX12_hasBit 6 = .ok (.lcmp, 1) := by decide +kernel
  have d10 : decode cX12_hasBit 10 = .ok (.iconst 1, 1) := by decide +kernel
  have d11 : decode cX12_hasBit 11 = .ok (.goto 4, 3) := by decide +kernel
  have d14 : decode cX12_hasBit 14 = .ok (.iconst 0, 1) := by decide +kernel
  have d15 : decode cX12_hasBit 15 = .ok (.ireturn, 1) := by decide +kernel
  refine WG.ld (fun h => lv_lload_n hx hb d0 rfl (lv_at hl1 0 rfl) h) (lv_at hl1 0 rfl) hb d0 (fun _ _ h => h) ?_
  refine WG.ld (fun h => lv_iload_n hx hb d1 rfl (lv_at hl1 1 rfl) h) (lv_at hl1 1 rfl) hb d1 (fun _ _ h => h) ?_
  refine WG.up (fun h => lv_lushr hx hb d2 rfl h) hb d2 (fun lg => ⟨_, _, _, rfl, rfl⟩) ?_
  refine WG.up (fun h => lv_lconst hx hb (v := Int64.ofNat 1) d3 rfl h) hb d3 (fun lg => rfl) ?_
  refine WG.up (fun h => lv_land hx hb d4 h) hb d4 (fun lg => ⟨_, _, _, rfl, rfl⟩) ?_
  refine WG.up (fun h => lv_lconst hx hb (v := Int64.ofNat 1) d5 rfl h) hb d5 (fun lg => rfl) ?_
  refine WG.up (fun h => W.lcmp hx hb d6 h) hb d6 (fun lg => ⟨_, _, _, rfl, rfl⟩) ?_
  have hv := ck_hb_v h0 hk0 hk1
  have fin : ∀ b : Int32, b.toInt = 0 ∨ b.toInt = 1 → (¬ b.toInt = 0 ↔ ck_tb1 x.toInt k.toInt = true) → WG T (0, lv_args 0 [.long x, .int k], [], ws', sh') p l e (headSpec (.code yX12_hasBit cX12_hasBit 3 (some .boolean) :: V.2.2.2.2.1) ⟨0, 0, 0, 0⟩).room s m [Value.long x, Value.int k].toArray below meth c ws' sh' s.heap [] 0 0 (MQ below (fun _ st oc t => ∃ b : Int32, oc = .returned (some (.int b)) ∧ (¬ b.toInt = 0 ↔ ck_tb1 x.toInt k.toInt = true) ∧ t.heap = st.heap ∧ fr T cX12_hasBit [.long x, .int k] ws' sh' (some (.int b)) ws' sh' ∧ f_rk 2 (some (.int b))) [Value.long x, Value.int k].toArray s 0 0 (va_A ws sz)) (15, ls, [.int b]) := by
    intro b hb1 hb2 lg hlg hgr
    refine W.zret hx hb hr (ck_nar_b (by omega) (by omega)).1 (fun t ht hW => ⟨b, rfl, hb2, ht, ⟨15, lg, 1, by rw [hb] at hgr; exact hgr, d15⟩, b, rfl, by omega, by omega⟩) (fun q hq => absurd hq List.not_mem_nil) d15 hlocks
  refine ck_row_if hx hb (cd := .ne) (off := 7) (tgt := 14) (by decide +kernel) (by decide) (fun h => ?_) (fun h => ?_)
  · have h : ¬ (lg_cmp _ _).toInt = 0 := h
    rw [ck_lg] at h
    refine WG.up (fun h => lv_iconst hx hb d14 rfl h) hb d14 (fun lg => rfl) ?_
    refine fin _ (Or.inl (by decide)) ⟨fun z => absurd (by decide) z, fun z => ?_⟩
    have := hv.mpr z
    rw [this] at h
    exact absurd (by rw [if_neg (Int.lt_irrefl _), if_pos rfl]) h
  · have h : ¬ ¬ (lg_cmp _ _).toInt = 0 := h
    rw [ck_lg] at h
    refine WG.up (fun h => lv_iconst hx hb d10 rfl h) hb d10 (fun lg => rfl) ?_
    refine WG.up (fun h => lv_goto hx hb (off := 4) (tgt := 15) d11 (by decide) h) hb d11 (fun lg => ⟨15, rfl, rfl⟩) ?_
    refine fin _ (Or.inr (by decide)) ⟨fun _ => hv.mp ?_, fun _ => by decide⟩
    have h := Decidable.of_not_not h
    split at h
    · exact absurd h (by decide)
    · split at h
      · assumption
      · exact absurd h (by decide)
theorem ck_no_low {A : Int} (h1 : 1 ≤ A) (h2 : A ≤ 4095) (h : ∀ i : Nat, i < 12 → A.toNat.testBit i = false) : False := by
  have hz : A.toNat = 0 := by
    refine Nat.eq_of_testBit_eq (fun i => ?_)
    rw [Nat.zero_testBit]
    rcases Nat.lt_or_ge i 12 with hi | hi
    · exact h i hi
    · refine Nat.testBit_lt_two_pow (Nat.lt_of_lt_of_le (show A.toNat < 2 ^ 12 by omega) (Nat.pow_le_pow_right (by decide) hi))
  omega
section
variable {Fc : Nat → Nat × fR} {s0 : fS} {p : Program} {l : Launch} {e : Env} {R : Room} {s : State} {m : MethodId} {args : Array Value} {below : List Frame} {meth : Method} {c : Code} {Q : State → Prop} {D : va_G} {tys : List (ClassId × FieldType)} {M : ck_Me} {sc : ck_sc} {A : Nat → Prop} {V : ck_Wd} {ws0 : va_W} {sh0 : List Nat}
/-- while (!hasBit(set, e)) e++: ends with e in 0..11 -/
theorem ck_lw_loop {Tb : fT} (hFb : (Fc (3 * 158 + 1)).1 = 2 ∧ ∀ (As : List Value) (ws : va_W) (sh : List Nat) (rv : Option Value), fr Tb cX12_hasBit As ws sh rv ws sh → f_dj ws → (∃ tys, ck_wo tys (mTT M) (mSG M) ws sh ∧ ck_wo tys (mTT M) (mSG M) ws sh) → f_rk 2 rv → (Fc (3 * 158 + 1)).2 As ws sh rv ws sh) (X : ck_cx p l e R s m args below meth c cX12_layWorlds "ReasonDeskModel" D V.1 tys M sc A) (hts : ∀ w ∈ V.2.2.2.2.1, w.before args s = true) (htl : tys.map Prod.snd = V.2.2.2.1) (hsw : sc.2.1.isSome = true) (hnc : ck_nq V s) (hg : ck_gd V.2.2.2.2.1)
    (hwd : ∀ w ∈ ([.methodLink "ReasonDeskModel" 158 yX12_hasBit, .static yX12_hasBit, .initialized yX12_hasBit.cls, .code yX12_hasBit cX12_hasBit 3 (some .boolean)] : List Cond), w ∈ V.2.2.2.2.1) (hR : 1 ≤ R.frames ∧ 30 ≤ R.locals)
    {ws : va_W} {sh : List Nat} (hwo : ck_wo tys (mTT M) (mSG M) ws sh) {H : Heap} {cells slots : Nat} (hP : va_P D V.1 ws H) (hD : va_D A ws) (hcs : cells ≤ R.cells ∧ slots ≤ R.slots) {x : Int32} (x1 : 1 ≤ x.toInt) (x2 : x.toInt ≤ 4095) {lvr : List (Nat × Value)} (hfil : lvr.filter (fun q => !(q.1 == 2) && !(q.1 + 1 == 2 && q.2.category == 2)) = lvr) (hm1 : (1, Value.int x) ∈ lvr) (hn2 : 2 < mnL M)
    (kk : ∀ (e' : Int32) (ls' : Array Slot) (locs' : List Loc), 0 ≤ e'.toInt → e'.toInt ≤ 11 → lv_has ls' (mnL M) ((2, .int e') :: lvr) → va_S A s.heap H locs' → WG (tM M Fc sc.1) s0 p l e R s m args below meth c ws sh H locs' cells slots Q (64, ls', [])) :
    ∀ (f j : Nat), j + f = 12 → ∀ (e0 : Int32) (ls : Array Slot) (locs : List Loc), e0.toInt = (j : Int) → (∀ i, i < j → x.toInt.toNat.testBit i = false) → lv_has ls (mnL M) ((2, .int e0) :: lvr) → va_S A s.heap H locs → WG (tM M Fc sc.1) s0 p l e R s m args below meth c ws sh H locs cells slots Q (49, ls, []) := by
  intro f
  induction f with
  | zero =>
    intro j hj e0 ls locs he hbits hls hS
    exact (ck_no_low x1 x2 (fun i hi => hbits i (by omega))).elim
  | succ f ih =>
    intro j hj e0 ls locs he hbits hls hS
    have hb := X.2.1
    have d49 : decode cX12_layWorlds 49 = .ok (.iload_n 1, 1) := by decide +kernel
    have d50 : decode cX12_layWorlds 50 = .ok (.i2l, 1) := by decide +kernel
    have d51 : decode cX12_layWorlds 51 = .ok (.iload_n 2, 1) := by decide +kernel
    have d58 : decode cX12_layWorlds 58 = .ok (.iinc 2 1, 3) := by decide +kernel
    have d61 : decode cX12_layWorlds 61 = .ok (.goto (-12), 3) := by decide +kernel
    refine WG.ld (fun h => lv_iload_n X.1 hb d49 rfl (hls.2.2 (1, .int x) (List.mem_cons_of_mem _ hm1)) h) (hls.2.2 (1, .int x) (List.mem_cons_of_mem _ hm1)) hb d49 (fun _ _ h => h) ?_
    refine WG.up (fun h => lv_i2l X.1 hb d50 rfl h) hb d50 (fun lg => ⟨x, _, rfl, rfl⟩) ?_
    refine WG.ld (fun h => lv_iload_n X.1 hb d51 rfl (hls.2.2 (2, .int e0) List.mem_cons_self) h) (hls.2.2 (2, .int e0) List.mem_cons_self) hb d51 (fun _ _ h => h) ?_
    have hxl : x.toInt64.toInt = x.toInt := Int32.toInt_toInt64 x
    have hA1 : ∀ q, va_A ws H.size q → A q := by
      rintro q (⟨k, e', h⟩ | h)
      · exact hD.2 k _ h
      · exact X.2.2.2.2.1 q (Nat.le_trans hS.1 h)
    have hMet := ck_hb_met (T := Tb) (ws' := ws) (sh' := sh) (l := l) (V := V) (D := D) (tys := tys) (ws := ws) (sz := H.size) (sw := sc.2.1) (x := x.toInt64) (k := e0) (by omega) (by omega) (by omega)
    have hpre : ∀ U : State, U.heap = H → s.WarmedH U.vm → va_Pc [.long x.toInt64, .int e0] (ck_st V D tys ws H.size sc.2.1) [Value.long x.toInt64, Value.int e0].toArray U := by
      intro U hU hW
      refine ⟨rfl, by rw [hU], by rw [hU]; exact hP, va_K.moved hW.alike X.2.2.2.1, hD.weaken (fun _ _ _ _ => trivial), hnc.warm hW, fun w hw => ?_⟩
      obtain ⟨g1, g2⟩ := X.2.2.2.2.2.2.2.2.2 w hw
      exact ⟨by rw [hU]; exact ((g1.kept hS.2.1).narrow hA1).moved hW.alike, by rw [hU]; exact ((g2.kept hS.2.1).narrow hA1).moved hW.alike⟩
    have hGi : GoodIn V.2.2.2.2.1 (va_wsS "ReasonDeskModel" 158 yX12_hasBit (.code yX12_hasBit cX12_hasBit 3 (some .boolean) :: V.2.2.2.2.1)) := ck_good hg (fun w hww => by
      rcases List.mem_append.mp hww with q | q
      · simp only [List.mem_cons, List.not_mem_nil, or_false] at q
        rcases q with rfl | rfl | rfl <;> exact hwd _ (by simp)
      · rcases List.mem_cons.mp q with rfl | q
        · exact hwd _ (by simp)
        · exact q)
    have hd52 : decode cX12_layWorlds 52 = .ok (.invokestatic 158, 3) := by decide +kernel
    have run := va_runS (rest := []) (nL := mnL M) ⟨X.1, hb, X.2.2.2.2.2.1, X.2.2.1, hts⟩ hMet (va_cwS (R := R) (maxL := 3) 2 hts hGi rfl rfl rfl ⟨by decide, by decide, by decide +kernel⟩ ⟨by show 0 + 1 ≤ _; omega, by show 8 + (3 + 11) + 0 ≤ _; omega⟩) (l := l) (e := e) (below := below) (meth := meth) (locs := locs) (cells := cells) (slots := slots) ⟨ck_st_blind, hpre⟩ (g := F0 m 52 ls [.int e0, .long x.toInt64]) rfl rfl hls.1 rfl (ck_lroom (by decide)) hd52 ⟨hcs.1, hcs.2⟩
    intro lg hlg hgr T hT Xs
    obtain ⟨v, st₀, u, T', L, h0, X', hL, e1, e2, ⟨b, hrv, hbt, hheap, hfr, hrk⟩, st⟩ := run T hT Xs
    cases hrv
    have hS' : va_S A s.heap H (locs ++ L) := ⟨hS.1, hS.2.1, fun q hq => by
      rcases List.mem_append.mp hq with h | h
      · exact hS.2.2 q h
      · exact hA1 _ (hL q h)⟩
    have next : WG (tM M Fc sc.1) s0 p l e R s m args below meth c ws sh H (locs ++ L) cells slots Q (55, ls, [.int b]) := by
      refine ck_row_if X.1 hb (cd := .ne) (off := 9) (tgt := 64) (by decide +kernel) (by decide) (fun h => ?_) (fun h => ?_)
      · exact kk e0 ls _ (by omega) (by omega) hls hS'
      · have h : ¬ ¬ b.toInt = 0 := h
        have hbf : x.toInt.toNat.testBit j = false := by
          cases hc : x.toInt.toNat.testBit j with
          | false => rfl
          | true =>
            refine absurd (hbt.mpr ?_) h
            unfold ck_tb1
            rw [hxl, he]
            exact hc
        refine WG.st hls (fun lv0 h0 hs0 kk0 => by
            obtain ⟨k0, hk0⟩ := List.getElem?_of_mem (hs0 _ List.mem_cons_self)
            exact lv_iinc X.1 hb (v := e0 + Int32.ofInt 1) d58 h0 hk0 rfl hn2 rfl kk0) hb d58 (fun lg hlg => ⟨e0, fun w hw => by
            have h1 := hlg.2.2 (2, w) hw
            have h2 := hls.2.2 (2, .int e0) List.mem_cons_self
            rw [h1] at h2
            cases h2
            rfl, rfl⟩) (fun ls' hls' => ?_)
        rw [List.filter_cons] at hls'
        simp only [beq_self_eq_true, Bool.not_true, Bool.false_and, Bool.false_eq_true, if_false] at hls'
        rw [hfil] at hls'
        refine WG.up (fun h => lv_goto X.1 hb (off := -12) (tgt := 49) d61 (by decide) h) hb d61 (fun lg => ⟨49, rfl, rfl⟩) ?_
        have hj11 : j ≤ 11 := by omega
        refine ih (j + 1) (by omega) _ ls' _ ?_ (fun i hi => ?_) hls' hS'
        · have h1 : (Int32.ofInt 1).toInt = 1 := by decide
          have e32 : e0 = Int32.ofNat j := by
            have := ck_i32 (b := e0) (by omega)
            rw [he] at this
            exact this
          rw [e32]
          have hd : ∀ j, j < 12 → (Int32.ofNat j + Int32.ofInt 1).toInt = ((j + 1 : Nat) : Int) := by decide +kernel
          exact hd j (by omega)
        · rcases Nat.lt_or_ge i j with hij | hij
          · exact hbits i hij
          · rw [show i = j by omega]
            exact hbf
    obtain ⟨t2, a1, b1⟩ := next lg hlg (hgr.nx hb hd52 ⟨[.long x.toInt64, .int e0], [], some (.int b), ws, sh, rfl, hFb.1.symm, hFb.2 _ _ _ _ hfr hD.1 ⟨tys, hwo, hwo⟩ hrk, rfl⟩) T' (by rw [e1, hheap, h0]) X'
    exact ⟨t2, st t2 a1, b1⟩
/-- from 49 to 64 -/
def ck_sLw (F : Nat) (S : ck_S) : Option (List ck_S) := match S.2.1, ck_look S.1 1, ck_look S.1 2 with
  | [], some a, some b => if a.1 = 0 ∧ b.1 = 0 ∧ ck_ent S.2.2.2.1 S.2.2.2.2.1 F 0 a.2.1 (-1) = true ∧ ck_ent S.2.2.2.1 S.2.2.2.2.1 F a.2.1 0 4095 = true ∧ ck_ent S.2.2.2.1 S.2.2.2.2.1 F 0 b.2.1 0 = true ∧ ck_ent S.2.2.2.1 S.2.2.2.2.1 F b.2.1 0 0 = true ∧ S.2.2.2.2.2 = (0, 0) then
      some [(ck_st1 S.1 2 (0, S.2.2.2.1.length, []), [], S.2.2.1, S.2.2.2.1 ++ [(0, 11)], S.2.2.2.2.1, S.2.2.2.2.2)] else none
  | _, _, _ => none
theorem ck_sLw_ok {Tb : fT} (hFb : (Fc (3 * 158 + 1)).1 = 2 ∧ ∀ (As : List Value) (ws : va_W) (sh : List Nat) (rv : Option Value), fr Tb cX12_hasBit As ws sh rv ws sh → f_dj ws → (∃ tys, ck_wo tys (mTT M) (mSG M) ws sh ∧ ck_wo tys (mTT M) (mSG M) ws sh) → f_rk 2 rv → (Fc (3 * 158 + 1)).2 As ws sh rv ws sh) (X : ck_cx p l e R s m args below meth c cX12_layWorlds "ReasonDeskModel" D V.1 tys M sc A) (hts : ∀ w ∈ V.2.2.2.2.1, w.before args s = true) (htl : tys.map Prod.snd = V.2.2.2.1) (hsw : sc.2.1.isSome = true) (hnc : ck_nq V s) (hg : ck_gd V.2.2.2.2.1)
    (hwd : ∀ w ∈ ([.methodLink "ReasonDeskModel" 158 yX12_hasBit, .static yX12_hasBit, .initialized yX12_hasBit.cls, .code yX12_hasBit cX12_hasBit 3 (some .boolean)] : List Cond), w ∈ V.2.2.2.2.1) (hR : 1 ≤ R.frames ∧ 30 ≤ R.locals) (hn2 : 2 < mnL M)
    {F : Nat} {S : ck_S} {L : List ck_S} (h : ck_sLw F S = some L) (hk : ∀ S' ∈ L, ck_g Fc s0 p l e R s m args below meth c Q D V.1 tys M sc A ws0 sh0 S' 64) : ck_g Fc s0 p l e R s m args below meth c Q D V.1 tys M sc A ws0 sh0 S 49 := by
  intro n ws sh H locs ls vs o hw hx hP hD hS
  unfold ck_sLw at h
  split at h
  · rename_i a b hst ha hb
    split at h
    · rename_i hc
      obtain ⟨c1, c2, c3, c4, c5, c6, c7⟩ := hc
      have hcs : ck_oc R M + S.2.2.2.2.2.1 ≤ R.cells ∧ ck_os R M + S.2.2.2.2.2.2 ≤ R.slots := by rw [c7]; exact ⟨Nat.sub_le _ _, Nat.sub_le _ _⟩
      have eL := Option.some.inj h
      have o3 := o.2.2.1
      rw [hst] at o3
      cases vs with
      | cons _ _ => exact o3.elim
      | nil =>
        have p3 := ck_ent_ok o.2.2.2.2.1 o.2.2.2.2.2 F _ _ _ c3
        have p4 := ck_ent_ok o.2.2.2.2.1 o.2.2.2.2.2 F _ _ _ c4
        have p5 := ck_ent_ok o.2.2.2.2.1 o.2.2.2.2.2 F _ _ _ c5
        have p6 := ck_ent_ok o.2.2.2.2.1 o.2.2.2.2.2 F _ _ _ c6
        rw [o.1.2] at p3 p4 p5 p6
        obtain ⟨lv, l1, l2⟩ := id o.2.1
        have get : ∀ (i : Nat) (v : ck_V), ck_look S.1 i = some v → v.1 = 0 → ∃ z : Int32, (i, Value.int z) ∈ lv ∧ z.toInt = (n v.2.1).1 := by
          intro i v hv h0
          unfold ck_look at hv
          cases hf : S.1.find? (fun q => q.1 == i) with
          | none => rw [hf] at hv; cases hv
          | some q0 =>
            rw [hf] at hv
            have e1 : q0.2 = v := Option.some.inj hv
            have hm := List.mem_of_find?_eq_some hf
            have hp := List.find?_some hf
            have hi0 : q0.1 = i := eq_of_beq hp
            obtain ⟨y, hy, z1, z2⟩ := ck_two.mem l2 hm
            rw [e1] at z2
            obtain ⟨hlt, x, ex, ex2⟩ := z2.i h0
            refine ⟨x, ?_, ex2⟩
            have ey : y = (i, .int x) := by rw [← hi0, z1, ← ex]
            rw [← ey]
            exact hy
        obtain ⟨x, hx1, ex⟩ := get 1 a ha c1
        obtain ⟨e0, hx2, ee⟩ := get 2 b hb c2
        have hfil : (lv.filter (fun q => !(q.1 == 2) && !(q.1 + 1 == 2 && q.2.category == 2))).filter (fun q => !(q.1 == 2) && !(q.1 + 1 == 2 && q.2.category == 2)) = lv.filter (fun q => !(q.1 == 2) && !(q.1 + 1 == 2 && q.2.category == 2)) := by
          rw [List.filter_filter]
          congr 1
          funext q
          exact Bool.and_self _
        refine ck_lw_loop hFb X hts htl hsw hnc hg hwd hR hw hP hD hcs (x := x) (by omega) (by omega) hfil (List.mem_filter.mpr ⟨hx1, rfl⟩) hn2 (fun e' ls' locs' h1 h2 hl hS' => ?_) 12 0 rfl e0 ls locs (by omega) (fun i hi => absurd hi (Nat.not_lt_zero i)) ⟨l1.1, l1.2.1, fun q hq => ?_⟩ hS
        · have hlen : (S.2.2.2.1 ++ [((0 : Int), (11 : Int))]).length = S.2.2.2.1.length + 1 := by simp
          have o1 := o.new (st := []) (vs' := []) trivial (tag := 0) (ts := []) (iv := (0, 11)) (rs := []) (x := (e'.toInt, .null)) (v := .int e') (.mi (Nat.lt_succ_self _) (by rw [ck_nx_eq])) (fun _ => ⟨h1, h2⟩) (fun r hr => by cases hr)
          obtain ⟨lv', k1, k2⟩ := o1.2.1
          have o2 : ck_so (mnL M) (mSG M) (ck_st1 S.1 2 (0, S.2.2.2.1.length, []), [], S.2.2.1, S.2.2.2.1 ++ [(0, 11)], S.2.2.2.2.1, S.2.2.2.2.2) (ck_nx n S.2.2.2.1.length (e'.toInt, .null)) ws sh sc ls' [] := by
            refine ⟨o1.1, ⟨_, hl, ⟨⟨rfl, ?_⟩, ?_⟩⟩, trivial, o1.2.2.2⟩
            · refine .mi ?_ (by rw [ck_nx_eq])
              show _ < (S.2.2.2.1 ++ [((0 : Int), (11 : Int))]).length
              rw [hlen]
              exact Nat.lt_succ_self _
            · have l3 := (ck_lo.up (n' := ck_nx n S.2.2.2.1.length (e'.toInt, .null)) ck_nx_lt (N' := (S.2.2.2.1 ++ [((0 : Int), (11 : Int))]).length) (by rw [hlen]; exact Nat.le_succ _) (⟨lv, l1, l2⟩ : ck_lo ws sh sc n S.2.2.2.1.length (mnL M) S.1 ls))
              exact ((l2.imp fun u w huw => ⟨huw.1, huw.2.up (n' := ck_nx n S.2.2.2.1.length (e'.toInt, .null)) ck_nx_lt (N' := (S.2.2.2.1 ++ [((0 : Int), (11 : Int))]).length) (by rw [hlen]; exact Nat.le_succ _)⟩) : ck_two _ S.1 lv).flt ck_flt1
          exact (hk _ (by rw [← eL]; exact List.mem_cons_self)).at o2 hw hx hP hD hS' rfl
        · rcases List.mem_cons.mp hq with rfl | hq
          · exact l1.2.2 _ hx2
          · exact l1.2.2 q (List.mem_filter.mp hq).1
    · cases h
  · cases h
end
end
