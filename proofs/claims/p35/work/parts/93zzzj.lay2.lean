/-! the reference: what is in view -/
def mvP (A : zW) (t k : Int32) (e : Nat) : Bool := decide ((zI A 350 e).toInt ≤ t.toInt ∧ t.toInt ≤ (zI A 351 e).toInt ∧ (zI A 352 e).toInt ≤ k.toInt ∧ ((zI A 353 e).toInt < 0 ∨ k.toInt < (zI A 353 e).toInt))
def zq_isInView : zQ := zpu (fun a : Nat × Int32 × Int32 => [.ref 343, .int (Int32.ofNat a.1)]) (fun a A => a.1 < 12 ∧ zF A 343 15 = .int a.2.1 ∧ zF A 343 16 = .int a.2.2) (fun a A => .int (zb (mvP A a.2.1 a.2.2 a.1)))
set_option maxRecDepth 20000 in
set_option maxHeartbeats 4000000 in
theorem zc_X12_isInView : zdo r_X12_isInView zq_isInView := by
  refine zdo_pu [] (fun _ _ => []) 80 fo_X12 rfl zs_nil k_X12_isInView (fun _ _ _ => no_zh) (fun a A hp => ?_)
  obtain ⟨e, t, k⟩ := a
  obtain ⟨he, ht, hk⟩ := hp
  have he : e < 12 := he
  have ht : zF A 343 15 = .int t := ht
  have hk : zF A 343 16 = .int k := hk
  have ec := n32_c (show e < 4096 by omega)
  have no : ¬ mvP A t k e = true → some (Value.int (Int32.ofInt 0)) = some (.int (zb (mvP A t k e))) := fun z => by
    rw [Bool.eq_false_iff.mpr z]
    rfl
  have ye : mvP A t k e = true → some (Value.int (Int32.ofInt 1)) = some (.int (zb (mvP A t k e))) := fun z => by
    rw [z]
    rfl
  refine ⟨fun h1 => ?_, fun h1 => ⟨fun h2 => ?_, fun h2 => ⟨fun h3 => ?_, fun h3 => ⟨fun h4 => ?_, fun h4 => ⟨fun h5 => ?_, fun h5 => ?_⟩⟩⟩⟩⟩
  · have h1 : (iv (zF A 343 15)).toInt < (zI A 350 (Int32.ofNat e).toNatClampNeg).toInt := h1
    rw [ht, ec] at h1
    have h1 : t.toInt < (zI A 350 e).toInt := h1
    exact ⟨no (fun z => by have := (of_decide_eq_true z).1; omega), rfl⟩
  · have h2 : (zI A 351 (Int32.ofNat e).toNatClampNeg).toInt < (iv (zF A 343 15)).toInt := h2
    rw [ht, ec] at h2
    have h2 : (zI A 351 e).toInt < t.toInt := h2
    exact ⟨no (fun z => by have := (of_decide_eq_true z).2.1; omega), rfl⟩
  · have h3 : (iv (zF A 343 16)).toInt < (zI A 352 (Int32.ofNat e).toNatClampNeg).toInt := h3
    rw [hk, ec] at h3
    have h3 : k.toInt < (zI A 352 e).toInt := h3
    exact ⟨no (fun z => by have := (of_decide_eq_true z).2.2.1; omega), rfl⟩
  · have h1 : ¬ (iv (zF A 343 15)).toInt < (zI A 350 (Int32.ofNat e).toNatClampNeg).toInt := h1
    have h2 : ¬ (zI A 351 (Int32.ofNat e).toNatClampNeg).toInt < (iv (zF A 343 15)).toInt := h2
    have h3 : ¬ (iv (zF A 343 16)).toInt < (zI A 352 (Int32.ofNat e).toNatClampNeg).toInt := h3
    have h4 : (zI A 353 (Int32.ofNat e).toNatClampNeg).toInt < 0 := h4
    rw [ht, ec] at h1 h2
    rw [hk, ec] at h3
    rw [ec] at h4
    have h1 : ¬ t.toInt < (zI A 350 e).toInt := h1
    have h2 : ¬ (zI A 351 e).toInt < t.toInt := h2
    have h3 : ¬ k.toInt < (zI A 352 e).toInt := h3
    exact ⟨ye (decide_eq_true ⟨by omega, by omega, by omega, Or.inl h4⟩), rfl⟩
  · have h4 : ¬ (zI A 353 (Int32.ofNat e).toNatClampNeg).toInt < 0 := h4
    have h5 : (zI A 353 (Int32.ofNat e).toNatClampNeg).toInt ≤ (iv (zF A 343 16)).toInt := h5
    rw [ec] at h4
    rw [hk, ec] at h5
    have h5 : (zI A 353 e).toInt ≤ k.toInt := h5
    exact ⟨no (fun z => by have := (of_decide_eq_true z).2.2.2; omega), rfl⟩
  · have h1 : ¬ (iv (zF A 343 15)).toInt < (zI A 350 (Int32.ofNat e).toNatClampNeg).toInt := h1
    have h2 : ¬ (zI A 351 (Int32.ofNat e).toNatClampNeg).toInt < (iv (zF A 343 15)).toInt := h2
    have h3 : ¬ (iv (zF A 343 16)).toInt < (zI A 352 (Int32.ofNat e).toNatClampNeg).toInt := h3
    have h5 : ¬ (zI A 353 (Int32.ofNat e).toNatClampNeg).toInt ≤ (iv (zF A 343 16)).toInt := h5
    rw [ht, ec] at h1 h2
    rw [hk, ec] at h3 h5
    have h1 : ¬ t.toInt < (zI A 350 e).toInt := h1
    have h2 : ¬ (zI A 351 e).toInt < t.toInt := h2
    have h3 : ¬ k.toInt < (zI A 352 e).toInt := h3
    have h5 : ¬ (zI A 353 e).toInt ≤ k.toInt := h5
    exact ⟨ye (decide_eq_true ⟨by omega, by omega, by omega, Or.inr (by omega)⟩), rfl⟩
/-! what is laid -/
/-- the slots of what both sides hold alike, and of what is laid out of them -/
def S_M0 : List (Nat × Nat) := [(17, 8), (17, 15), (17, 16), (17, 1), (49, 0), (45, 0), (51, 0), (52, 0), (53, 0), (54, 0)]
def S_B : List (Nat × Nat) := S_M0 ++ [(29, 0), (28, 0), (7, 6)]
def S_Y : List (Nat × Nat) := S_X ++ [(29, 0), (45, 0), (7, 6), (54, 0), (17, 1), (17, 55), (17, 56), (76, 0), (16, 1), (16, 3), (43, 0)]
def S_L8 : List (Nat × Nat) := [(17, 17), (17, 19), (17, 20), (55, 0)]
def S_8 : List (Nat × Nat) := S_B ++ ((46, 0) :: S_L8)
theorem sM_B : ∀ y ∈ S_M0, y ∈ S_B := by decide
theorem sM_Y : ∀ y ∈ S_M0, y ∈ S_Y := by decide
theorem sB_Y : ∀ y ∈ S_B, y ∈ S_Y := by decide
theorem sB_8 : ∀ y ∈ S_B, y ∈ S_8 := by decide
theorem sX_Y : ∀ y ∈ S_X, y ∈ S_Y := fun y hy => List.mem_append_left _ hy
/-- what is laid is right -/
def jLay (A : zW) (n t k : Int32) : Prop := (∃ l : Int32, zF A 343 17 = .int l ∧ (¬ l.toInt = 0 → lwOK A (zJ A 354) (2 ^ n.toInt.toNat))) ∧ ∃ v : Int32, zF A 343 19 = .int v ∧ (¬ v.toInt = 0 → zF A 343 20 = .int (Int32.ofNat (vwN (mvP A t k) n.toInt.toNat)))
abbrev laA : Type := Int32 × Int32 × Int32
def laP (a : laA) (A : zW) : Prop := (zF A 343 8 = .int a.1 ∧ 0 ≤ a.1.toInt ∧ a.1.toInt ≤ 12) ∧ sei A a.1.toInt.toNat ∧ (zF A 343 15 = .int a.2.1 ∧ zF A 343 16 = .int a.2.2) ∧ jLay A a.1 a.2.1 a.2.2
/-- laid: the rest as it was -/
def laR (a : laA) (A' : zW) : Prop := lwOK A' (zJ A' 354) (2 ^ a.1.toInt.toNat) ∧ zF A' 343 20 = .int (Int32.ofNat (vwN (mvP A' a.2.1 a.2.2) a.1.toInt.toNat))
def laQ (a : laA) (A : zW) (A' : zW) : Prop := agj S_Y A' A ∧ laP a A' ∧ laR a A'
def zq_lay8 : zQ := zs (fun _ : laA => [.ref 343]) laP (fun a A rv A' => rv = none ∧ laQ a A A')
theorem mvP_m {A A' : zW} {t k : Int32} (g : agj S_M0 A' A) : mvP A' t k = mvP A t k := funext (fun e => by
  have I : ∀ q i, q < 385 → (zn lp_sh q, 0) ∈ S_M0 → zI A' q i = zI A q i := fun q i a b => (g.1.2.1 q i a b).1
  unfold mvP
  rw [I 350 e (by decide) (by decide +kernel), I 351 e (by decide) (by decide +kernel), I 352 e (by decide) (by decide +kernel), I 353 e (by decide) (by decide +kernel)])
theorem ses_m {A A' : zW} (g : agj S_M0 A' A) (e : Nat) : zI A' 348 e = zI A 348 e := (g.1.2.1 348 e (by decide) (by decide +kernel)).1
theorem sew_m {A A' : zW} (g : agj S_M0 A' A) (e q : Nat) : sew A' e q = sew A e q := by
  unfold sew ses
  rw [ses_m g, g.2 344 _ (by decide) (by decide +kernel)]
theorem lwOK_m {A A' : zW} {f : Nat → Int64} {m : Nat} (g : agj S_M0 A' A) (h : lwOK A f m) : lwOK A' f m := fun S hS q hq i hi => by
  rw [h S hS q hq i hi]
  constructor
  · intro z e he
    rw [sew_m g]
    exact z e he
  · intro z e he
    rw [← sew_m g]
    exact z e he
theorem sei_m {A A' : zW} {n : Nat} (g : agj S_M0 A' A) (h : sei A n) : sei A' n := fun e he => by
  rw [ses_m g]
  exact h e he
theorem mvP_b {A A' : zW} {t k : Int32} (g : agj S_B A' A) : mvP A' t k = mvP A t k := mvP_m (g.sub sM_B)
theorem ses_b {A A' : zW} (g : agj S_B A' A) (e : Nat) : zI A' 348 e = zI A 348 e := ses_m (g.sub sM_B) e
theorem sew_b {A A' : zW} (g : agj S_B A' A) (e q : Nat) : sew A' e q = sew A e q := sew_m (g.sub sM_B) e q
theorem lwOK_b {A A' : zW} {f : Nat → Int64} {m : Nat} (g : agj S_B A' A) (h : lwOK A f m) : lwOK A' f m := lwOK_m (g.sub sM_B) h
theorem sei_b {A A' : zW} {n : Nat} (g : agj S_B A' A) (h : sei A n) : sei A' n := sei_m (g.sub sM_B) h
theorem mvP_ag {A A' : zW} {t k : Int32} (g : agj S_Y A' A) : mvP A' t k = mvP A t k := mvP_b (g.sub sB_Y)
theorem lwOK_ag {A A' : zW} {f : Nat → Int64} {m : Nat} (g : agj S_Y A' A) (h : lwOK A f m) : lwOK A' f m := lwOK_b (g.sub sB_Y) h
theorem sei_ag {A A' : zW} {n : Nat} (g : agj S_Y A' A) (h : sei A n) : sei A' n := sei_b (g.sub sB_Y) h
theorem zlw_ag {A : zW} {l : Int32} {f : Nat → Int64} : agj S_Y (zlw A l f) A := by
  refine ⟨agl.tr (agl.nF (q := 343) (i := 17) (by decide) (by decide +kernel)) agl.sJ, fun q i hq hm => ?_⟩
  unfold zlw
  refine zsJ_ne (fun e => ?_)
  subst e
  exact absurd hm (by decide +kernel)
/-- what stays on the way -/
def laB (a : laA) (A : zW) (V : Nat) (A' : zW) : Prop := agj S_Y A' A ∧ ((∃ l : Int32, zF A' 343 17 = .int l ∧ ¬ l.toInt = 0) ∧ lwOK A' (zJ A' 354) (2 ^ a.1.toInt.toNat)) ∧ zF A' 343 19 = .int (Int32.ofInt 1) ∧ zF A' 343 20 = .int (Int32.ofNat V)
section
variable {a : laA} {A A' X : zW} {V V' k q i : Nat} {v : Value} {x : Int32}
theorem laB.F (h : laB a A V A') (hk : k ≠ 17 ∧ k ≠ 19 ∧ k ≠ 20) (hs : ¬ (zn lp_sh 343, k) ∈ S_Y) : laB a A V (zuF A' 343 k v) := by
  obtain ⟨h1, ⟨⟨l, h2, h3⟩, h4⟩, h5, h6⟩ := h
  have g : agj S_Y (zuF A' 343 k v) A' := agj.nF (by decide) hs
  refine ⟨h1.tr g, ⟨⟨l, ?_, h3⟩, lwOK_ag g h4⟩, ?_, ?_⟩
  · rw [zuF_x, if_neg (fun z => hk.1 z.2.symm)]
    exact h2
  · rw [zuF_x, if_neg (fun z => hk.2.1 z.2.symm)]
    exact h5
  · rw [zuF_x, if_neg (fun z => hk.2.2 z.2.symm)]
    exact h6
theorem laB.I (h : laB a A V A') (hq : q < 385) (hs : ¬ (zn lp_sh q, 0) ∈ S_Y) : laB a A V (zuI A' q i x) := by
  obtain ⟨h1, ⟨⟨l, h2, h3⟩, h4⟩, h5, h6⟩ := h
  have g : agj S_Y (zuI A' q i x) A' := agj.nI hq hs
  exact ⟨h1.tr g, ⟨⟨l, h2, h3⟩, lwOK_ag g h4⟩, h5, h6⟩
theorem laB.H (h : laB a A V A') (hN : zN A' ≤ zN X) : laB a A V (zhv [] A' X) := by
  obtain ⟨h1, ⟨⟨l, h2, h3⟩, h4⟩, h5, h6⟩ := h
  have g : agj S_Y (zhv [] A' X) A' := agj.hv (by decide +kernel) hN
  have eJ : zJ (zhv [] A' X) 354 = zJ A' 354 := funext (fun x => zhv_bJ (by decide) rfl)
  refine ⟨h1.tr g, ⟨⟨l, (zhv_bF (by decide) rfl).trans h2, h3⟩, ?_⟩, (zhv_bF (by decide) rfl).trans h5, (zhv_bF (by decide) rfl).trans h6⟩
  rw [eJ]
  exact lwOK_ag g h4
theorem laB.w (h : laB a A V A') : laB a A V' (zuF A' 343 20 (.int (Int32.ofNat V'))) := by
  obtain ⟨h1, ⟨⟨l, h2, h3⟩, h4⟩, h5, -⟩ := h
  have g : agj S_Y (zuF A' 343 20 (.int (Int32.ofNat V'))) A' := agj.nF (by decide) (by decide +kernel)
  refine ⟨h1.tr g, ⟨⟨l, ?_, h3⟩, lwOK_ag g h4⟩, ?_, ?_⟩
  · rw [zuF_x, if_neg (by decide)]
    exact h2
  · rw [zuF_x, if_neg (by decide)]
    exact h5
  · rw [zuF_x, if_pos ⟨rfl, rfl⟩]
end
def in_la24 (a : laA) (A : zW) : fL_ → List Value → zW → Prop := fun lg vs A' => ∃ e : Nat, f_sub [(1, false, .int (Int32.ofNat e)), (0, false, .ref 343)] lg ∧ vs = [] ∧ laB a A (vwN (mvP A a.2.1 a.2.2) e) A' ∧ (e : Int) ≤ a.1.toInt
def in_la87 (a : laA) (A : zW) : fL_ → List Value → zW → Prop := fun lg vs A' => ∃ S : Nat, f_sub [(1, false, .int (Int32.ofNat S)), (0, false, .ref 343)] lg ∧ vs = [] ∧ laB a A (vwN (mvP A a.2.1 a.2.2) a.1.toInt.toNat) A' ∧ S ≤ 4096
theorem laQ_of {a : laA} {A A' : zW} (hp : laP a A) (g : agj S_Y A' A) (h : (∃ l : Int32, zF A' 343 17 = .int l ∧ ¬ l.toInt = 0) ∧ lwOK A' (zJ A' 354) (2 ^ a.1.toInt.toNat)) (h2 : ∃ v : Int32, zF A' 343 19 = .int v) (h3 : zF A' 343 20 = .int (Int32.ofNat (vwN (mvP A a.2.1 a.2.2) a.1.toInt.toNat))) : laQ a A A' := by
  obtain ⟨⟨hn, n0, n1⟩, hs, ⟨ht, hk⟩, -⟩ := hp
  obtain ⟨⟨l, l1, l2⟩, hl⟩ := h
  obtain ⟨v, hv⟩ := h2
  have F : ∀ q i, q < 385 → (zn lp_sh q, i) ∈ S_Y → zF A' q i = zF A q i := g.1.1
  rw [← mvP_ag g] at h3
  exact ⟨g, ⟨⟨(F 343 8 (by decide) (by decide +kernel)).trans hn, n0, n1⟩, sei_ag g hs, ⟨(F 343 15 (by decide) (by decide +kernel)).trans ht, (F 343 16 (by decide) (by decide +kernel)).trans hk⟩, ⟨l, l1, fun _ => hl⟩, v, hv, fun _ => h3⟩, hl, h3⟩
/-- the fields that are read on the way -/
theorem laB.r {a : laA} {A A' : zW} {V : Nat} (hp : laP a A) (h : laB a A V A') : zF A' 343 8 = .int a.1 ∧ zF A' 343 15 = .int a.2.1 ∧ zF A' 343 16 = .int a.2.2 := by
  obtain ⟨⟨hn, -⟩, -, ⟨ht, hk⟩, -⟩ := hp
  have F : ∀ q i, q < 385 → (zn lp_sh q, i) ∈ S_Y → zF A' q i = zF A q i := h.1.1.1
  exact ⟨(F 343 8 (by decide) (by decide +kernel)).trans hn, (F 343 15 (by decide) (by decide +kernel)).trans ht, (F 343 16 (by decide) (by decide +kernel)).trans hk⟩
def zQ_ih : zQ := zhq 2 []
set_option maxRecDepth 20000 in
theorem za_X12_isHarmony : zdo r_X12_isHarmony zQ_ih := zdo_hv (by decide) (by decide)
theorem la_21 : ¬ (zn lp_sh 343, 21) ∈ S_Y := by decide +kernel
theorem la_23 : ¬ (zn lp_sh 343, 23) ∈ S_Y := by decide +kernel
theorem la_25 : ¬ (zn lp_sh 343, 25) ∈ S_Y := by decide +kernel
theorem la_26 : ¬ (zn lp_sh 343, 26) ∈ S_Y := by decide +kernel
theorem la_355 : ¬ (zn lp_sh 355, 0) ∈ S_Y := by decide +kernel
theorem la_356 : ¬ (zn lp_sh 356, 0) ∈ S_Y := by decide +kernel
set_option maxRecDepth 20000 in
set_option maxHeartbeats 16000000 in
theorem zc_X12_lay : zdo r_X12_lay zq_lay8 := by
  refine zdo_of _ _ _ [(834, 1, zq_layW), (843, 2, zq_isInView), (888, 2, zQ_ih), (897, 2, zq_weightOf)] (fun a A => [(24, in_la24 a A), (87, in_la87 a A)]) 120 fo_X12 rfl (zs_cons rfl zc_X12_layWorlds (zs_cons rfl zc_X12_isInView (zs_cons rfl za_X12_isHarmony (zs_cons rfl za_X12_weightOf zs_nil)))) k_X12_lay (fun a A hp => ?_) (fun a A hp => ?_)
  · obtain ⟨n, t, k⟩ := a
    have n0 : 0 ≤ n.toInt := hp.1.2.1
    have n1 : n.toInt ≤ 12 := hp.1.2.2
    have h2n := n32_n n0 n1
    have hm := p2_le n.toInt.toNat (by omega)
    refine List.forall_mem_cons.mpr ⟨?_, List.forall_mem_cons.mpr ⟨?_, fun _ h => absurd h List.not_mem_nil⟩⟩
    · rintro lg vs A' ⟨e, hs, rfl, hB, he⟩
      have he : (e : Int) ≤ n.toInt := he
      have hB : laB (n, t, k) A (vwN (mvP A t k) e) A' := hB
      obtain ⟨r8, r15, r16⟩ := hB.r hp
      have r8 : zF A' 343 8 = .int n := r8
      have r15 : zF A' 343 15 = .int t := r15
      have r16 : zF A' 343 16 = .int k := r16
      have te := n32_t (show e < 4096 by omega)
      have eq1 : some (false, Value.int (Int32.ofNat e + Int32.ofInt 1)) = some (false, .int (Int32.ofNat (e + 1))) := by rw [n32_s (by omega)]
      refine ⟨_, 100, hs, fun h => ?_, fun h => ?_⟩
      · have h : (iv (zF A' 343 8)).toInt ≤ (Int32.ofNat e).toInt := h
        rw [r8, te] at h
        have h : n.toInt ≤ (e : Int) := h
        rw [show e = n.toInt.toNat by omega] at hB
        refine ⟨rfl, rfl, rfl, rfl, 0, ⟨rfl, rfl, trivial⟩, rfl, ?_, (by decide : 0 ≤ 4096)⟩
        exact (((hB.F (k := 21) (by decide) la_21).F (k := 23) (by decide) la_23).F (k := 25) (by decide) la_25).F (k := 26) (by decide) la_26
      · have h : ¬ (iv (zF A' 343 8)).toInt ≤ (Int32.ofNat e).toInt := h
        rw [r8, te] at h
        have h : ¬ n.toInt ≤ (e : Int) := h
        have le1 : ((e + 1 : Nat) : Int) ≤ n.toInt := by omega
        have h20 := hB.2.2.2
        have eP : mvP A' t k e = mvP A t k e := congrFun (mvP_ag hB.1) e
        refine ⟨(e, t, k), rfl, ⟨(show e < 12 by omega), r15, r16⟩, fun h2 => ?_, fun h2 => ?_⟩
        · have h2 : (zb (mvP A' t k e)).toInt = 0 := h2
          have h2 := zb_f h2
          rw [eP] at h2
          have e20 : iv (zF A' 343 20) ||| Int32.ofInt 0 = Int32.ofNat (vwN (mvP A t k) (e + 1)) := by
            rw [h20, vwN_s (by rw [h2]; exact Bool.false_ne_true)]
            show Int32.ofNat (vwN (mvP A t k) e) ||| Int32.ofNat 0 = _
            rw [n32_or, Nat.or_zero]
          refine ⟨rfl, e + 1, ⟨eq1, rfl, trivial⟩, rfl, ?_, le1⟩
          show laB (n, t, k) A (vwN (mvP A t k) (e + 1)) (zuF A' 343 20 (.int (iv (zF A' 343 20) ||| Int32.ofInt 0)))
          rw [e20]
          exact laB.w hB
        · have h2 : ¬ (zb (mvP A' t k e)).toInt = 0 := h2
          have h2 := zb_t h2
          rw [eP] at h2
          have e20 : iv (zF A' 343 20) ||| (Int32.ofInt 1 <<< (Int32.ofNat e &&& 31)) = Int32.ofNat (vwN (mvP A t k) (e + 1)) := by
            rw [h20]
            exact n32_vw (by omega) h2
          refine ⟨rfl, e + 1, ⟨eq1, rfl, trivial⟩, rfl, ?_, le1⟩
          show laB (n, t, k) A (vwN (mvP A t k) (e + 1)) (zuF A' 343 20 (.int (iv (zF A' 343 20) ||| (Int32.ofInt 1 <<< (Int32.ofNat e &&& 31)))))
          rw [e20]
          exact laB.w hB
    · rintro lg vs A' ⟨S, hs, rfl, hB, hS⟩
      have hS : S ≤ 4096 := hS
      have hB : laB (n, t, k) A (vwN (mvP A t k) n.toInt.toNat) A' := hB
      obtain ⟨r8, -, -⟩ := hB.r hp
      have r8 : zF A' 343 8 = .int n := r8
      have tS : (Int32.ofNat S).toInt = (S : Int) := Int32.toInt_ofNat_of_lt (by omega)
      have eq1 : some (false, Value.int (Int32.ofNat S + Int32.ofInt 1)) = some (false, .int (Int32.ofNat (S + 1))) := by rw [n32_s (by omega)]
      refine ⟨_, 100, hs, fun h => ?_, fun h => ?_⟩
      · exact ⟨rfl, laQ_of hp hB.1 hB.2.1 ⟨_, hB.2.2.1⟩ hB.2.2.2⟩
      · have h : ¬ (Int32.ofInt 1 <<< (iv (zF A' 343 8) &&& 31)).toInt ≤ (Int32.ofNat S).toInt := h
        rw [r8] at h
        have h : ¬ (Int32.ofInt 1 <<< (n &&& 31)).toInt ≤ (Int32.ofNat S).toInt := h
        rw [h2n, tS] at h
        have le1 : S + 1 ≤ 4096 := by omega
        refine ⟨fun h2 => ?_, fun h2 => ?_⟩
        · exact ⟨S + 1, ⟨eq1, rfl, trivial⟩, rfl, hB, le1⟩
        intro X u hu hN
        obtain ⟨x, rfl, -⟩ := hu
        have hH := hB.H hN
        refine ⟨fun h3 => ?_, fun h3 => ?_⟩
        · exact ⟨S + 1, ⟨eq1, rfl, trivial⟩, rfl, hH, le1⟩
        have h1 := (hH.I (i := (iv (zF (zhv [] A' X) 343 21)).toNatClampNeg) (x := Int32.ofNat S) (q := 355) (by decide) la_355)
        refine ⟨rfl, rfl, ?_⟩
        have h4 : ∀ v w : Value, laB (n, t, k) A (vwN (mvP A t k) n.toInt.toNat) (zuF (zuF (zuI (zhv [] A' X) 355 (iv (zF (zhv [] A' X) 343 21)).toNatClampNeg (Int32.ofNat S)) 343 21 v) 343 26 w) := fun v w => (h1.F (by decide) la_21).F (by decide) la_26
        refine ⟨(Int32.ofNat S, n), rfl, ⟨?_, n0, n1⟩, ?_⟩
        · exact ((h4 _ _).r hp).1
        · refine ⟨fun h5 => ⟨rfl, fun h6 => ?_, fun h6 => ?_⟩, fun h5 => ⟨rfl, fun h6 => ?_, fun h6 => ?_⟩⟩
          · exact ⟨S + 1, ⟨eq1, rfl, trivial⟩, rfl, (h4 _ _).F (k := 23) (by decide) la_23, le1⟩
          · exact ⟨rfl, rfl, S + 1, ⟨eq1, rfl, trivial⟩, rfl, ((((h4 _ _).F (k := 23) (by decide) la_23).F (k := 25) (by decide) la_25).I (q := 356) (by decide) la_356).F (k := 23) (by decide) la_23, le1⟩
          · exact ⟨S + 1, ⟨eq1, rfl, trivial⟩, rfl, (h4 _ _).F (k := 23) (by decide) la_23, le1⟩
          · exact ⟨rfl, rfl, S + 1, ⟨eq1, rfl, trivial⟩, rfl, ((((h4 _ _).F (k := 23) (by decide) la_23).F (k := 25) (by decide) la_25).I (q := 356) (by decide) la_356).F (k := 23) (by decide) la_23, le1⟩
  · obtain ⟨n, t, k⟩ := a
    obtain ⟨⟨hn, n0, n1⟩, hs0, ⟨ht, hk⟩, ⟨l, hl, hlw⟩, v, hv, hvw⟩ := id hp
    refine ⟨(n, l), rfl, ⟨⟨hn, n0, n1⟩, hs0, hl, hlw⟩, ?_⟩
    rintro rv A1 ⟨rfl, l1, f, eA, hl1, hf⟩
    have g : agj S_Y A1 A := by rw [eA]; exact zlw_ag
    have e17 : zF A1 343 17 = .int l1 := by
      rw [eA]
      show zF (zuF A 343 17 (.int l1)) 343 17 = _
      rw [zuF_x, if_pos ⟨rfl, rfl⟩]
    have e19 : zF A1 343 19 = .int v := by
      rw [eA]
      show zF (zuF A 343 17 (.int l1)) 343 19 = _
      rw [zuF_x, if_neg (by decide)]
      exact hv
    have eJ : zJ A1 354 = f := by rw [eA]; exact zJ_s
    have hL : lwOK A1 (zJ A1 354) (2 ^ n.toInt.toNat) := by
      rw [eJ]
      exact lwOK_ag g hf
    refine ⟨fun h => ?_, fun h => ?_⟩
    · have g2 : agj S_Y (zuF (zuF A1 343 19 (.int (Int32.ofInt 1))) 343 20 (.int (Int32.ofInt 0))) A1 := agj.tr (agj.nF (by decide) (by decide +kernel)) (agj.nF (by decide) (by decide +kernel))
      refine ⟨rfl, rfl, 0, ⟨rfl, rfl, trivial⟩, rfl, ⟨g.tr g2, ⟨⟨l1, ?_, hl1⟩, lwOK_ag g2 hL⟩, ?_, ?_⟩, n0⟩
      · show zF (zuF (zuF A1 343 19 (.int (Int32.ofInt 1))) 343 20 (.int (Int32.ofInt 0))) 343 17 = .int l1
        rw [zuF_x, if_neg (by decide), zuF_x, if_neg (by decide)]
        exact e17
      · show zF (zuF (zuF A1 343 19 (.int (Int32.ofInt 1))) 343 20 (.int (Int32.ofInt 0))) 343 19 = .int (Int32.ofInt 1)
        rw [zuF_x, if_neg (by decide), zuF_x, if_pos ⟨rfl, rfl⟩]
      · show zF (zuF (zuF A1 343 19 (.int (Int32.ofInt 1))) 343 20 (.int (Int32.ofInt 0))) 343 20 = .int (Int32.ofNat 0)
        rw [zuF_x, if_pos ⟨rfl, rfl⟩]
        rfl
    · have h : ¬ (iv (zF A1 343 19)).toInt = 0 := h
      rw [e19] at h
      have e20 : zF A1 343 20 = zF A 343 20 := by
        rw [eA]
        show zF (zuF A 343 17 (.int l1)) 343 20 = _
        rw [zuF_x, if_neg (by decide)]
      exact ⟨rfl, laQ_of hp g ⟨⟨l1, e17, hl1⟩, hL⟩ ⟨v, e19⟩ (by rw [e20]; exact hvw h)⟩
