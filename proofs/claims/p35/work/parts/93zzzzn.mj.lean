/-! what both sides keep of merging, right for what they hold -/
def st9E (A : zW) (S w : Nat) : Nat := if okE A S w = true then 0 else 9
def cmR9 (A : zW) (V : Nat) (n : Int32) (A' : zW) : Prop := zF A' 324 1 = .int (Int32.ofNat (vwN (tkM A V n) 6)) ∧ ∀ x, x < 6 → tkM A V n x = true → ∀ w, w < 256 → zI A' (326 + x) w = Int32.ofNat (spr (st9E A (srcM A V x n)) 8 w)
def jmC (A : zW) (n : Int32) : Prop := ∃ sv : Int32, zF A 324 3 = .int sv ∧ (0 ≤ sv.toInt → sv.toInt.toNat < 2 ^ n.toInt.toNat ∧ cmR9 A sv.toInt.toNat n A)
def jmM (A : zW) (n t k : Int32) : Prop := ∃ m : Int32, zF A 343 55 = .int m ∧ (¬ m.toInt = 0 → mmR A (vwN (mvP A t k) n.toInt.toNat) n A)
def jmm (A : zW) (n t k : Int32) : Prop := jmC A n ∧ jmM A n t k
def S_10 : List (Nat × Nat) := [(49, 0), (50, 0), (45, 0), (16, 1), (16, 3), (43, 0), (51, 0), (52, 0), (53, 0), (54, 0), (17, 55), (17, 56), (76, 0)]
theorem s10_Y : ∀ y ∈ S_10, y ∈ S_Y := by decide
theorem vwN_more {P : Nat → Bool} {n : Nat} (h : ∀ i, n ≤ i → P i = false) : ∀ {d : Nat}, vwN P (n + d) = vwN P n
  | 0 => rfl
  | d + 1 => by
    have e : vwN P (n + d + 1) = vwN P (n + d) := vwN_s (fun z => by
      rw [h (n + d) (Nat.le_add_right n d)] at z
      cases z)
    exact e.trans (vwN_more h)
section
variable {A A' B B' : zW} {V : Nat} {n n' : Int32}
/-- the entries that were there, as they were -/
def olds (n : Int32) (A A' : zW) : Prop := (∀ e : Nat, (e : Int) < n.toInt → zI A' 349 e = zI A 349 e) ∧ ∀ w e : Nat, (e : Int) < n.toInt → seb A' w e = seb A w e
theorem olds.src (h : olds n A A') (hn : n.toInt ≤ n'.toInt) (h0 : 0 ≤ n.toInt) (hV : V < 2 ^ n.toInt.toNat) (u : Nat) : srcM A' V u n' = srcM A V u n := by
  obtain ⟨d, hd⟩ : ∃ d, n'.toInt.toNat = n.toInt.toNat + d := ⟨n'.toInt.toNat - n.toInt.toNat, by omega⟩
  unfold srcM
  rw [hd, vwN_more (fun i hi => by
    unfold bmP
    rw [Nat.testBit_lt_two_pow (Nat.lt_of_lt_of_le hV (Nat.pow_le_pow_right (by decide) hi))]
    rfl)]
  refine vwN_eq (fun e he => ?_)
  unfold bmP
  rw [h.1 e (by omega)]
theorem olds.ok (h : olds n A A') (u w : Nat) : okE A' (srcM A V u n) w = okE A (srcM A V u n) w := by
  rw [Bool.eq_iff_iff, okE_t, okE_t]
  constructor
  · intro z e he hb
    have h3 := tb_n (srcM_lt (A := A) (V := V) (u := u) (n := n)) hb
    rw [← h.2 w e (by omega)]
    exact z e he hb
  · intro z e he hb
    have h3 := tb_n (srcM_lt (A := A) (V := V) (u := u) (n := n)) hb
    rw [h.2 w e (by omega)]
    exact z e he hb
theorem olds.tk (h : olds n A A') (hn : n.toInt ≤ n'.toInt) (h0 : 0 ≤ n.toInt) (hV : V < 2 ^ n.toInt.toNat) : tkM A' V n' = tkM A V n := funext (fun u => by
  unfold tkM
  rw [h.src hn h0 hV, show okE A' (srcM A V u n) = okE A (srcM A V u n) from funext (fun w => h.ok u w)])
theorem olds.C (h : olds n A A') (hn : n.toInt ≤ n'.toInt) (h0 : 0 ≤ n.toInt) (hV : V < 2 ^ n.toInt.toNat) (hF : zF B' 324 1 = zF B 324 1) (hI : ∀ x w, x < 6 → zI B' (326 + x) w = zI B (326 + x) w) (hc : cmR9 A V n B) : cmR9 A' V n' B' := by
  unfold cmR9
  rw [h.tk hn h0 hV, hF]
  refine ⟨hc.1, fun x hx ht w hw => ?_⟩
  rw [hI x w hx, hc.2 x hx ht w hw, h.src hn h0 hV]
  have e : st9E A' (srcM A V x n) = st9E A (srcM A V x n) := funext (fun y => by
    unfold st9E
    rw [h.ok])
  rw [e]
theorem jmC_of (h : jmC A n) (h0 : 0 ≤ n.toInt) (ho : olds n A A') (hn : n.toInt ≤ n'.toInt) (h3 : zF A' 324 3 = zF A 324 3) (h1 : zF A' 324 1 = zF A 324 1) (hI : ∀ x w, x < 6 → zI A' (326 + x) w = zI A (326 + x) w) : jmC A' n' := by
  obtain ⟨sv, a1, a2⟩ := h
  refine ⟨sv, h3.trans a1, fun z => ?_⟩
  obtain ⟨b1, b2⟩ := a2 z
  exact ⟨Nat.lt_of_lt_of_le b1 (Nat.pow_le_pow_right (by decide) (by omega)), ho.C hn h0 b1 h1 hI b2⟩
theorem sh_far : ∀ x, x < 6 → (zn lp_sh (326 + x), 0) ∈ S_10 := by decide +kernel
theorem olds_ag (g : agj S_10 A' A) : olds n A A' := ⟨fun e _ => (g.1.2.1 349 e (by decide) (by decide +kernel)).1, fun w e _ => by
  unfold seb sew ses
  rw [(g.1.2.1 348 e (by decide) (by decide +kernel)).1, g.2 344 _ (by decide) (by decide +kernel)]⟩
theorem mvP_10 {t k : Int32} (g : agj S_10 A' A) : mvP A' t k = mvP A t k := funext (fun e => by
  have I : ∀ q i, q < 385 → (zn lp_sh q, 0) ∈ S_10 → zI A' q i = zI A q i := fun q i a b => (g.1.2.1 q i a b).1
  unfold mvP
  rw [I 350 e (by decide) (by decide +kernel), I 351 e (by decide) (by decide +kernel), I 352 e (by decide) (by decide +kernel), I 353 e (by decide) (by decide +kernel)])
theorem jmm_ag {t k : Int32} (h : jmm A n t k) (h0 : 0 ≤ n.toInt) (g : agj S_10 A' A) : jmm A' n t k := by
  obtain ⟨hc, m, m1, m2⟩ := h
  refine ⟨jmC_of hc h0 (olds_ag g) (Int.le_refl _) (g.1.1 324 3 (by decide) (by decide +kernel)) (g.1.1 324 1 (by decide) (by decide +kernel)) (fun x w hx => (g.1.2.1 _ w (by omega) (sh_far x hx)).1), m, (g.1.1 343 55 (by decide) (by decide +kernel)).trans m1, fun z => ?_⟩
  rw [mvP_10 g]
  exact mm_of (funext (fun u => funext (fun e => by
    unfold bmP
    rw [(g.1.2.1 349 e (by decide) (by decide +kernel)).1]))) (olds_ag (n := n) g).2 (g.1.1 343 56 (by decide) (by decide +kernel)) (fun i => (g.1.2.1 375 i (by decide) (by decide +kernel)).1) (m2 z)
/-- the reference's isn't laid any more -/
theorem jmm_off {t k t' k' : Int32} (h : jmm A n t k) (h0 : 0 ≤ n.toInt) (ho : olds n A A') (hn : n.toInt ≤ n'.toInt) (h3 : zF A' 324 3 = zF A 324 3) (h1 : zF A' 324 1 = zF A 324 1) (hI : ∀ x w, x < 6 → zI A' (326 + x) w = zI A (326 + x) w) (h55 : zF A' 343 55 = .int (Int32.ofInt 0)) : jmm A' n' t' k' :=
  ⟨jmC_of h.1 h0 ho hn h3 h1 hI, Int32.ofInt 0, h55, fun z => absurd (by decide) z⟩
end
/-- with what is given up, of entries' worlds, laid -/
def jq (A : zW) : Prop := ∃ n t k c : Int32, jyy A n t k c ∧ jmm A n t k
def S_Q : List (Nat × Nat) := S_8 ++ S_10
theorem s8_Q : ∀ y ∈ S_8, y ∈ S_Q := by decide
theorem s10_Q : ∀ y ∈ S_10, y ∈ S_Q := by decide
theorem jyy.n0 {A : zW} {n t k c : Int32} (h : jyy A n t k c) : 0 ≤ n.toInt := h.1.1.1.2.1
theorem jq_ag (A A' : zW) (h : jq A) (g : agj S_Q A' A) : jq A' := by
  obtain ⟨n, t, k, c, ⟨h1, h2, h3⟩, hm⟩ := h
  have g8 := g.sub s8_Q
  exact ⟨n, t, k, c, ⟨h1.ag (g8.sub sB_8), h2.ag g8, h3.ag g8⟩, jmm_ag hm h1.1.1.2.1 (g.sub s10_Q)⟩
theorem layq_call (Us : List Value) (A : zW) (Kt : Option Value → zW → Prop) (h1 : kts [345] Us) (h2 : jq A) (h3 : ∀ (rv : Option Value) (A' : zW), kts [] rv.toList → jq A' → Kt rv A') : zq_lay8 Us A Kt := by
  obtain ⟨n, t, k, c, hy, hm⟩ := h2
  have e : Us = [.ref 343] := by
    obtain ⟨u, s, rfl, a, b⟩ := kts1 h1
    cases s with
    | nil =>
      have a : u = .ref 343 := a
      rw [a]
    | cons _ _ => exact b.elim
  refine ⟨(n, t, k), e, jy_la hy, ?_⟩
  rintro rv A' ⟨rfl, hq⟩
  exact h3 none A' trivial ⟨n, t, k, c, laQ_jy hy hq, jmm_ag hm hy.n0 (hq.1.sub s10_Y)⟩
theorem gSame.ag8 {A A' : zW} (g : gSame A A') : agj S_8 A' A := by
  refine ⟨⟨fun q i hq hm => g.1 q i (fun z => ?_), fun q i hq hm => ⟨g.2.1 q i (fun z => ?_), g.2.2.2.1 q i⟩, by rw [g.2.2.2.2.2]; exact Nat.le_refl _, fun j ci ty h1 h2 hK => ⟨by rw [g.2.2.2.2.1]; exact hK, fun i _ => g.1 j i (by omega)⟩⟩, fun q i _ _ => g.2.2.1 q i⟩
  · obtain ⟨rfl, rfl | rfl⟩ := z
    · exact absurd hm (by decide +kernel)
    · exact absurd hm (by decide +kernel)
  · subst z
    exact absurd hm (by decide +kernel)
theorem jq_ml {A A' : zW} {n t k c m : Int32} (hy : jyy A n t k c) (hm : jmm A n t k) (hQ : mlQ ((n, t, k), m) A A') : jyy A' n t k c ∧ jmm A' n t k := by
  obtain ⟨A1, hq, g, ⟨m', e1, e2⟩, hr⟩ := hQ
  have hq : laQ (n, t, k) A A1 := hq
  have hr : mmR A1 (mvV (n, t, k) A) n A' := hr
  have hy1 := laQ_jy hy hq
  have hm1 := jmm_ag hm hy.n0 (hq.1.sub s10_Y)
  have g8 := g.ag8
  have ho : olds n A1 A' := ⟨fun e _ => g.2.1 349 e (by decide), fun w e _ => by rw [g.sebx]⟩
  have eV : vwN (mvP A' t k) n.toInt.toNat = mvV (n, t, k) A := by
    rw [mvP_b (g8.sub sB_8), mvP_ag hq.1]
    rfl
  refine ⟨⟨hy1.1.ag (g8.sub sB_8), hy1.2.1.ag g8, hy1.2.2.ag g8⟩, jmC_of hm1.1 hy.n0 ho (Int.le_refl _) (g.1 324 3 (by omega)) (g.1 324 1 (by omega)) (fun x w hx => g.2.1 _ w (by omega)), m', e1, fun _ => ?_⟩
  rw [eV]
  exact mm_of (funext (fun u => g.bm (mvV (n, t, k) A) u)) (fun w e _ => by rw [g.sebx]) rfl (fun _ => rfl) hr
theorem jq_mp {A : zW} {n t k c : Int32} (hy : jyy A n t k c) (hm : jmm A n t k) : ∃ m, mlP ((n, t, k), m) A := by
  obtain ⟨-, m, m1, m2⟩ := hm
  exact ⟨m, jy_la hy, m1, m2⟩
theorem lmq_call (Us : List Value) (A : zW) (Kt : Option Value → zW → Prop) (h1 : kts [345] Us) (h2 : jq A) (h3 : ∀ (rv : Option Value) (A' : zW), kts [] rv.toList → jq A' → Kt rv A') : zq_layMerge Us A Kt := by
  obtain ⟨n, t, k, c, hy, hm⟩ := h2
  have e : Us = [.ref 343] := by
    obtain ⟨u, s, rfl, a, b⟩ := kts1 h1
    cases s with
    | nil =>
      have a : u = .ref 343 := a
      rw [a]
    | cons _ _ => exact b.elim
  obtain ⟨m, hp⟩ := jq_mp hy hm
  refine ⟨((n, t, k), m), e, hp, ?_⟩
  rintro rv A' ⟨rfl, hq⟩
  obtain ⟨k1, k2⟩ := jq_ml hy hm hq
  exact h3 none A' trivial ⟨n, t, k, c, k1, k2⟩
def j10 (w : lW) : Prop := ∃ A, zA A w.1 w.2 ∧ jq A
def J10 (B : Nat → Nat) : lW → Prop := fun w => J7 B w ∧ j10 w
theorem J10.j8 {B : Nat → Nat} {w : lW} (h : J10 B w) : J8 B w := by
  obtain ⟨h7, A, hA, n, t, k, c, hy, -⟩ := h
  exact ⟨h7, A, hA, n, t, k, c, hy⟩
section
variable {B : Nat → Nat} {rt : Nat} {Wr : List (Nat × Nat)} {T : fT} {cc : ByteArray} {As : List Value} {w w' : lW} {rv : Option Value}
theorem kp10 (h : fLr (fq cw_TT cw_SG rt Wr T cc) As w rv w') (hJ : j10 w) (hk : bs_K.all (fun x => !(Wr.contains x)) = true) (hw : nW S_Q Wr = true) : j10 w' := by
  obtain ⟨A, hA, hj⟩ := hJ
  obtain ⟨X, hN, hA'⟩ := z_fr h hA hk
  exact ⟨_, hA', jq_ag _ _ hj (agj.hv hw hN)⟩
theorem kq10 {r : fR} {tags : List Nat} {s : List Value} (hr : zdo r (zkq (345 :: tags) rt jq)) (h : fLr r (.ref (B 343) :: s) w rv w') (hb : bI B w) (hJ : j10 w) (hs : zvs w.1 s s) (ht : kts tags s) : j10 w' := by
  obtain ⟨A, hA, hj⟩ := hJ
  obtain ⟨A', u, hA', -, hK⟩ := zrun hr h hA (zargs hb (by decide) hs) (K := fun _ A' => jq A') ⟨⟨rfl, ht⟩, hj, fun _ _ _ h => h⟩
  exact ⟨A', hA', hK⟩
end
/-! on any of a world's pictures -/
theorem bt_324 : lp_sh[324]? = some 16 := by decide +kernel
theorem zu_324 {B : Nat → Nat} {w : lW} {A A' : zW} {tys : List (ClassId × FieldType)} (hb : bI B w) (hw : ck_wo tys cw_TT cw_SG w.1 w.2) (h : zA A w.1 w.2) (h' : zA A' w.1 w.2) {k : Nat} (hk : k < 4) (hz : zc 324 k = 0) : zF A' 324 k = zF A 324 k := by
  obtain ⟨c, hc⟩ := lp_L2_at (show 324 < 385 by decide)
  obtain ⟨e, h1, -⟩ := hb.2.2 324 c hc
  obtain ⟨td, d1, d2⟩ := hw.2.1 324 _ e 16 h1 (hb.2.1 324 16 bt_324)
  have d1 : cw_TT[16]? = some td := d1
  have e1 : td = (0, 6, 0, _) := Option.some.inj (d1.symm.trans rfl)
  subst e1
  obtain ⟨vs, rfl, hl, -⟩ := d2
  exact zu_F h h' h1 (show k < vs.length by rw [hl]; exact hk) hz
theorem j10_on {B : Nat → Nat} {w : lW} {A' : zW} {tys : List (ClassId × FieldType)} (hb : bI B w) (hw : ck_wo tys cw_TT cw_SG w.1 w.2) (h10 : j10 w) (hA' : zA A' w.1 w.2) : ∃ n t k : Int32, zF A' 343 8 = .int n ∧ zF A' 343 15 = .int t ∧ zF A' 343 16 = .int k ∧ jmm A' n t k := by
  obtain ⟨A, hA, n, t, k, c, hy, hc, m, m1, m2⟩ := h10
  obtain ⟨⟨a1, n0, n1⟩, a2, a3, a4⟩ := id hy.1.1
  have F : ∀ k, k < 68 → zc 343 k = 0 → zF A' 343 k = zF A 343 k := fun k hk hz => zu_F' hb hw hA hA' hk hz
  have i348 : ∀ i, zI A' 348 i = zI A 348 i := zu_I' hb hw hA hA' u_348 (t := 49) (by decide +kernel) (show cw_TT[49]? = some (1, 12, _, _) from rfl)
  obtain ⟨c349, h349⟩ := lp_L2_at (show 349 < 385 by decide)
  have i349 : ∀ i, zI A' 349 i = zI A 349 i := zu_I' hb hw hA hA' h349 (t := 50) (by decide +kernel) (show cw_TT[50]? = some (1, 12, _, _) from rfl)
  have i350 : ∀ i, zI A' 350 i = zI A 350 i := zu_I' hb hw hA hA' u_350 (t := 51) (by decide +kernel) (show cw_TT[51]? = some (1, 12, _, _) from rfl)
  have i351 : ∀ i, zI A' 351 i = zI A 351 i := zu_I' hb hw hA hA' u_351 (t := 52) (by decide +kernel) (show cw_TT[52]? = some (1, 12, _, _) from rfl)
  have i352 : ∀ i, zI A' 352 i = zI A 352 i := zu_I' hb hw hA hA' u_352 (t := 53) (by decide +kernel) (show cw_TT[53]? = some (1, 12, _, _) from rfl)
  have i353 : ∀ i, zI A' 353 i = zI A 353 i := zu_I' hb hw hA hA' u_353 (t := 54) (by decide +kernel) (show cw_TT[54]? = some (1, 12, _, _) from rfl)
  obtain ⟨c375, h375⟩ := lp_L2_at (show 375 < 385 by decide)
  have i375 : ∀ i, zI A' 375 i = zI A 375 i := zu_I' hb hw hA hA' h375 (t := 76) (by decide +kernel) (show cw_TT[76]? = some (1, 1536, _, _) from rfl)
  obtain ⟨c344, h344⟩ := lp_L2_at (show 344 < 385 by decide)
  have j344 : ∀ i, zJ A' 344 i = zJ A 344 i := zu_J' hb hw hA hA' h344 (t := 45) (by decide +kernel) (show cw_TT[45]? = some (2, 240, _, _) from rfl)
  have sh43 : ∀ x, x < 6 → lp_sh[326 + x]? = some 43 := by decide +kernel
  have i326 : ∀ x w, x < 6 → zI A' (326 + x) w = zI A (326 + x) w := fun x w hx => by
    obtain ⟨cx, hcx⟩ := lp_L2_at (show 326 + x < 385 by omega)
    exact zu_I' hb hw hA hA' hcx (sh43 x hx) (show cw_TT[43]? = some (1, 256, _, _) from rfl) w
  have eseb : ∀ w e, seb A' w e = seb A w e := fun w e => by
    unfold seb sew ses
    rw [i348, j344]
  have emv : mvP A' t k = mvP A t k := funext (fun e => by
    unfold mvP
    rw [i350, i351, i352, i353])
  have ho : olds n A A' := ⟨fun e _ => i349 e, fun w e _ => eseb w e⟩
  refine ⟨n, t, k, (F 8 (by decide) (by decide +kernel)).trans a1, (F 15 (by decide) (by decide +kernel)).trans a2, (F 16 (by decide) (by decide +kernel)).trans a3, jmC_of hc n0 ho (Int.le_refl _) (zu_324 hb hw hA hA' (by decide) (by decide +kernel)) (zu_324 hb hw hA hA' (by decide) (by decide +kernel)) i326, m, (F 55 (by decide) (by decide +kernel)).trans m1, fun z => ?_⟩
  rw [emv]
  exact mm_of (funext (fun u => funext (fun e => by
    unfold bmP
    rw [i349]))) ho.2 (F 56 (by decide) (by decide +kernel)) i375 (m2 z)
/-- both sides' state, opened, with it -/
theorem J10.o {B : Nat → Nat} {w : lW} {tys : List (ClassId × FieldType)} (hJ : J10 B w) (hw : ck_wo tys cw_TT cw_SG w.1 w.2) : ∃ (A : zW) (n m q t k c : Int32), zA A w.1 w.2 ∧ O8 A n m q t k c ∧ jmm A n t k := by
  have h8 := J10.j8 hJ
  obtain ⟨A, n, m, q, t, k, c, hA, o⟩ := J8.o h8 hw
  obtain ⟨n', t', k', e1, e2, e3, hm⟩ := j10_on hJ.1.1.1.b hw hJ.2 hA
  obtain ⟨⟨a1, -⟩, a2, a3, -⟩ := id o.y.1.1
  have en : n' = n := by
    rw [a1] at e1
    injection e1 with z
    exact z.symm
  have et : t' = t := by
    rw [a2] at e2
    injection e2 with z
    exact z.symm
  have ek : k' = k := by
    rw [a3] at e3
    injection e3 with z
    exact z.symm
  subst en
  subst et
  subst ek
  exact ⟨A, n', m, q, t', k', c, hA, o, hm⟩
